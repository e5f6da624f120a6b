set_option maxHeartbeats 4000000 in
set_option maxRecDepth 100000 in
theorem c_X7_most_v6 (l : Launch) (dC : Nat → ClassId) (dI : Nat → Nat → Nat) (cI cJ cZ cM : ClassId) (p0 : Nat) (p1 : Int32) (p2 : Int32) (b_0 : 9 ≤ p1.toInt) (t_0 : p1.toInt ≤ 2147483647)  : k_Mi l yX7_most wsX7_most ({ frames := 2, cells := 0, slots := 0, locals := 62 }) (dC, dI) vwCl (tyy cI cJ cZ cM) [] [.ref p0, .int p1, .int p2] 0 0 (fun (u9 : Unit) => []) (fun (r9 : Int32) (u9 : Unit) => r9 = (-1)) := by
  refine fun sz => k_enter (cc := cX7_most) (maxL := 9) (ret := some (.int)) (Qc := fun A => va_Qi (fun (r9 : Int32) (u9 : Unit) => r9 = (-1)) (fun u => k_B (dC, dI) vwCl (tyy cI cJ cZ cM) A ((fun (u9 : Unit) => []) u)) A) sz (by decide +kernel) rfl (Nat.le_of_ble_eq_true rfl) (fun p e s m args below meth c A ls H locs B hP hD hS hl => ?_)
  obtain ⟨hx, hb, hml, hown, hts, hr, hlk, hnm, hK, hA, hN, hC⟩ := id B
  have hown : s.vm.findClass RX7 = some m.cls := hown
  have hl : lv_has ls 9 [(0, .ref p0), (1, .int p1), (2, .int p2)] := hl
  refine lv_iload_n hx hb dX7_most_0 rfl (lv_at hl 1 rfl) ?_
  refine lv_iconst (v := 0) hx hb dX7_most_1 (by decide +kernel) ?_
  refine lv_bipush (v := 8) hx hb dX7_most_2 (by decide +kernel) ?_
  refine k_ci (wc := []) (wr := []) (fun hPc hDc hFc => va_runS (As := [.int p1, .int 0, .int 8]) (rest := []) ⟨hx, hb, hml, hown, hts⟩ (c_X7_is_v15 l dC dI cI cJ cZ cM p1 (by omega) (by omega) H.size) (va_cwS 3 hts gX7_most_X7_is rfl rfl rfl (by decide +kernel) ⟨(Nat.le_of_ble_eq_true rfl), (Nat.le_of_ble_eq_true rfl)⟩) (k_pS hPc hDc hK hN hC hS hFc) rfl rfl hl.1 rfl (lv_room (Nat.le_of_ble_eq_true rfl)) dX7_most_4 ⟨(Nat.le_of_ble_eq_true rfl), (Nat.le_of_ble_eq_true rfl)⟩) hP hD hS hA [] [] rfl rfl rfl rfl (by decide) (fun _ => rfl) 0 0 rfl rfl (fun r_1 u_2 H locs hw hP hD hS => ?_)
  obtain rfl : r_1 = 0 := hw
  have hP : va_P (dC, dI) vwCl [] H := hP
  have hD : va_D A [] := hD
  refine lv_if_eq (tgt := 19) hx hb dX7_most_7 (by decide) (fun _ => ?_) (fun q9 => absurd q9 (by decide +kernel))
  refine lv_iconst (v := (-1)) hx hb dX7_most_19 (by decide +kernel) ?_
  exact k_ri B hP hD hS dX7_most_20 () [] rfl rfl rfl (Nat.le_of_ble_eq_true rfl) (Nat.le_of_ble_eq_true rfl) rfl
set_option maxHeartbeats 4000000 in
set_option maxRecDepth 100000 in
theorem c_X4_isContentAt_v0 (l : Launch) (dC : Nat → ClassId) (dI : Nat → Nat → Nat) (cI cJ cZ cM : ClassId) (p0 : Nat → Nat) (p1 : Nat → Nat)   : k_Mi l yX4_isContentAt wsX4_isContentAt ({ frames := 3, cells := 0, slots := 0, locals := 85 }) (dC, dI) vwCl (tyy cI cJ cZ cM) [((p0 0), .inr (4, [.ref (p0 1), .ref (p0 2), .ref (p0 3), .ref (p1 1), .int 1, .int 1])), ((p0 1), .inl (cI, 9216, .inl (upd (fun k => if 0 ≤ k ∧ k < 9 then 2147483647 else 0) 0 0))), ((p0 2), .inr (0, [.int 0, .int 0, .int 0, .int 0])), ((p0 3), .inr (0, [.int 0, .int 0, .int 0, .int 0])), ((p1 1), .inr (5, [.ref (p1 2), .ref (p1 3), .ref (p1 4), .ref (p1 5), .ref (p1 6), .ref (p1 7), .ref (p1 8), .ref (p1 9), .ref (p1 10), .ref (p1 11), .ref (p1 12), .ref (p1 13), .int 0, .int 0, .int 0, .int 0, .int 0, .int 100, .int 0, .int 0])), ((p1 12), .inl (cI, 3, .inl (fun _ => 0))), ((p1 11), .inl (cI, 3, .inl (fun _ => 0)))] [.ref (p0 0), .int 0] 0 0 (fun (u9 : Unit) => [((p0 0), .inr (4, [.ref (p0 1), .ref (p0 2), .ref (p0 3), .ref (p1 1), .int 1, .int 1])), ((p0 1), .inl (cI, 9216, .inl (upd (fun k => if 0 ≤ k ∧ k < 9 then 2147483647 else 0) 0 0))), ((p0 2), .inr (0, [.int 0, .int 0, .int 0, .int 0])), ((p0 3), .inr (0, [.int 0, .int 0, .int 0, .int 0])), ((p1 1), .inr (5, [.ref (p1 2), .ref (p1 3), .ref (p1 4), .ref (p1 5), .ref (p1 6), .ref (p1 7), .ref (p1 8), .ref (p1 9), .ref (p1 10), .ref (p1 11), .ref (p1 12), .ref (p1 13), .int 0, .int 0, .int 0, .int 0, .int 0, .int 100, .int 0, .int 0])), ((p1 12), .inl (cI, 3, .inl (fun _ => 0))), ((p1 11), .inl (cI, 3, .inl (fun _ => 0)))]) (fun (r9 : Int32) (u9 : Unit) => r9 = 0) := by
  refine fun sz => k_enter (cc := cX4_isContentAt) (maxL := 2) (ret := some (.boolean)) (Qc := fun A => va_Qi (fun (r9 : Int32) (u9 : Unit) => r9 = 0) (fun u => k_B (dC, dI) vwCl (tyy cI cJ cZ cM) A ((fun (u9 : Unit) => [((p0 0), .inr (4, [.ref (p0 1), .ref (p0 2), .ref (p0 3), .ref (p1 1), .int 1, .int 1])), ((p0 1), .inl (cI, 9216, .inl (upd (fun k => if 0 ≤ k ∧ k < 9 then 2147483647 else 0) 0 0))), ((p0 2), .inr (0, [.int 0, .int 0, .int 0, .int 0])), ((p0 3), .inr (0, [.int 0, .int 0, .int 0, .int 0])), ((p1 1), .inr (5, [.ref (p1 2), .ref (p1 3), .ref (p1 4), .ref (p1 5), .ref (p1 6), .ref (p1 7), .ref (p1 8), .ref (p1 9), .ref (p1 10), .ref (p1 11), .ref (p1 12), .ref (p1 13), .int 0, .int 0, .int 0, .int 0, .int 0, .int 100, .int 0, .int 0])), ((p1 12), .inl (cI, 3, .inl (fun _ => 0))), ((p1 11), .inl (cI, 3, .inl (fun _ => 0)))]) u)) A) sz (by decide +kernel) rfl (Nat.le_of_ble_eq_true rfl) (fun p e s m args below meth c A ls H locs B hP hD hS hl => ?_)
  obtain ⟨hx, hb, hml, hown, hts, hr, hlk, hnm, hK, hA, hN, hC⟩ := id B
  have hown : s.vm.findClass RX4 = some m.cls := hown
  have hl : lv_has ls 2 [(0, .ref (p0 0)), (1, .int 0)] := hl
  have w_0 : (Cond.fieldLink RX4 25 "WishSea$Rungs" "shore" "LWishSea$Shore;").before args s = true := hts _ (List.mem_of_getElem? (i := 1) rfl)
  have w_1 : (Cond.fieldLink RX4 22 "WishSea$Rungs" "here" "LWishSea$Moment;").before args s = true := hts _ (List.mem_of_getElem? (i := 2) rfl)
  have hinX4 : ∀ w ∈ u_ws RX4 TX4 6, w ∈ wsX4_isContentAt := fun _ h => List.mem_cons_of_mem _ (List.mem_append_left _ (List.mem_append_left _ (List.mem_append_right _ h)))
  refine lv_aload_n hx hb dX4_isContentAt_0 rfl (lv_at hl 0 rfl) ?_
  refine lv_iload_n hx hb dX4_isContentAt_1 rfl (lv_at hl 1 rfl) ?_
  refine k_cv (wc := [((p0 0), .inr (4, [.ref (p0 1), .ref (p0 2), .ref (p0 3), .ref (p1 1), .int 1, .int 1])), ((p0 1), .inl (cI, 9216, .inl (upd (fun k => if 0 ≤ k ∧ k < 9 then 2147483647 else 0) 0 0))), ((p0 2), .inr (0, [.int 0, .int 0, .int 0, .int 0])), ((p0 3), .inr (0, [.int 0, .int 0, .int 0, .int 0]))]) (wr := [((p1 1), .inr (5, [.ref (p1 2), .ref (p1 3), .ref (p1 4), .ref (p1 5), .ref (p1 6), .ref (p1 7), .ref (p1 8), .ref (p1 9), .ref (p1 10), .ref (p1 11), .ref (p1 12), .ref (p1 13), .int 0, .int 0, .int 0, .int 0, .int 0, .int 100, .int 0, .int 0])), ((p1 12), .inl (cI, 3, .inl (fun _ => 0))), ((p1 11), .inl (cI, 3, .inl (fun _ => 0)))]) (fun hPc hDc hFc => va_runV (As := [.int 0]) (rest := []) ⟨hx, hb, hml, hown, hts⟩ (c_X4_stand_v0 l dC dI cI cJ cZ cM p0 p1 H.size) (cwV 1 hts gX4_isContentAt_X4_stand rfl rfl rfl (by decide +kernel) ⟨(Nat.le_of_ble_eq_true rfl), (Nat.le_of_ble_eq_true rfl)⟩) (k_pV hPc hDc hK hN hC hS hFc hP (q0 := 0) (ci := 4) rfl rfl) rfl rfl hl.1 rfl (lv_room (Nat.le_of_ble_eq_true rfl)) dX4_isContentAt_2 ⟨(Nat.le_of_ble_eq_true rfl), (Nat.le_of_ble_eq_true rfl)⟩) hP hD hS hA [0, 1, 2, 3] [4, 5, 6] rfl rfl rfl rfl (by decide) (fun _ => rfl) 0 0 rfl rfl (fun u_2 H locs hw hP hD hS => ?_)
  have hP : va_P (dC, dI) vwCl [((p1 1), .inr (5, [.ref (p1 2), .ref (p1 3), .ref (p1 4), .ref (p1 5), .ref (p1 6), .ref (p1 7), .ref (p1 8), .ref (p1 9), .ref (p1 10), .ref (p1 11), .ref (p1 12), .ref (p1 13), .int 0, .int 0, .int 0, .int 0, .int 0, .int 100, .int 0, .int 0])), ((p1 12), .inl (cI, 3, .inl (fun _ => 0))), ((p1 11), .inl (cI, 3, .inl (fun _ => 0))), ((p0 0), .inr (4, [.ref (p0 1), .ref (p0 2), .ref (p0 3), .ref (p1 1), .int 1, .int 1])), ((p0 1), .inl (cI, 9216, .inl (upd (fun k => if 0 ≤ k ∧ k < 9 then 2147483647 else 0) 0 0))), ((p0 2), .inr (0, [.int 0, .int 0, .int 0, .int 0])), ((p0 3), .inr (0, [.int 0, .int 0, .int 0, .int 0]))] H := hP
  have hD : va_D A [((p1 1), .inr (5, [.ref (p1 2), .ref (p1 3), .ref (p1 4), .ref (p1 5), .ref (p1 6), .ref (p1 7), .ref (p1 8), .ref (p1 9), .ref (p1 10), .ref (p1 11), .ref (p1 12), .ref (p1 13), .int 0, .int 0, .int 0, .int 0, .int 0, .int 100, .int 0, .int 0])), ((p1 12), .inl (cI, 3, .inl (fun _ => 0))), ((p1 11), .inl (cI, 3, .inl (fun _ => 0))), ((p0 0), .inr (4, [.ref (p0 1), .ref (p0 2), .ref (p0 3), .ref (p1 1), .int 1, .int 1])), ((p0 1), .inl (cI, 9216, .inl (upd (fun k => if 0 ≤ k ∧ k < 9 then 2147483647 else 0) 0 0))), ((p0 2), .inr (0, [.int 0, .int 0, .int 0, .int 0])), ((p0 3), .inr (0, [.int 0, .int 0, .int 0, .int 0]))] := hD
  refine lv_aload_n hx hb dX4_isContentAt_5 rfl (lv_at hl 0 rfl) ?_
  refine k_get (D := (dC, dI)) (ci := 4) (v := .ref (p1 1)) (C := RX4) (T := TX4) (N := 6) hx hb hts hinX4 hown hK hP 3 rfl rfl 3 (by decide) w_0 rfl rfl dX4_isContentAt_6 ?_
  refine lv_aload_n hx hb dX4_isContentAt_9 rfl (lv_at hl 0 rfl) ?_
  refine k_get (D := (dC, dI)) (ci := 4) (v := .ref (p0 3)) (C := RX4) (T := TX4) (N := 6) hx hb hts hinX4 hown hK hP 3 rfl rfl 2 (by decide) w_1 rfl rfl dX4_isContentAt_10 ?_
  refine k_ci (wc := [((p1 1), .inr (5, [.ref (p1 2), .ref (p1 3), .ref (p1 4), .ref (p1 5), .ref (p1 6), .ref (p1 7), .ref (p1 8), .ref (p1 9), .ref (p1 10), .ref (p1 11), .ref (p1 12), .ref (p1 13), .int 0, .int 0, .int 0, .int 0, .int 0, .int 100, .int 0, .int 0])), ((p1 12), .inl (cI, 3, .inl (fun _ => 0))), ((p1 11), .inl (cI, 3, .inl (fun _ => 0)))]) (wr := [((p0 0), .inr (4, [.ref (p0 1), .ref (p0 2), .ref (p0 3), .ref (p1 1), .int 1, .int 1])), ((p0 1), .inl (cI, 9216, .inl (upd (fun k => if 0 ≤ k ∧ k < 9 then 2147483647 else 0) 0 0))), ((p0 2), .inr (0, [.int 0, .int 0, .int 0, .int 0])), ((p0 3), .inr (0, [.int 0, .int 0, .int 0, .int 0]))]) (fun hPc hDc hFc => va_runV (As := [.ref (p0 3)]) (rest := []) ⟨hx, hb, hml, hown, hts⟩ (c_X5_isContent_v1 l dC dI cI cJ cZ cM p1 p0 H.size) (cwV 1 hts gX4_isContentAt_X5_isContent rfl rfl rfl (by decide +kernel) ⟨(Nat.le_of_ble_eq_true rfl), (Nat.le_of_ble_eq_true rfl)⟩) (k_pV hPc hDc hK hN hC hS hFc hP (q0 := 0) (ci := 5) rfl rfl) rfl rfl hl.1 rfl (lv_room (Nat.le_of_ble_eq_true rfl)) dX4_isContentAt_13 ⟨(Nat.le_of_ble_eq_true rfl), (Nat.le_of_ble_eq_true rfl)⟩) hP hD hS hA [0, 1, 2] [3, 4, 5, 6] rfl rfl rfl rfl (by decide) (fun _ => rfl) 0 0 rfl rfl (fun r_3 u_4 H locs hw hP hD hS => ?_)
  obtain rfl : r_3 = 0 := hw
  have hP : va_P (dC, dI) vwCl [((p0 0), .inr (4, [.ref (p0 1), .ref (p0 2), .ref (p0 3), .ref (p1 1), .int 1, .int 1])), ((p0 1), .inl (cI, 9216, .inl (upd (fun k => if 0 ≤ k ∧ k < 9 then 2147483647 else 0) 0 0))), ((p0 2), .inr (0, [.int 0, .int 0, .int 0, .int 0])), ((p0 3), .inr (0, [.int 0, .int 0, .int 0, .int 0])), ((p1 1), .inr (5, [.ref (p1 2), .ref (p1 3), .ref (p1 4), .ref (p1 5), .ref (p1 6), .ref (p1 7), .ref (p1 8), .ref (p1 9), .ref (p1 10), .ref (p1 11), .ref (p1 12), .ref (p1 13), .int 0, .int 0, .int 0, .int 0, .int 0, .int 100, .int 0, .int 0])), ((p1 12), .inl (cI, 3, .inl (fun _ => 0))), ((p1 11), .inl (cI, 3, .inl (fun _ => 0)))] H := hP
  have hD : va_D A [((p0 0), .inr (4, [.ref (p0 1), .ref (p0 2), .ref (p0 3), .ref (p1 1), .int 1, .int 1])), ((p0 1), .inl (cI, 9216, .inl (upd (fun k => if 0 ≤ k ∧ k < 9 then 2147483647 else 0) 0 0))), ((p0 2), .inr (0, [.int 0, .int 0, .int 0, .int 0])), ((p0 3), .inr (0, [.int 0, .int 0, .int 0, .int 0])), ((p1 1), .inr (5, [.ref (p1 2), .ref (p1 3), .ref (p1 4), .ref (p1 5), .ref (p1 6), .ref (p1 7), .ref (p1 8), .ref (p1 9), .ref (p1 10), .ref (p1 11), .ref (p1 12), .ref (p1 13), .int 0, .int 0, .int 0, .int 0, .int 0, .int 100, .int 0, .int 0])), ((p1 12), .inl (cI, 3, .inl (fun _ => 0))), ((p1 11), .inl (cI, 3, .inl (fun _ => 0)))] := hD
  exact k_ri B hP hD hS dX4_isContentAt_16 () [0, 1, 2, 3, 4, 5, 6] rfl rfl rfl (Nat.le_of_ble_eq_true rfl) (Nat.le_of_ble_eq_true rfl) rfl
set_option maxHeartbeats 4000000 in
set_option maxRecDepth 100000 in
theorem c_X4_fewestContent_v0 (l : Launch) (dC : Nat → ClassId) (dI : Nat → Nat → Nat) (cI cJ cZ cM : ClassId) (p0 : Nat → Nat) (p1 : Nat → Nat)   : k_Mi l yX4_fewestContent wsX4_fewestContent ({ frames := 4, cells := 0, slots := 0, locals := 106 }) (dC, dI) vwCl (tyy cI cJ cZ cM) [((p0 0), .inr (4, [.ref (p0 1), .ref (p0 2), .ref (p0 3), .ref (p1 1), .int 1, .int 1])), ((p0 1), .inl (cI, 9216, .inl (upd (fun k => if 0 ≤ k ∧ k < 9 then 2147483647 else 0) 0 0))), ((p0 2), .inr (0, [.int 0, .int 0, .int 0, .int 0])), ((p0 3), .inr (0, [.int 0, .int 0, .int 0, .int 0])), ((p1 1), .inr (5, [.ref (p1 2), .ref (p1 3), .ref (p1 4), .ref (p1 5), .ref (p1 6), .ref (p1 7), .ref (p1 8), .ref (p1 9), .ref (p1 10), .ref (p1 11), .ref (p1 12), .ref (p1 13), .int 0, .int 0, .int 0, .int 0, .int 0, .int 100, .int 0, .int 0])), ((p1 12), .inl (cI, 3, .inl (fun _ => 0))), ((p1 11), .inl (cI, 3, .inl (fun _ => 0)))] [.ref (p0 0)] 0 0 (fun (u9 : Unit) => [((p0 0), .inr (4, [.ref (p0 1), .ref (p0 2), .ref (p0 3), .ref (p1 1), .int 1, .int 1])), ((p0 1), .inl (cI, 9216, .inl (upd (fun k => if 0 ≤ k ∧ k < 9 then 2147483647 else 0) 0 0))), ((p0 2), .inr (0, [.int 0, .int 0, .int 0, .int 0])), ((p0 3), .inr (0, [.int 0, .int 0, .int 0, .int 0])), ((p1 1), .inr (5, [.ref (p1 2), .ref (p1 3), .ref (p1 4), .ref (p1 5), .ref (p1 6), .ref (p1 7), .ref (p1 8), .ref (p1 9), .ref (p1 10), .ref (p1 11), .ref (p1 12), .ref (p1 13), .int 0, .int 0, .int 0, .int 0, .int 0, .int 100, .int 0, .int 0])), ((p1 12), .inl (cI, 3, .inl (fun _ => 0))), ((p1 11), .inl (cI, 3, .inl (fun _ => 0)))]) (fun (r9 : Int32) (u9 : Unit) => r9 = (-1)) := by
  refine fun sz => k_enter (cc := cX4_fewestContent) (maxL := 5) (ret := some (.int)) (Qc := fun A => va_Qi (fun (r9 : Int32) (u9 : Unit) => r9 = (-1)) (fun u => k_B (dC, dI) vwCl (tyy cI cJ cZ cM) A ((fun (u9 : Unit) => [((p0 0), .inr (4, [.ref (p0 1), .ref (p0 2), .ref (p0 3), .ref (p1 1), .int 1, .int 1])), ((p0 1), .inl (cI, 9216, .inl (upd (fun k => if 0 ≤ k ∧ k < 9 then 2147483647 else 0) 0 0))), ((p0 2), .inr (0, [.int 0, .int 0, .int 0, .int 0])), ((p0 3), .inr (0, [.int 0, .int 0, .int 0, .int 0])), ((p1 1), .inr (5, [.ref (p1 2), .ref (p1 3), .ref (p1 4), .ref (p1 5), .ref (p1 6), .ref (p1 7), .ref (p1 8), .ref (p1 9), .ref (p1 10), .ref (p1 11), .ref (p1 12), .ref (p1 13), .int 0, .int 0, .int 0, .int 0, .int 0, .int 100, .int 0, .int 0])), ((p1 12), .inl (cI, 3, .inl (fun _ => 0))), ((p1 11), .inl (cI, 3, .inl (fun _ => 0)))]) u)) A) sz (by decide +kernel) rfl (Nat.le_of_ble_eq_true rfl) (fun p e s m args below meth c A ls H locs B hP hD hS hl => ?_)
  obtain ⟨hx, hb, hml, hown, hts, hr, hlk, hnm, hK, hA, hN, hC⟩ := id B
  have hown : s.vm.findClass RX4 = some m.cls := hown
  have hl : lv_has ls 5 [(0, .ref (p0 0))] := hl
  have w_0 : (Cond.fieldLink RX4 47 "WishSea$Rungs" "sets" "I").before args s = true := hts _ (List.mem_of_getElem? (i := 1) rfl)
  have w_1 : (Cond.fieldLink RX4 9 "WishSea$Rungs" "table" "[I").before args s = true := hts _ (List.mem_of_getElem? (i := 2) rfl)
  have w_2 : (Cond.constant RX4 50 (2147483647)).before args s = true := hts _ (List.mem_of_getElem? (i := 3) rfl)
  have hinX4 : ∀ w ∈ u_ws RX4 TX4 6, w ∈ wsX4_fewestContent := fun _ h => List.mem_cons_of_mem _ (List.mem_append_left _ (List.mem_append_left _ (List.mem_append_right _ h)))
  refine lv_iconst (v := 0) hx hb dX4_fewestContent_0 (by decide +kernel) ?_
  refine lv_istore_n (lv' := [(1, .int 0), (0, .ref (p0 0))]) hx hb dX4_fewestContent_1 rfl hl (by decide) rfl (fun ls hl => ?_)
  refine lv_iload_n hx hb dX4_fewestContent_2 rfl (lv_at hl 0 rfl) ?_
  refine lv_bipush (v := 8) hx hb dX4_fewestContent_3 (by decide +kernel) ?_
  refine lv_icmp_gt (tgt := 77) hx hb dX4_fewestContent_5 (by decide) (fun q9 => absurd q9 (by decide +kernel)) (fun _ => ?_)
  refine lv_iconst (v := (-1)) hx hb dX4_fewestContent_8 (by decide +kernel) ?_
  refine lv_istore_n (lv' := [(2, .int (-1)), (1, .int 0), (0, .ref (p0 0))]) hx hb dX4_fewestContent_9 rfl hl (by decide) rfl (fun ls hl => ?_)
  refine lv_iconst (v := 0) hx hb dX4_fewestContent_10 (by decide +kernel) ?_
  refine lv_istore_n (lv' := [(3, .int 0), (2, .int (-1)), (1, .int 0), (0, .ref (p0 0))]) hx hb dX4_fewestContent_11 rfl hl (by decide) rfl (fun ls hl => ?_)
  refine lv_iload_n hx hb dX4_fewestContent_12 rfl (lv_at hl 0 rfl) ?_
  refine lv_aload_n hx hb dX4_fewestContent_13 rfl (lv_at hl 3 rfl) ?_
  refine k_get (D := (dC, dI)) (ci := 4) (v := .int 1) (C := RX4) (T := TX4) (N := 6) hx hb hts hinX4 hown hK hP 0 rfl rfl 4 (by decide) w_0 rfl rfl dX4_fewestContent_14 ?_
  refine lv_icmp_ge (tgt := 65) hx hb dX4_fewestContent_17 (by decide) (fun q9 => absurd q9 (by decide +kernel)) (fun _ => ?_)
  refine lv_iload_n hx hb dX4_fewestContent_20 rfl (lv_at hl 2 rfl) ?_
  refine lv_aload_n hx hb dX4_fewestContent_21 rfl (lv_at hl 3 rfl) ?_
  refine k_get (D := (dC, dI)) (ci := 4) (v := .int 1) (C := RX4) (T := TX4) (N := 6) hx hb hts hinX4 hown hK hP 0 rfl rfl 4 (by decide) w_0 rfl rfl dX4_fewestContent_22 ?_
  refine lv_imul hx hb dX4_fewestContent_25 ?_
  refine k_int (v := 0) (by decide +kernel) ?_
  refine lv_iload_n hx hb dX4_fewestContent_26 rfl (lv_at hl 0 rfl) ?_
  refine lv_iadd hx hb dX4_fewestContent_27 ?_
  refine k_int (v := 0) (by decide +kernel) ?_
  refine lv_istore (lv' := [(4, .int 0), (3, .int 0), (2, .int (-1)), (1, .int 0), (0, .ref (p0 0))]) hx hb dX4_fewestContent_28 hl (by decide) rfl (fun ls hl => ?_)
  refine lv_aload_n hx hb dX4_fewestContent_30 rfl (lv_at hl 4 rfl) ?_
  refine k_get (D := (dC, dI)) (ci := 4) (v := .ref (p0 1)) (C := RX4) (T := TX4) (N := 6) hx hb hts hinX4 hown hK hP 0 rfl rfl 0 (by decide) w_1 rfl rfl dX4_fewestContent_31 ?_
  refine lv_iload hx hb dX4_fewestContent_34 (lv_at hl 0 rfl) ?_
  refine k_iald (v := 0) hx hb hK hP 1 0 0 rfl rfl rfl (Nat.le_of_ble_eq_true rfl) (Nat.le_of_ble_eq_true rfl) rfl dX4_fewestContent_36 ?_
  refine lv_ldc (v := 2147483647) hx hb hown w_2 dX4_fewestContent_37 ?_
  refine lv_icmp_eq (tgt := 59) hx hb dX4_fewestContent_39 (by decide) (fun q9 => absurd q9 (by decide +kernel)) (fun _ => ?_)
  refine lv_aload_n hx hb dX4_fewestContent_42 rfl (lv_at hl 4 rfl) ?_
  refine lv_iload hx hb dX4_fewestContent_43 (lv_at hl 0 rfl) ?_
  refine k_ci (wc := [((p0 0), .inr (4, [.ref (p0 1), .ref (p0 2), .ref (p0 3), .ref (p1 1), .int 1, .int 1])), ((p0 1), .inl (cI, 9216, .inl (upd (fun k => if 0 ≤ k ∧ k < 9 then 2147483647 else 0) 0 0))), ((p0 2), .inr (0, [.int 0, .int 0, .int 0, .int 0])), ((p0 3), .inr (0, [.int 0, .int 0, .int 0, .int 0])), ((p1 1), .inr (5, [.ref (p1 2), .ref (p1 3), .ref (p1 4), .ref (p1 5), .ref (p1 6), .ref (p1 7), .ref (p1 8), .ref (p1 9), .ref (p1 10), .ref (p1 11), .ref (p1 12), .ref (p1 13), .int 0, .int 0, .int 0, .int 0, .int 0, .int 100, .int 0, .int 0])), ((p1 12), .inl (cI, 3, .inl (fun _ => 0))), ((p1 11), .inl (cI, 3, .inl (fun _ => 0)))]) (wr := []) (fun hPc hDc hFc => va_runV (As := [.int 0]) (rest := []) ⟨hx, hb, hml, hown, hts⟩ (c_X4_isContentAt_v0 l dC dI cI cJ cZ cM p0 p1 H.size) (cwV 1 hts gX4_fewestContent_X4_isContentAt rfl rfl rfl (by decide +kernel) ⟨(Nat.le_of_ble_eq_true rfl), (Nat.le_of_ble_eq_true rfl)⟩) (k_pV hPc hDc hK hN hC hS hFc hP (q0 := 0) (ci := 4) rfl rfl) rfl rfl hl.1 rfl (lv_room (Nat.le_of_ble_eq_true rfl)) dX4_fewestContent_45 ⟨(Nat.le_of_ble_eq_true rfl), (Nat.le_of_ble_eq_true rfl)⟩) hP hD hS hA [0, 1, 2, 3, 4, 5, 6] [] rfl rfl rfl rfl (by decide) (fun _ => rfl) 0 0 rfl rfl (fun r_1 u_2 H locs hw hP hD hS => ?_)
  obtain rfl : r_1 = 0 := hw
  have hP : va_P (dC, dI) vwCl [((p0 0), .inr (4, [.ref (p0 1), .ref (p0 2), .ref (p0 3), .ref (p1 1), .int 1, .int 1])), ((p0 1), .inl (cI, 9216, .inl (upd (fun k => if 0 ≤ k ∧ k < 9 then 2147483647 else 0) 0 0))), ((p0 2), .inr (0, [.int 0, .int 0, .int 0, .int 0])), ((p0 3), .inr (0, [.int 0, .int 0, .int 0, .int 0])), ((p1 1), .inr (5, [.ref (p1 2), .ref (p1 3), .ref (p1 4), .ref (p1 5), .ref (p1 6), .ref (p1 7), .ref (p1 8), .ref (p1 9), .ref (p1 10), .ref (p1 11), .ref (p1 12), .ref (p1 13), .int 0, .int 0, .int 0, .int 0, .int 0, .int 100, .int 0, .int 0])), ((p1 12), .inl (cI, 3, .inl (fun _ => 0))), ((p1 11), .inl (cI, 3, .inl (fun _ => 0)))] H := hP
  have hD : va_D A [((p0 0), .inr (4, [.ref (p0 1), .ref (p0 2), .ref (p0 3), .ref (p1 1), .int 1, .int 1])), ((p0 1), .inl (cI, 9216, .inl (upd (fun k => if 0 ≤ k ∧ k < 9 then 2147483647 else 0) 0 0))), ((p0 2), .inr (0, [.int 0, .int 0, .int 0, .int 0])), ((p0 3), .inr (0, [.int 0, .int 0, .int 0, .int 0])), ((p1 1), .inr (5, [.ref (p1 2), .ref (p1 3), .ref (p1 4), .ref (p1 5), .ref (p1 6), .ref (p1 7), .ref (p1 8), .ref (p1 9), .ref (p1 10), .ref (p1 11), .ref (p1 12), .ref (p1 13), .int 0, .int 0, .int 0, .int 0, .int 0, .int 100, .int 0, .int 0])), ((p1 12), .inl (cI, 3, .inl (fun _ => 0))), ((p1 11), .inl (cI, 3, .inl (fun _ => 0)))] := hD
  refine lv_if_eq (tgt := 59) hx hb dX4_fewestContent_48 (by decide) (fun _ => ?_) (fun q9 => absurd q9 (by decide +kernel))
  refine lv_iinc (v := 1) (lv' := [(3, .int 1), (4, .int 0), (2, .int (-1)), (1, .int 0), (0, .ref (p0 0))]) hx hb dX4_fewestContent_59 hl (k := 1) rfl (by decide +kernel) (by decide) rfl (fun ls hl => ?_)
  refine lv_goto (tgt := 12) hx hb dX4_fewestContent_62 (by decide) ?_
  refine lv_iload_n hx hb dX4_fewestContent_12 rfl (lv_at hl 0 rfl) ?_
  refine lv_aload_n hx hb dX4_fewestContent_13 rfl (lv_at hl 4 rfl) ?_
  refine k_get (D := (dC, dI)) (ci := 4) (v := .int 1) (C := RX4) (T := TX4) (N := 6) hx hb hts hinX4 hown hK hP 0 rfl rfl 4 (by decide) w_0 rfl rfl dX4_fewestContent_14 ?_
  refine lv_icmp_ge (tgt := 65) hx hb dX4_fewestContent_17 (by decide) (fun _ => ?_) (fun q9 => absurd q9 (by decide +kernel))
  refine lv_iload_n hx hb dX4_fewestContent_65 rfl (lv_at hl 2 rfl) ?_
  refine lv_if_lt (tgt := 71) hx hb dX4_fewestContent_66 (by decide) (fun _ => ?_) (fun q9 => absurd q9 (by decide +kernel))
  refine lv_iinc (v := 1) (lv' := [(1, .int 1), (3, .int 1), (4, .int 0), (2, .int (-1)), (0, .ref (p0 0))]) hx hb dX4_fewestContent_71 hl (k := 3) rfl (by decide +kernel) (by decide) rfl (fun ls hl => ?_)
  refine lv_goto (tgt := 2) hx hb dX4_fewestContent_74 (by decide) ?_
  refine lv_iload_n hx hb dX4_fewestContent_2 rfl (lv_at hl 0 rfl) ?_
  refine lv_bipush (v := 8) hx hb dX4_fewestContent_3 (by decide +kernel) ?_
  refine lv_icmp_gt (tgt := 77) hx hb dX4_fewestContent_5 (by decide) (fun q9 => absurd q9 (by decide +kernel)) (fun _ => ?_)
  refine lv_iconst (v := (-1)) hx hb dX4_fewestContent_8 (by decide +kernel) ?_
  refine lv_istore_n (lv' := [(2, .int (-1)), (1, .int 1), (3, .int 1), (4, .int 0), (0, .ref (p0 0))]) hx hb dX4_fewestContent_9 rfl hl (by decide) rfl (fun ls hl => ?_)
  refine lv_iconst (v := 0) hx hb dX4_fewestContent_10 (by decide +kernel) ?_
  refine lv_istore_n (lv' := [(3, .int 0), (2, .int (-1)), (1, .int 1), (4, .int 0), (0, .ref (p0 0))]) hx hb dX4_fewestContent_11 rfl hl (by decide) rfl (fun ls hl => ?_)
  refine lv_iload_n hx hb dX4_fewestContent_12 rfl (lv_at hl 0 rfl) ?_
  refine lv_aload_n hx hb dX4_fewestContent_13 rfl (lv_at hl 4 rfl) ?_
  refine k_get (D := (dC, dI)) (ci := 4) (v := .int 1) (C := RX4) (T := TX4) (N := 6) hx hb hts hinX4 hown hK hP 0 rfl rfl 4 (by decide) w_0 rfl rfl dX4_fewestContent_14 ?_
  refine lv_icmp_ge (tgt := 65) hx hb dX4_fewestContent_17 (by decide) (fun q9 => absurd q9 (by decide +kernel)) (fun _ => ?_)
  refine lv_iload_n hx hb dX4_fewestContent_20 rfl (lv_at hl 2 rfl) ?_
  refine lv_aload_n hx hb dX4_fewestContent_21 rfl (lv_at hl 4 rfl) ?_
  refine k_get (D := (dC, dI)) (ci := 4) (v := .int 1) (C := RX4) (T := TX4) (N := 6) hx hb hts hinX4 hown hK hP 0 rfl rfl 4 (by decide) w_0 rfl rfl dX4_fewestContent_22 ?_
  refine lv_imul hx hb dX4_fewestContent_25 ?_
  refine k_int (v := 1) (by decide +kernel) ?_
  refine lv_iload_n hx hb dX4_fewestContent_26 rfl (lv_at hl 0 rfl) ?_
  refine lv_iadd hx hb dX4_fewestContent_27 ?_
  refine k_int (v := 1) (by decide +kernel) ?_
  refine lv_istore (lv' := [(4, .int 1), (3, .int 0), (2, .int (-1)), (1, .int 1), (0, .ref (p0 0))]) hx hb dX4_fewestContent_28 hl (by decide) rfl (fun ls hl => ?_)
  refine lv_aload_n hx hb dX4_fewestContent_30 rfl (lv_at hl 4 rfl) ?_
  refine k_get (D := (dC, dI)) (ci := 4) (v := .ref (p0 1)) (C := RX4) (T := TX4) (N := 6) hx hb hts hinX4 hown hK hP 0 rfl rfl 0 (by decide) w_1 rfl rfl dX4_fewestContent_31 ?_
  refine lv_iload hx hb dX4_fewestContent_34 (lv_at hl 0 rfl) ?_
  refine k_iald (v := 2147483647) hx hb hK hP 1 0 1 rfl rfl rfl (Nat.le_of_ble_eq_true rfl) (Nat.le_of_ble_eq_true rfl) rfl dX4_fewestContent_36 ?_
  refine lv_ldc (v := 2147483647) hx hb hown w_2 dX4_fewestContent_37 ?_
  refine lv_icmp_eq (tgt := 59) hx hb dX4_fewestContent_39 (by decide) (fun _ => ?_) (fun q9 => absurd q9 (by decide +kernel))
  refine lv_iinc (v := 1) (lv' := [(3, .int 1), (4, .int 1), (2, .int (-1)), (1, .int 1), (0, .ref (p0 0))]) hx hb dX4_fewestContent_59 hl (k := 1) rfl (by decide +kernel) (by decide) rfl (fun ls hl => ?_)
  refine lv_goto (tgt := 12) hx hb dX4_fewestContent_62 (by decide) ?_
  refine lv_iload_n hx hb dX4_fewestContent_12 rfl (lv_at hl 0 rfl) ?_
  refine lv_aload_n hx hb dX4_fewestContent_13 rfl (lv_at hl 4 rfl) ?_
  refine k_get (D := (dC, dI)) (ci := 4) (v := .int 1) (C := RX4) (T := TX4) (N := 6) hx hb hts hinX4 hown hK hP 0 rfl rfl 4 (by decide) w_0 rfl rfl dX4_fewestContent_14 ?_
  refine lv_icmp_ge (tgt := 65) hx hb dX4_fewestContent_17 (by decide) (fun _ => ?_) (fun q9 => absurd q9 (by decide +kernel))
  refine lv_iload_n hx hb dX4_fewestContent_65 rfl (lv_at hl 2 rfl) ?_
  refine lv_if_lt (tgt := 71) hx hb dX4_fewestContent_66 (by decide) (fun _ => ?_) (fun q9 => absurd q9 (by decide +kernel))
  refine lv_iinc (v := 2) (lv' := [(1, .int 2), (3, .int 1), (4, .int 1), (2, .int (-1)), (0, .ref (p0 0))]) hx hb dX4_fewestContent_71 hl (k := 3) rfl (by decide +kernel) (by decide) rfl (fun ls hl => ?_)
  refine lv_goto (tgt := 2) hx hb dX4_fewestContent_74 (by decide) ?_
  refine lv_iload_n hx hb dX4_fewestContent_2 rfl (lv_at hl 0 rfl) ?_
  refine lv_bipush (v := 8) hx hb dX4_fewestContent_3 (by decide +kernel) ?_
  refine lv_icmp_gt (tgt := 77) hx hb dX4_fewestContent_5 (by decide) (fun q9 => absurd q9 (by decide +kernel)) (fun _ => ?_)
  refine lv_iconst (v := (-1)) hx hb dX4_fewestContent_8 (by decide +kernel) ?_
  refine lv_istore_n (lv' := [(2, .int (-1)), (1, .int 2), (3, .int 1), (4, .int 1), (0, .ref (p0 0))]) hx hb dX4_fewestContent_9 rfl hl (by decide) rfl (fun ls hl => ?_)
  refine lv_iconst (v := 0) hx hb dX4_fewestContent_10 (by decide +kernel) ?_
  refine lv_istore_n (lv' := [(3, .int 0), (2, .int (-1)), (1, .int 2), (4, .int 1), (0, .ref (p0 0))]) hx hb dX4_fewestContent_11 rfl hl (by decide) rfl (fun ls hl => ?_)
  refine lv_iload_n hx hb dX4_fewestContent_12 rfl (lv_at hl 0 rfl) ?_
  refine lv_aload_n hx hb dX4_fewestContent_13 rfl (lv_at hl 4 rfl) ?_
  refine k_get (D := (dC, dI)) (ci := 4) (v := .int 1) (C := RX4) (T := TX4) (N := 6) hx hb hts hinX4 hown hK hP 0 rfl rfl 4 (by decide) w_0 rfl rfl dX4_fewestContent_14 ?_
  refine lv_icmp_ge (tgt := 65) hx hb dX4_fewestContent_17 (by decide) (fun q9 => absurd q9 (by decide +kernel)) (fun _ => ?_)
  refine lv_iload_n hx hb dX4_fewestContent_20 rfl (lv_at hl 2 rfl) ?_
  refine lv_aload_n hx hb dX4_fewestContent_21 rfl (lv_at hl 4 rfl) ?_
  refine k_get (D := (dC, dI)) (ci := 4) (v := .int 1) (C := RX4) (T := TX4) (N := 6) hx hb hts hinX4 hown hK hP 0 rfl rfl 4 (by decide) w_0 rfl rfl dX4_fewestContent_22 ?_
  refine lv_imul hx hb dX4_fewestContent_25 ?_
  refine k_int (v := 2) (by decide +kernel) ?_
  refine lv_iload_n hx hb dX4_fewestContent_26 rfl (lv_at hl 0 rfl) ?_
  refine lv_iadd hx hb dX4_fewestContent_27 ?_
  refine k_int (v := 2) (by decide +kernel) ?_
  refine lv_istore (lv' := [(4, .int 2), (3, .int 0), (2, .int (-1)), (1, .int 2), (0, .ref (p0 0))]) hx hb dX4_fewestContent_28 hl (by decide) rfl (fun ls hl => ?_)
  refine lv_aload_n hx hb dX4_fewestContent_30 rfl (lv_at hl 4 rfl) ?_
  refine k_get (D := (dC, dI)) (ci := 4) (v := .ref (p0 1)) (C := RX4) (T := TX4) (N := 6) hx hb hts hinX4 hown hK hP 0 rfl rfl 0 (by decide) w_1 rfl rfl dX4_fewestContent_31 ?_
  refine lv_iload hx hb dX4_fewestContent_34 (lv_at hl 0 rfl) ?_
  refine k_iald (v := 2147483647) hx hb hK hP 1 0 2 rfl rfl rfl (Nat.le_of_ble_eq_true rfl) (Nat.le_of_ble_eq_true rfl) rfl dX4_fewestContent_36 ?_
  refine lv_ldc (v := 2147483647) hx hb hown w_2 dX4_fewestContent_37 ?_
  refine lv_icmp_eq (tgt := 59) hx hb dX4_fewestContent_39 (by decide) (fun _ => ?_) (fun q9 => absurd q9 (by decide +kernel))
  refine lv_iinc (v := 1) (lv' := [(3, .int 1), (4, .int 2), (2, .int (-1)), (1, .int 2), (0, .ref (p0 0))]) hx hb dX4_fewestContent_59 hl (k := 1) rfl (by decide +kernel) (by decide) rfl (fun ls hl => ?_)
  refine lv_goto (tgt := 12) hx hb dX4_fewestContent_62 (by decide) ?_
  refine lv_iload_n hx hb dX4_fewestContent_12 rfl (lv_at hl 0 rfl) ?_
  refine lv_aload_n hx hb dX4_fewestContent_13 rfl (lv_at hl 4 rfl) ?_
  refine k_get (D := (dC, dI)) (ci := 4) (v := .int 1) (C := RX4) (T := TX4) (N := 6) hx hb hts hinX4 hown hK hP 0 rfl rfl 4 (by decide) w_0 rfl rfl dX4_fewestContent_14 ?_
  refine lv_icmp_ge (tgt := 65) hx hb dX4_fewestContent_17 (by decide) (fun _ => ?_) (fun q9 => absurd q9 (by decide +kernel))
  refine lv_iload_n hx hb dX4_fewestContent_65 rfl (lv_at hl 2 rfl) ?_
  refine lv_if_lt (tgt := 71) hx hb dX4_fewestContent_66 (by decide) (fun _ => ?_) (fun q9 => absurd q9 (by decide +kernel))
  refine lv_iinc (v := 3) (lv' := [(1, .int 3), (3, .int 1), (4, .int 2), (2, .int (-1)), (0, .ref (p0 0))]) hx hb dX4_fewestContent_71 hl (k := 3) rfl (by decide +kernel) (by decide) rfl (fun ls hl => ?_)
  refine lv_goto (tgt := 2) hx hb dX4_fewestContent_74 (by decide) ?_
  refine lv_iload_n hx hb dX4_fewestContent_2 rfl (lv_at hl 0 rfl) ?_
  refine lv_bipush (v := 8) hx hb dX4_fewestContent_3 (by decide +kernel) ?_
  refine lv_icmp_gt (tgt := 77) hx hb dX4_fewestContent_5 (by decide) (fun q9 => absurd q9 (by decide +kernel)) (fun _ => ?_)
  refine lv_iconst (v := (-1)) hx hb dX4_fewestContent_8 (by decide +kernel) ?_
  refine lv_istore_n (lv' := [(2, .int (-1)), (1, .int 3), (3, .int 1), (4, .int 2), (0, .ref (p0 0))]) hx hb dX4_fewestContent_9 rfl hl (by decide) rfl (fun ls hl => ?_)
  refine lv_iconst (v := 0) hx hb dX4_fewestContent_10 (by decide +kernel) ?_
  refine lv_istore_n (lv' := [(3, .int 0), (2, .int (-1)), (1, .int 3), (4, .int 2), (0, .ref (p0 0))]) hx hb dX4_fewestContent_11 rfl hl (by decide) rfl (fun ls hl => ?_)
  refine lv_iload_n hx hb dX4_fewestContent_12 rfl (lv_at hl 0 rfl) ?_
  refine lv_aload_n hx hb dX4_fewestContent_13 rfl (lv_at hl 4 rfl) ?_
  refine k_get (D := (dC, dI)) (ci := 4) (v := .int 1) (C := RX4) (T := TX4) (N := 6) hx hb hts hinX4 hown hK hP 0 rfl rfl 4 (by decide) w_0 rfl rfl dX4_fewestContent_14 ?_
  refine lv_icmp_ge (tgt := 65) hx hb dX4_fewestContent_17 (by decide) (fun q9 => absurd q9 (by decide +kernel)) (fun _ => ?_)
  refine lv_iload_n hx hb dX4_fewestContent_20 rfl (lv_at hl 2 rfl) ?_
  refine lv_aload_n hx hb dX4_fewestContent_21 rfl (lv_at hl 4 rfl) ?_
  refine k_get (D := (dC, dI)) (ci := 4) (v := .int 1) (C := RX4) (T := TX4) (N := 6) hx hb hts hinX4 hown hK hP 0 rfl rfl 4 (by decide) w_0 rfl rfl dX4_fewestContent_22 ?_
  refine lv_imul hx hb dX4_fewestContent_25 ?_
  refine k_int (v := 3) (by decide +kernel) ?_
  refine lv_iload_n hx hb dX4_fewestContent_26 rfl (lv_at hl 0 rfl) ?_
  refine lv_iadd hx hb dX4_fewestContent_27 ?_
  refine k_int (v := 3) (by decide +kernel) ?_
  refine lv_istore (lv' := [(4, .int 3), (3, .int 0), (2, .int (-1)), (1, .int 3), (0, .ref (p0 0))]) hx hb dX4_fewestContent_28 hl (by decide) rfl (fun ls hl => ?_)
  refine lv_aload_n hx hb dX4_fewestContent_30 rfl (lv_at hl 4 rfl) ?_
  refine k_get (D := (dC, dI)) (ci := 4) (v := .ref (p0 1)) (C := RX4) (T := TX4) (N := 6) hx hb hts hinX4 hown hK hP 0 rfl rfl 0 (by decide) w_1 rfl rfl dX4_fewestContent_31 ?_
  refine lv_iload hx hb dX4_fewestContent_34 (lv_at hl 0 rfl) ?_
  refine k_iald (v := 2147483647) hx hb hK hP 1 0 3 rfl rfl rfl (Nat.le_of_ble_eq_true rfl) (Nat.le_of_ble_eq_true rfl) rfl dX4_fewestContent_36 ?_
  refine lv_ldc (v := 2147483647) hx hb hown w_2 dX4_fewestContent_37 ?_
  refine lv_icmp_eq (tgt := 59) hx hb dX4_fewestContent_39 (by decide) (fun _ => ?_) (fun q9 => absurd q9 (by decide +kernel))
  refine lv_iinc (v := 1) (lv' := [(3, .int 1), (4, .int 3), (2, .int (-1)), (1, .int 3), (0, .ref (p0 0))]) hx hb dX4_fewestContent_59 hl (k := 1) rfl (by decide +kernel) (by decide) rfl (fun ls hl => ?_)
  refine lv_goto (tgt := 12) hx hb dX4_fewestContent_62 (by decide) ?_
  refine lv_iload_n hx hb dX4_fewestContent_12 rfl (lv_at hl 0 rfl) ?_
  refine lv_aload_n hx hb dX4_fewestContent_13 rfl (lv_at hl 4 rfl) ?_
  refine k_get (D := (dC, dI)) (ci := 4) (v := .int 1) (C := RX4) (T := TX4) (N := 6) hx hb hts hinX4 hown hK hP 0 rfl rfl 4 (by decide) w_0 rfl rfl dX4_fewestContent_14 ?_
  refine lv_icmp_ge (tgt := 65) hx hb dX4_fewestContent_17 (by decide) (fun _ => ?_) (fun q9 => absurd q9 (by decide +kernel))
  refine lv_iload_n hx hb dX4_fewestContent_65 rfl (lv_at hl 2 rfl) ?_
  refine lv_if_lt (tgt := 71) hx hb dX4_fewestContent_66 (by decide) (fun _ => ?_) (fun q9 => absurd q9 (by decide +kernel))
  refine lv_iinc (v := 4) (lv' := [(1, .int 4), (3, .int 1), (4, .int 3), (2, .int (-1)), (0, .ref (p0 0))]) hx hb dX4_fewestContent_71 hl (k := 3) rfl (by decide +kernel) (by decide) rfl (fun ls hl => ?_)
  refine lv_goto (tgt := 2) hx hb dX4_fewestContent_74 (by decide) ?_
  refine lv_iload_n hx hb dX4_fewestContent_2 rfl (lv_at hl 0 rfl) ?_
  refine lv_bipush (v := 8) hx hb dX4_fewestContent_3 (by decide +kernel) ?_
  refine lv_icmp_gt (tgt := 77) hx hb dX4_fewestContent_5 (by decide) (fun q9 => absurd q9 (by decide +kernel)) (fun _ => ?_)
  refine lv_iconst (v := (-1)) hx hb dX4_fewestContent_8 (by decide +kernel) ?_
  refine lv_istore_n (lv' := [(2, .int (-1)), (1, .int 4), (3, .int 1), (4, .int 3), (0, .ref (p0 0))]) hx hb dX4_fewestContent_9 rfl hl (by decide) rfl (fun ls hl => ?_)
  refine lv_iconst (v := 0) hx hb dX4_fewestContent_10 (by decide +kernel) ?_
  refine lv_istore_n (lv' := [(3, .int 0), (2, .int (-1)), (1, .int 4), (4, .int 3), (0, .ref (p0 0))]) hx hb dX4_fewestContent_11 rfl hl (by decide) rfl (fun ls hl => ?_)
  refine lv_iload_n hx hb dX4_fewestContent_12 rfl (lv_at hl 0 rfl) ?_
  refine lv_aload_n hx hb dX4_fewestContent_13 rfl (lv_at hl 4 rfl) ?_
  refine k_get (D := (dC, dI)) (ci := 4) (v := .int 1) (C := RX4) (T := TX4) (N := 6) hx hb hts hinX4 hown hK hP 0 rfl rfl 4 (by decide) w_0 rfl rfl dX4_fewestContent_14 ?_
  refine lv_icmp_ge (tgt := 65) hx hb dX4_fewestContent_17 (by decide) (fun q9 => absurd q9 (by decide +kernel)) (fun _ => ?_)
  refine lv_iload_n hx hb dX4_fewestContent_20 rfl (lv_at hl 2 rfl) ?_
  refine lv_aload_n hx hb dX4_fewestContent_21 rfl (lv_at hl 4 rfl) ?_
  refine k_get (D := (dC, dI)) (ci := 4) (v := .int 1) (C := RX4) (T := TX4) (N := 6) hx hb hts hinX4 hown hK hP 0 rfl rfl 4 (by decide) w_0 rfl rfl dX4_fewestContent_22 ?_
  refine lv_imul hx hb dX4_fewestContent_25 ?_
  refine k_int (v := 4) (by decide +kernel) ?_
  refine lv_iload_n hx hb dX4_fewestContent_26 rfl (lv_at hl 0 rfl) ?_
  refine lv_iadd hx hb dX4_fewestContent_27 ?_
  refine k_int (v := 4) (by decide +kernel) ?_
  refine lv_istore (lv' := [(4, .int 4), (3, .int 0), (2, .int (-1)), (1, .int 4), (0, .ref (p0 0))]) hx hb dX4_fewestContent_28 hl (by decide) rfl (fun ls hl => ?_)
  refine lv_aload_n hx hb dX4_fewestContent_30 rfl (lv_at hl 4 rfl) ?_
  refine k_get (D := (dC, dI)) (ci := 4) (v := .ref (p0 1)) (C := RX4) (T := TX4) (N := 6) hx hb hts hinX4 hown hK hP 0 rfl rfl 0 (by decide) w_1 rfl rfl dX4_fewestContent_31 ?_
  refine lv_iload hx hb dX4_fewestContent_34 (lv_at hl 0 rfl) ?_
  refine k_iald (v := 2147483647) hx hb hK hP 1 0 4 rfl rfl rfl (Nat.le_of_ble_eq_true rfl) (Nat.le_of_ble_eq_true rfl) rfl dX4_fewestContent_36 ?_
  refine lv_ldc (v := 2147483647) hx hb hown w_2 dX4_fewestContent_37 ?_
  refine lv_icmp_eq (tgt := 59) hx hb dX4_fewestContent_39 (by decide) (fun _ => ?_) (fun q9 => absurd q9 (by decide +kernel))
  refine lv_iinc (v := 1) (lv' := [(3, .int 1), (4, .int 4), (2, .int (-1)), (1, .int 4), (0, .ref (p0 0))]) hx hb dX4_fewestContent_59 hl (k := 1) rfl (by decide +kernel) (by decide) rfl (fun ls hl => ?_)
  refine lv_goto (tgt := 12) hx hb dX4_fewestContent_62 (by decide) ?_
  refine lv_iload_n hx hb dX4_fewestContent_12 rfl (lv_at hl 0 rfl) ?_
  refine lv_aload_n hx hb dX4_fewestContent_13 rfl (lv_at hl 4 rfl) ?_
  refine k_get (D := (dC, dI)) (ci := 4) (v := .int 1) (C := RX4) (T := TX4) (N := 6) hx hb hts hinX4 hown hK hP 0 rfl rfl 4 (by decide) w_0 rfl rfl dX4_fewestContent_14 ?_
  refine lv_icmp_ge (tgt := 65) hx hb dX4_fewestContent_17 (by decide) (fun _ => ?_) (fun q9 => absurd q9 (by decide +kernel))
  refine lv_iload_n hx hb dX4_fewestContent_65 rfl (lv_at hl 2 rfl) ?_
  refine lv_if_lt (tgt := 71) hx hb dX4_fewestContent_66 (by decide) (fun _ => ?_) (fun q9 => absurd q9 (by decide +kernel))
  refine lv_iinc (v := 5) (lv' := [(1, .int 5), (3, .int 1), (4, .int 4), (2, .int (-1)), (0, .ref (p0 0))]) hx hb dX4_fewestContent_71 hl (k := 3) rfl (by decide +kernel) (by decide) rfl (fun ls hl => ?_)
  refine lv_goto (tgt := 2) hx hb dX4_fewestContent_74 (by decide) ?_
  refine lv_iload_n hx hb dX4_fewestContent_2 rfl (lv_at hl 0 rfl) ?_
  refine lv_bipush (v := 8) hx hb dX4_fewestContent_3 (by decide +kernel) ?_
  refine lv_icmp_gt (tgt := 77) hx hb dX4_fewestContent_5 (by decide) (fun q9 => absurd q9 (by decide +kernel)) (fun _ => ?_)
  refine lv_iconst (v := (-1)) hx hb dX4_fewestContent_8 (by decide +kernel) ?_
  refine lv_istore_n (lv' := [(2, .int (-1)), (1, .int 5), (3, .int 1), (4, .int 4), (0, .ref (p0 0))]) hx hb dX4_fewestContent_9 rfl hl (by decide) rfl (fun ls hl => ?_)
  refine lv_iconst (v := 0) hx hb dX4_fewestContent_10 (by decide +kernel) ?_
  refine lv_istore_n (lv' := [(3, .int 0), (2, .int (-1)), (1, .int 5), (4, .int 4), (0, .ref (p0 0))]) hx hb dX4_fewestContent_11 rfl hl (by decide) rfl (fun ls hl => ?_)
  refine lv_iload_n hx hb dX4_fewestContent_12 rfl (lv_at hl 0 rfl) ?_
  refine lv_aload_n hx hb dX4_fewestContent_13 rfl (lv_at hl 4 rfl) ?_
  refine k_get (D := (dC, dI)) (ci := 4) (v := .int 1) (C := RX4) (T := TX4) (N := 6) hx hb hts hinX4 hown hK hP 0 rfl rfl 4 (by decide) w_0 rfl rfl dX4_fewestContent_14 ?_
  refine lv_icmp_ge (tgt := 65) hx hb dX4_fewestContent_17 (by decide) (fun q9 => absurd q9 (by decide +kernel)) (fun _ => ?_)
  refine lv_iload_n hx hb dX4_fewestContent_20 rfl (lv_at hl 2 rfl) ?_
  refine lv_aload_n hx hb dX4_fewestContent_21 rfl (lv_at hl 4 rfl) ?_
  refine k_get (D := (dC, dI)) (ci := 4) (v := .int 1) (C := RX4) (T := TX4) (N := 6) hx hb hts hinX4 hown hK hP 0 rfl rfl 4 (by decide) w_0 rfl rfl dX4_fewestContent_22 ?_
  refine lv_imul hx hb dX4_fewestContent_25 ?_
  refine k_int (v := 5) (by decide +kernel) ?_
  refine lv_iload_n hx hb dX4_fewestContent_26 rfl (lv_at hl 0 rfl) ?_
  refine lv_iadd hx hb dX4_fewestContent_27 ?_
  refine k_int (v := 5) (by decide +kernel) ?_
  refine lv_istore (lv' := [(4, .int 5), (3, .int 0), (2, .int (-1)), (1, .int 5), (0, .ref (p0 0))]) hx hb dX4_fewestContent_28 hl (by decide) rfl (fun ls hl => ?_)
  refine lv_aload_n hx hb dX4_fewestContent_30 rfl (lv_at hl 4 rfl) ?_
  refine k_get (D := (dC, dI)) (ci := 4) (v := .ref (p0 1)) (C := RX4) (T := TX4) (N := 6) hx hb hts hinX4 hown hK hP 0 rfl rfl 0 (by decide) w_1 rfl rfl dX4_fewestContent_31 ?_
  refine lv_iload hx hb dX4_fewestContent_34 (lv_at hl 0 rfl) ?_
  refine k_iald (v := 2147483647) hx hb hK hP 1 0 5 rfl rfl rfl (Nat.le_of_ble_eq_true rfl) (Nat.le_of_ble_eq_true rfl) rfl dX4_fewestContent_36 ?_
  refine lv_ldc (v := 2147483647) hx hb hown w_2 dX4_fewestContent_37 ?_
  refine lv_icmp_eq (tgt := 59) hx hb dX4_fewestContent_39 (by decide) (fun _ => ?_) (fun q9 => absurd q9 (by decide +kernel))
  refine lv_iinc (v := 1) (lv' := [(3, .int 1), (4, .int 5), (2, .int (-1)), (1, .int 5), (0, .ref (p0 0))]) hx hb dX4_fewestContent_59 hl (k := 1) rfl (by decide +kernel) (by decide) rfl (fun ls hl => ?_)
  refine lv_goto (tgt := 12) hx hb dX4_fewestContent_62 (by decide) ?_
  refine lv_iload_n hx hb dX4_fewestContent_12 rfl (lv_at hl 0 rfl) ?_
  refine lv_aload_n hx hb dX4_fewestContent_13 rfl (lv_at hl 4 rfl) ?_
  refine k_get (D := (dC, dI)) (ci := 4) (v := .int 1) (C := RX4) (T := TX4) (N := 6) hx hb hts hinX4 hown hK hP 0 rfl rfl 4 (by decide) w_0 rfl rfl dX4_fewestContent_14 ?_
  refine lv_icmp_ge (tgt := 65) hx hb dX4_fewestContent_17 (by decide) (fun _ => ?_) (fun q9 => absurd q9 (by decide +kernel))
  refine lv_iload_n hx hb dX4_fewestContent_65 rfl (lv_at hl 2 rfl) ?_
  refine lv_if_lt (tgt := 71) hx hb dX4_fewestContent_66 (by decide) (fun _ => ?_) (fun q9 => absurd q9 (by decide +kernel))
  refine lv_iinc (v := 6) (lv' := [(1, .int 6), (3, .int 1), (4, .int 5), (2, .int (-1)), (0, .ref (p0 0))]) hx hb dX4_fewestContent_71 hl (k := 3) rfl (by decide +kernel) (by decide) rfl (fun ls hl => ?_)
  refine lv_goto (tgt := 2) hx hb dX4_fewestContent_74 (by decide) ?_
  refine lv_iload_n hx hb dX4_fewestContent_2 rfl (lv_at hl 0 rfl) ?_
  refine lv_bipush (v := 8) hx hb dX4_fewestContent_3 (by decide +kernel) ?_
  refine lv_icmp_gt (tgt := 77) hx hb dX4_fewestContent_5 (by decide) (fun q9 => absurd q9 (by decide +kernel)) (fun _ => ?_)
  refine lv_iconst (v := (-1)) hx hb dX4_fewestContent_8 (by decide +kernel) ?_
  refine lv_istore_n (lv' := [(2, .int (-1)), (1, .int 6), (3, .int 1), (4, .int 5), (0, .ref (p0 0))]) hx hb dX4_fewestContent_9 rfl hl (by decide) rfl (fun ls hl => ?_)
  refine lv_iconst (v := 0) hx hb dX4_fewestContent_10 (by decide +kernel) ?_
  refine lv_istore_n (lv' := [(3, .int 0), (2, .int (-1)), (1, .int 6), (4, .int 5), (0, .ref (p0 0))]) hx hb dX4_fewestContent_11 rfl hl (by decide) rfl (fun ls hl => ?_)
  refine lv_iload_n hx hb dX4_fewestContent_12 rfl (lv_at hl 0 rfl) ?_
  refine lv_aload_n hx hb dX4_fewestContent_13 rfl (lv_at hl 4 rfl) ?_
  refine k_get (D := (dC, dI)) (ci := 4) (v := .int 1) (C := RX4) (T := TX4) (N := 6) hx hb hts hinX4 hown hK hP 0 rfl rfl 4 (by decide) w_0 rfl rfl dX4_fewestContent_14 ?_
  refine lv_icmp_ge (tgt := 65) hx hb dX4_fewestContent_17 (by decide) (fun q9 => absurd q9 (by decide +kernel)) (fun _ => ?_)
  refine lv_iload_n hx hb dX4_fewestContent_20 rfl (lv_at hl 2 rfl) ?_
  refine lv_aload_n hx hb dX4_fewestContent_21 rfl (lv_at hl 4 rfl) ?_
  refine k_get (D := (dC, dI)) (ci := 4) (v := .int 1) (C := RX4) (T := TX4) (N := 6) hx hb hts hinX4 hown hK hP 0 rfl rfl 4 (by decide) w_0 rfl rfl dX4_fewestContent_22 ?_
  refine lv_imul hx hb dX4_fewestContent_25 ?_
  refine k_int (v := 6) (by decide +kernel) ?_
  refine lv_iload_n hx hb dX4_fewestContent_26 rfl (lv_at hl 0 rfl) ?_
  refine lv_iadd hx hb dX4_fewestContent_27 ?_
  refine k_int (v := 6) (by decide +kernel) ?_
  refine lv_istore (lv' := [(4, .int 6), (3, .int 0), (2, .int (-1)), (1, .int 6), (0, .ref (p0 0))]) hx hb dX4_fewestContent_28 hl (by decide) rfl (fun ls hl => ?_)
  refine lv_aload_n hx hb dX4_fewestContent_30 rfl (lv_at hl 4 rfl) ?_
  refine k_get (D := (dC, dI)) (ci := 4) (v := .ref (p0 1)) (C := RX4) (T := TX4) (N := 6) hx hb hts hinX4 hown hK hP 0 rfl rfl 0 (by decide) w_1 rfl rfl dX4_fewestContent_31 ?_
  refine lv_iload hx hb dX4_fewestContent_34 (lv_at hl 0 rfl) ?_
  refine k_iald (v := 2147483647) hx hb hK hP 1 0 6 rfl rfl rfl (Nat.le_of_ble_eq_true rfl) (Nat.le_of_ble_eq_true rfl) rfl dX4_fewestContent_36 ?_
  refine lv_ldc (v := 2147483647) hx hb hown w_2 dX4_fewestContent_37 ?_
  refine lv_icmp_eq (tgt := 59) hx hb dX4_fewestContent_39 (by decide) (fun _ => ?_) (fun q9 => absurd q9 (by decide +kernel))
  refine lv_iinc (v := 1) (lv' := [(3, .int 1), (4, .int 6), (2, .int (-1)), (1, .int 6), (0, .ref (p0 0))]) hx hb dX4_fewestContent_59 hl (k := 1) rfl (by decide +kernel) (by decide) rfl (fun ls hl => ?_)
  refine lv_goto (tgt := 12) hx hb dX4_fewestContent_62 (by decide) ?_
  refine lv_iload_n hx hb dX4_fewestContent_12 rfl (lv_at hl 0 rfl) ?_
  refine lv_aload_n hx hb dX4_fewestContent_13 rfl (lv_at hl 4 rfl) ?_
  refine k_get (D := (dC, dI)) (ci := 4) (v := .int 1) (C := RX4) (T := TX4) (N := 6) hx hb hts hinX4 hown hK hP 0 rfl rfl 4 (by decide) w_0 rfl rfl dX4_fewestContent_14 ?_
  refine lv_icmp_ge (tgt := 65) hx hb dX4_fewestContent_17 (by decide) (fun _ => ?_) (fun q9 => absurd q9 (by decide +kernel))
  refine lv_iload_n hx hb dX4_fewestContent_65 rfl (lv_at hl 2 rfl) ?_
  refine lv_if_lt (tgt := 71) hx hb dX4_fewestContent_66 (by decide) (fun _ => ?_) (fun q9 => absurd q9 (by decide +kernel))
  refine lv_iinc (v := 7) (lv' := [(1, .int 7), (3, .int 1), (4, .int 6), (2, .int (-1)), (0, .ref (p0 0))]) hx hb dX4_fewestContent_71 hl (k := 3) rfl (by decide +kernel) (by decide) rfl (fun ls hl => ?_)
  refine lv_goto (tgt := 2) hx hb dX4_fewestContent_74 (by decide) ?_
  refine lv_iload_n hx hb dX4_fewestContent_2 rfl (lv_at hl 0 rfl) ?_
  refine lv_bipush (v := 8) hx hb dX4_fewestContent_3 (by decide +kernel) ?_
  refine lv_icmp_gt (tgt := 77) hx hb dX4_fewestContent_5 (by decide) (fun q9 => absurd q9 (by decide +kernel)) (fun _ => ?_)
  refine lv_iconst (v := (-1)) hx hb dX4_fewestContent_8 (by decide +kernel) ?_
  refine lv_istore_n (lv' := [(2, .int (-1)), (1, .int 7), (3, .int 1), (4, .int 6), (0, .ref (p0 0))]) hx hb dX4_fewestContent_9 rfl hl (by decide) rfl (fun ls hl => ?_)
  refine lv_iconst (v := 0) hx hb dX4_fewestContent_10 (by decide +kernel) ?_
  refine lv_istore_n (lv' := [(3, .int 0), (2, .int (-1)), (1, .int 7), (4, .int 6), (0, .ref (p0 0))]) hx hb dX4_fewestContent_11 rfl hl (by decide) rfl (fun ls hl => ?_)
  refine lv_iload_n hx hb dX4_fewestContent_12 rfl (lv_at hl 0 rfl) ?_
  refine lv_aload_n hx hb dX4_fewestContent_13 rfl (lv_at hl 4 rfl) ?_
  refine k_get (D := (dC, dI)) (ci := 4) (v := .int 1) (C := RX4) (T := TX4) (N := 6) hx hb hts hinX4 hown hK hP 0 rfl rfl 4 (by decide) w_0 rfl rfl dX4_fewestContent_14 ?_
  refine lv_icmp_ge (tgt := 65) hx hb dX4_fewestContent_17 (by decide) (fun q9 => absurd q9 (by decide +kernel)) (fun _ => ?_)
  refine lv_iload_n hx hb dX4_fewestContent_20 rfl (lv_at hl 2 rfl) ?_
  refine lv_aload_n hx hb dX4_fewestContent_21 rfl (lv_at hl 4 rfl) ?_
  refine k_get (D := (dC, dI)) (ci := 4) (v := .int 1) (C := RX4) (T := TX4) (N := 6) hx hb hts hinX4 hown hK hP 0 rfl rfl 4 (by decide) w_0 rfl rfl dX4_fewestContent_22 ?_
  refine lv_imul hx hb dX4_fewestContent_25 ?_
  refine k_int (v := 7) (by decide +kernel) ?_
  refine lv_iload_n hx hb dX4_fewestContent_26 rfl (lv_at hl 0 rfl) ?_
  refine lv_iadd hx hb dX4_fewestContent_27 ?_
  refine k_int (v := 7) (by decide +kernel) ?_
  refine lv_istore (lv' := [(4, .int 7), (3, .int 0), (2, .int (-1)), (1, .int 7), (0, .ref (p0 0))]) hx hb dX4_fewestContent_28 hl (by decide) rfl (fun ls hl => ?_)
  refine lv_aload_n hx hb dX4_fewestContent_30 rfl (lv_at hl 4 rfl) ?_
  refine k_get (D := (dC, dI)) (ci := 4) (v := .ref (p0 1)) (C := RX4) (T := TX4) (N := 6) hx hb hts hinX4 hown hK hP 0 rfl rfl 0 (by decide) w_1 rfl rfl dX4_fewestContent_31 ?_
  refine lv_iload hx hb dX4_fewestContent_34 (lv_at hl 0 rfl) ?_
  refine k_iald (v := 2147483647) hx hb hK hP 1 0 7 rfl rfl rfl (Nat.le_of_ble_eq_true rfl) (Nat.le_of_ble_eq_true rfl) rfl dX4_fewestContent_36 ?_
  refine lv_ldc (v := 2147483647) hx hb hown w_2 dX4_fewestContent_37 ?_
  refine lv_icmp_eq (tgt := 59) hx hb dX4_fewestContent_39 (by decide) (fun _ => ?_) (fun q9 => absurd q9 (by decide +kernel))
  refine lv_iinc (v := 1) (lv' := [(3, .int 1), (4, .int 7), (2, .int (-1)), (1, .int 7), (0, .ref (p0 0))]) hx hb dX4_fewestContent_59 hl (k := 1) rfl (by decide +kernel) (by decide) rfl (fun ls hl => ?_)
  refine lv_goto (tgt := 12) hx hb dX4_fewestContent_62 (by decide) ?_
  refine lv_iload_n hx hb dX4_fewestContent_12 rfl (lv_at hl 0 rfl) ?_
  refine lv_aload_n hx hb dX4_fewestContent_13 rfl (lv_at hl 4 rfl) ?_
  refine k_get (D := (dC, dI)) (ci := 4) (v := .int 1) (C := RX4) (T := TX4) (N := 6) hx hb hts hinX4 hown hK hP 0 rfl rfl 4 (by decide) w_0 rfl rfl dX4_fewestContent_14 ?_
  refine lv_icmp_ge (tgt := 65) hx hb dX4_fewestContent_17 (by decide) (fun _ => ?_) (fun q9 => absurd q9 (by decide +kernel))
  refine lv_iload_n hx hb dX4_fewestContent_65 rfl (lv_at hl 2 rfl) ?_
  refine lv_if_lt (tgt := 71) hx hb dX4_fewestContent_66 (by decide) (fun _ => ?_) (fun q9 => absurd q9 (by decide +kernel))
  refine lv_iinc (v := 8) (lv' := [(1, .int 8), (3, .int 1), (4, .int 7), (2, .int (-1)), (0, .ref (p0 0))]) hx hb dX4_fewestContent_71 hl (k := 3) rfl (by decide +kernel) (by decide) rfl (fun ls hl => ?_)
  refine lv_goto (tgt := 2) hx hb dX4_fewestContent_74 (by decide) ?_
  refine lv_iload_n hx hb dX4_fewestContent_2 rfl (lv_at hl 0 rfl) ?_
  refine lv_bipush (v := 8) hx hb dX4_fewestContent_3 (by decide +kernel) ?_
  refine lv_icmp_gt (tgt := 77) hx hb dX4_fewestContent_5 (by decide) (fun q9 => absurd q9 (by decide +kernel)) (fun _ => ?_)
  refine lv_iconst (v := (-1)) hx hb dX4_fewestContent_8 (by decide +kernel) ?_
  refine lv_istore_n (lv' := [(2, .int (-1)), (1, .int 8), (3, .int 1), (4, .int 7), (0, .ref (p0 0))]) hx hb dX4_fewestContent_9 rfl hl (by decide) rfl (fun ls hl => ?_)
  refine lv_iconst (v := 0) hx hb dX4_fewestContent_10 (by decide +kernel) ?_
  refine lv_istore_n (lv' := [(3, .int 0), (2, .int (-1)), (1, .int 8), (4, .int 7), (0, .ref (p0 0))]) hx hb dX4_fewestContent_11 rfl hl (by decide) rfl (fun ls hl => ?_)
  refine lv_iload_n hx hb dX4_fewestContent_12 rfl (lv_at hl 0 rfl) ?_
  refine lv_aload_n hx hb dX4_fewestContent_13 rfl (lv_at hl 4 rfl) ?_
  refine k_get (D := (dC, dI)) (ci := 4) (v := .int 1) (C := RX4) (T := TX4) (N := 6) hx hb hts hinX4 hown hK hP 0 rfl rfl 4 (by decide) w_0 rfl rfl dX4_fewestContent_14 ?_
  refine lv_icmp_ge (tgt := 65) hx hb dX4_fewestContent_17 (by decide) (fun q9 => absurd q9 (by decide +kernel)) (fun _ => ?_)
  refine lv_iload_n hx hb dX4_fewestContent_20 rfl (lv_at hl 2 rfl) ?_
  refine lv_aload_n hx hb dX4_fewestContent_21 rfl (lv_at hl 4 rfl) ?_
  refine k_get (D := (dC, dI)) (ci := 4) (v := .int 1) (C := RX4) (T := TX4) (N := 6) hx hb hts hinX4 hown hK hP 0 rfl rfl 4 (by decide) w_0 rfl rfl dX4_fewestContent_22 ?_
  refine lv_imul hx hb dX4_fewestContent_25 ?_
  refine k_int (v := 8) (by decide +kernel) ?_
  refine lv_iload_n hx hb dX4_fewestContent_26 rfl (lv_at hl 0 rfl) ?_
  refine lv_iadd hx hb dX4_fewestContent_27 ?_
  refine k_int (v := 8) (by decide +kernel) ?_
  refine lv_istore (lv' := [(4, .int 8), (3, .int 0), (2, .int (-1)), (1, .int 8), (0, .ref (p0 0))]) hx hb dX4_fewestContent_28 hl (by decide) rfl (fun ls hl => ?_)
  refine lv_aload_n hx hb dX4_fewestContent_30 rfl (lv_at hl 4 rfl) ?_
  refine k_get (D := (dC, dI)) (ci := 4) (v := .ref (p0 1)) (C := RX4) (T := TX4) (N := 6) hx hb hts hinX4 hown hK hP 0 rfl rfl 0 (by decide) w_1 rfl rfl dX4_fewestContent_31 ?_
  refine lv_iload hx hb dX4_fewestContent_34 (lv_at hl 0 rfl) ?_
  refine k_iald (v := 2147483647) hx hb hK hP 1 0 8 rfl rfl rfl (Nat.le_of_ble_eq_true rfl) (Nat.le_of_ble_eq_true rfl) rfl dX4_fewestContent_36 ?_
  refine lv_ldc (v := 2147483647) hx hb hown w_2 dX4_fewestContent_37 ?_
  refine lv_icmp_eq (tgt := 59) hx hb dX4_fewestContent_39 (by decide) (fun _ => ?_) (fun q9 => absurd q9 (by decide +kernel))
  refine lv_iinc (v := 1) (lv' := [(3, .int 1), (4, .int 8), (2, .int (-1)), (1, .int 8), (0, .ref (p0 0))]) hx hb dX4_fewestContent_59 hl (k := 1) rfl (by decide +kernel) (by decide) rfl (fun ls hl => ?_)
  refine lv_goto (tgt := 12) hx hb dX4_fewestContent_62 (by decide) ?_
  refine lv_iload_n hx hb dX4_fewestContent_12 rfl (lv_at hl 0 rfl) ?_
  refine lv_aload_n hx hb dX4_fewestContent_13 rfl (lv_at hl 4 rfl) ?_
  refine k_get (D := (dC, dI)) (ci := 4) (v := .int 1) (C := RX4) (T := TX4) (N := 6) hx hb hts hinX4 hown hK hP 0 rfl rfl 4 (by decide) w_0 rfl rfl dX4_fewestContent_14 ?_
  refine lv_icmp_ge (tgt := 65) hx hb dX4_fewestContent_17 (by decide) (fun _ => ?_) (fun q9 => absurd q9 (by decide +kernel))
  refine lv_iload_n hx hb dX4_fewestContent_65 rfl (lv_at hl 2 rfl) ?_
  refine lv_if_lt (tgt := 71) hx hb dX4_fewestContent_66 (by decide) (fun _ => ?_) (fun q9 => absurd q9 (by decide +kernel))
  refine lv_iinc (v := 9) (lv' := [(1, .int 9), (3, .int 1), (4, .int 8), (2, .int (-1)), (0, .ref (p0 0))]) hx hb dX4_fewestContent_71 hl (k := 3) rfl (by decide +kernel) (by decide) rfl (fun ls hl => ?_)
  refine lv_goto (tgt := 2) hx hb dX4_fewestContent_74 (by decide) ?_
  refine lv_iload_n hx hb dX4_fewestContent_2 rfl (lv_at hl 0 rfl) ?_
  refine lv_bipush (v := 8) hx hb dX4_fewestContent_3 (by decide +kernel) ?_
  refine lv_icmp_gt (tgt := 77) hx hb dX4_fewestContent_5 (by decide) (fun _ => ?_) (fun q9 => absurd q9 (by decide +kernel))
  refine lv_iconst (v := (-1)) hx hb dX4_fewestContent_77 (by decide +kernel) ?_
  exact k_ri B hP hD hS dX4_fewestContent_78 () [0, 1, 2, 3, 4, 5, 6] rfl rfl rfl (Nat.le_of_ble_eq_true rfl) (Nat.le_of_ble_eq_true rfl) rfl
set_option maxHeartbeats 4000000 in
set_option maxRecDepth 100000 in
theorem c_X6_ends_v0 (l : Launch) (dC : Nat → ClassId) (dI : Nat → Nat → Nat) (cI cJ cZ cM : ClassId) (p0 : Nat) (p1 : Int32) (p2 : Nat → Nat)   : k_Mi l yX6_ends wsX6_ends ({ frames := 6, cells := 4, slots := 9230, locals := 154 }) (dC, dI) vwCl (tyy cI cJ cZ cM) [(p0, .inr (6, [.ref (p2 0), .int 0, .ref (p2 1), .ref (p2 14), .ref (p2 27), .ref (p2 28), .ref (p2 29), .ref (p2 30), .ref (p2 54), .null, .int 1, .int 1, .int 999, .ref (p2 61), .ref (p2 62), .ref (p2 63), .ref (p2 60)])), ((p2 28), .inr (0, [.int 0, .int 0, .int 0, .int 0])), ((p2 1), .inr (5, [.ref (p2 2), .ref (p2 3), .ref (p2 4), .ref (p2 5), .ref (p2 6), .ref (p2 7), .ref (p2 8), .ref (p2 9), .ref (p2 10), .ref (p2 11), .ref (p2 12), .ref (p2 13), .int 0, .int 0, .int 0, .int 0, .int 0, .int 100, .int 0, .int 0])), ((p2 12), .inl (cI, 3, .inl (fun _ => 0))), ((p2 11), .inl (cI, 3, .inl (fun _ => 0)))] [.ref p0, .int p1] 4 9230 (fun (u9 : (Nat → Nat)) => [(p0, .inr (6, [.ref (p2 0), .int 0, .ref (p2 1), .ref (p2 14), .ref (p2 27), .ref (p2 28), .ref (p2 29), .ref (p2 30), .ref (p2 54), .ref (u9 0), .int 1, .int 1, .int 999, .ref (p2 61), .ref (p2 62), .ref (p2 63), .ref (p2 60)])), ((p2 28), .inr (0, [.int 0, .int 0, .int 0, .int 0])), ((p2 1), .inr (5, [.ref (p2 2), .ref (p2 3), .ref (p2 4), .ref (p2 5), .ref (p2 6), .ref (p2 7), .ref (p2 8), .ref (p2 9), .ref (p2 10), .ref (p2 11), .ref (p2 12), .ref (p2 13), .int 0, .int 0, .int 0, .int 0, .int 0, .int 100, .int 0, .int 0])), ((p2 12), .inl (cI, 3, .inl (fun _ => 0))), ((p2 11), .inl (cI, 3, .inl (fun _ => 0))), ((u9 0), .inr (4, [.ref (u9 1), .ref (u9 2), .ref (u9 3), .ref (p2 1), .int 1, .int 1])), ((u9 1), .inl (cI, 9216, .inl (upd (fun k => if 0 ≤ k ∧ k < 9 then 2147483647 else 0) 0 0))), ((u9 2), .inr (0, [.int 0, .int 0, .int 0, .int 0])), ((u9 3), .inr (0, [.int 0, .int 0, .int 0, .int 0]))]) (fun (r9 : Int32) (u9 : (Nat → Nat)) => r9 = (-1)) := by
  refine fun sz => k_enter (cc := cX6_ends) (maxL := 4) (ret := some (.int)) (Qc := fun A => va_Qi (fun (r9 : Int32) (u9 : (Nat → Nat)) => r9 = (-1)) (fun u => k_B (dC, dI) vwCl (tyy cI cJ cZ cM) A ((fun (u9 : (Nat → Nat)) => [(p0, .inr (6, [.ref (p2 0), .int 0, .ref (p2 1), .ref (p2 14), .ref (p2 27), .ref (p2 28), .ref (p2 29), .ref (p2 30), .ref (p2 54), .ref (u9 0), .int 1, .int 1, .int 999, .ref (p2 61), .ref (p2 62), .ref (p2 63), .ref (p2 60)])), ((p2 28), .inr (0, [.int 0, .int 0, .int 0, .int 0])), ((p2 1), .inr (5, [.ref (p2 2), .ref (p2 3), .ref (p2 4), .ref (p2 5), .ref (p2 6), .ref (p2 7), .ref (p2 8), .ref (p2 9), .ref (p2 10), .ref (p2 11), .ref (p2 12), .ref (p2 13), .int 0, .int 0, .int 0, .int 0, .int 0, .int 100, .int 0, .int 0])), ((p2 12), .inl (cI, 3, .inl (fun _ => 0))), ((p2 11), .inl (cI, 3, .inl (fun _ => 0))), ((u9 0), .inr (4, [.ref (u9 1), .ref (u9 2), .ref (u9 3), .ref (p2 1), .int 1, .int 1])), ((u9 1), .inl (cI, 9216, .inl (upd (fun k => if 0 ≤ k ∧ k < 9 then 2147483647 else 0) 0 0))), ((u9 2), .inr (0, [.int 0, .int 0, .int 0, .int 0])), ((u9 3), .inr (0, [.int 0, .int 0, .int 0, .int 0]))]) u)) A) sz (by decide +kernel) rfl (Nat.le_of_ble_eq_true rfl) (fun p e s m args below meth c A ls H locs B hP hD hS hl => ?_)
  obtain ⟨hx, hb, hml, hown, hts, hr, hlk, hnm, hK, hA, hN, hC⟩ := id B
  have hown : s.vm.findClass RX6 = some m.cls := hown
  have hl : lv_has ls 4 [(0, .ref p0), (1, .int p1)] := hl
  have w_0 : (Cond.fieldLink RX6 16 "WishSea" "live" "LWishSea$Shore;").before args s = true := hts _ (List.mem_of_getElem? (i := 1) rfl)
  have w_1 : (Cond.fieldLink RX6 35 "WishSea" "now" "LWishSea$Moment;").before args s = true := hts _ (List.mem_of_getElem? (i := 2) rfl)
  have hinX6 : ∀ w ∈ u_ws RX6 TX6 17, w ∈ wsX6_ends := fun _ h => List.mem_cons_of_mem _ (List.mem_append_left _ (List.mem_append_left _ (List.mem_append_left _ (List.mem_append_right _ h))))
  refine lv_aload_n hx hb dX6_ends_0 rfl (lv_at hl 0 rfl) ?_
  refine k_cr (wc := [(p0, .inr (6, [.ref (p2 0), .int 0, .ref (p2 1), .ref (p2 14), .ref (p2 27), .ref (p2 28), .ref (p2 29), .ref (p2 30), .ref (p2 54), .null, .int 1, .int 1, .int 999, .ref (p2 61), .ref (p2 62), .ref (p2 63), .ref (p2 60)]))]) (wr := [((p2 28), .inr (0, [.int 0, .int 0, .int 0, .int 0])), ((p2 1), .inr (5, [.ref (p2 2), .ref (p2 3), .ref (p2 4), .ref (p2 5), .ref (p2 6), .ref (p2 7), .ref (p2 8), .ref (p2 9), .ref (p2 10), .ref (p2 11), .ref (p2 12), .ref (p2 13), .int 0, .int 0, .int 0, .int 0, .int 0, .int 100, .int 0, .int 0])), ((p2 12), .inl (cI, 3, .inl (fun _ => 0))), ((p2 11), .inl (cI, 3, .inl (fun _ => 0)))]) (fun hPc hDc hFc => va_runV (As := []) (rest := []) ⟨hx, hb, hml, hown, hts⟩ (c_X6_theRungs_v0 l dC dI cI cJ cZ cM p0 p2 H.size) (cwV 0 hts gX6_ends_X6_theRungs rfl rfl rfl (by decide +kernel) ⟨(Nat.le_of_ble_eq_true rfl), (Nat.le_of_ble_eq_true rfl)⟩) (k_pV hPc hDc hK hN hC hS hFc hP (q0 := 0) (ci := 6) rfl rfl) rfl rfl hl.1 rfl (lv_room (Nat.le_of_ble_eq_true rfl)) dX6_ends_1 ⟨(Nat.le_of_ble_eq_true rfl), (Nat.le_of_ble_eq_true rfl)⟩) hP hD hS hA [0] [1, 2, 3, 4] rfl rfl rfl rfl (by decide) (fun _ => rfl) 4 9230 rfl rfl (fun r_1 u_2 H locs hw hP hD hS => ?_)
  obtain rfl : r_1 = (u_2 0) := hw
  have hP : va_P (dC, dI) vwCl [((p2 28), .inr (0, [.int 0, .int 0, .int 0, .int 0])), ((p2 1), .inr (5, [.ref (p2 2), .ref (p2 3), .ref (p2 4), .ref (p2 5), .ref (p2 6), .ref (p2 7), .ref (p2 8), .ref (p2 9), .ref (p2 10), .ref (p2 11), .ref (p2 12), .ref (p2 13), .int 0, .int 0, .int 0, .int 0, .int 0, .int 100, .int 0, .int 0])), ((p2 12), .inl (cI, 3, .inl (fun _ => 0))), ((p2 11), .inl (cI, 3, .inl (fun _ => 0))), (p0, .inr (6, [.ref (p2 0), .int 0, .ref (p2 1), .ref (p2 14), .ref (p2 27), .ref (p2 28), .ref (p2 29), .ref (p2 30), .ref (p2 54), .ref (u_2 0), .int 1, .int 1, .int 999, .ref (p2 61), .ref (p2 62), .ref (p2 63), .ref (p2 60)])), ((u_2 0), .inr (4, [.ref (u_2 1), .ref (u_2 2), .ref (u_2 3), .ref (p2 1), .int 0, .int 0])), ((u_2 1), .inl (cI, 9216, .inl (fun _ => 0))), ((u_2 2), .inr (0, [.int 0, .int 0, .int 0, .int 0])), ((u_2 3), .inr (0, [.int 0, .int 0, .int 0, .int 0]))] H := hP
  have hD : va_D A [((p2 28), .inr (0, [.int 0, .int 0, .int 0, .int 0])), ((p2 1), .inr (5, [.ref (p2 2), .ref (p2 3), .ref (p2 4), .ref (p2 5), .ref (p2 6), .ref (p2 7), .ref (p2 8), .ref (p2 9), .ref (p2 10), .ref (p2 11), .ref (p2 12), .ref (p2 13), .int 0, .int 0, .int 0, .int 0, .int 0, .int 100, .int 0, .int 0])), ((p2 12), .inl (cI, 3, .inl (fun _ => 0))), ((p2 11), .inl (cI, 3, .inl (fun _ => 0))), (p0, .inr (6, [.ref (p2 0), .int 0, .ref (p2 1), .ref (p2 14), .ref (p2 27), .ref (p2 28), .ref (p2 29), .ref (p2 30), .ref (p2 54), .ref (u_2 0), .int 1, .int 1, .int 999, .ref (p2 61), .ref (p2 62), .ref (p2 63), .ref (p2 60)])), ((u_2 0), .inr (4, [.ref (u_2 1), .ref (u_2 2), .ref (u_2 3), .ref (p2 1), .int 0, .int 0])), ((u_2 1), .inl (cI, 9216, .inl (fun _ => 0))), ((u_2 2), .inr (0, [.int 0, .int 0, .int 0, .int 0])), ((u_2 3), .inr (0, [.int 0, .int 0, .int 0, .int 0]))] := hD
  refine lv_aload_n hx hb dX6_ends_4 rfl (lv_at hl 0 rfl) ?_
  refine k_get (D := (dC, dI)) (ci := 6) (v := .ref (p2 1)) (C := RX6) (T := TX6) (N := 17) hx hb hts hinX6 hown hK hP 4 rfl rfl 2 (by decide) w_0 rfl rfl dX6_ends_5 ?_
  refine lv_aload_n hx hb dX6_ends_8 rfl (lv_at hl 0 rfl) ?_
  refine k_get (D := (dC, dI)) (ci := 6) (v := .ref (p2 28)) (C := RX6) (T := TX6) (N := 17) hx hb hts hinX6 hown hK hP 4 rfl rfl 5 (by decide) w_1 rfl rfl dX6_ends_9 ?_
  refine k_cr (wc := [((u_2 0), .inr (4, [.ref (u_2 1), .ref (u_2 2), .ref (u_2 3), .ref (p2 1), .int 0, .int 0])), ((p2 28), .inr (0, [.int 0, .int 0, .int 0, .int 0])), ((u_2 2), .inr (0, [.int 0, .int 0, .int 0, .int 0])), ((p2 1), .inr (5, [.ref (p2 2), .ref (p2 3), .ref (p2 4), .ref (p2 5), .ref (p2 6), .ref (p2 7), .ref (p2 8), .ref (p2 9), .ref (p2 10), .ref (p2 11), .ref (p2 12), .ref (p2 13), .int 0, .int 0, .int 0, .int 0, .int 0, .int 100, .int 0, .int 0])), ((u_2 1), .inl (cI, 9216, .inl (fun _ => 0))), ((u_2 3), .inr (0, [.int 0, .int 0, .int 0, .int 0])), ((p2 12), .inl (cI, 3, .inl (fun _ => 0))), ((p2 11), .inl (cI, 3, .inl (fun _ => 0)))]) (wr := [(p0, .inr (6, [.ref (p2 0), .int 0, .ref (p2 1), .ref (p2 14), .ref (p2 27), .ref (p2 28), .ref (p2 29), .ref (p2 30), .ref (p2 54), .ref (u_2 0), .int 1, .int 1, .int 999, .ref (p2 61), .ref (p2 62), .ref (p2 63), .ref (p2 60)]))]) (fun hPc hDc hFc => va_runV (As := [.ref (p2 1), .ref (p2 28)]) (rest := []) ⟨hx, hb, hml, hown, hts⟩ (c_X4_climb_v0 l dC dI cI cJ cZ cM u_2 p2 H.size) (cwV 2 hts gX6_ends_X4_climb rfl rfl rfl (by decide +kernel) ⟨(Nat.le_of_ble_eq_true rfl), (Nat.le_of_ble_eq_true rfl)⟩) (k_pV hPc hDc hK hN hC hS hFc hP (q0 := 5) (ci := 4) rfl rfl) rfl rfl hl.1 rfl (lv_room (Nat.le_of_ble_eq_true rfl)) dX6_ends_12 ⟨(Nat.le_of_ble_eq_true rfl), (Nat.le_of_ble_eq_true rfl)⟩) hP hD hS hA [5, 0, 7, 1, 6, 8, 2, 3] [4] rfl rfl rfl rfl (by decide) (fun _ => rfl) 4 9230 rfl rfl (fun r_3 u_4 H locs hw hP hD hS => ?_)
  obtain rfl : r_3 = (u_2 0) := hw
  have hP : va_P (dC, dI) vwCl [(p0, .inr (6, [.ref (p2 0), .int 0, .ref (p2 1), .ref (p2 14), .ref (p2 27), .ref (p2 28), .ref (p2 29), .ref (p2 30), .ref (p2 54), .ref (u_2 0), .int 1, .int 1, .int 999, .ref (p2 61), .ref (p2 62), .ref (p2 63), .ref (p2 60)])), ((u_2 0), .inr (4, [.ref (u_2 1), .ref (u_2 2), .ref (u_2 3), .ref (p2 1), .int 1, .int 1])), ((p2 28), .inr (0, [.int 0, .int 0, .int 0, .int 0])), ((u_2 2), .inr (0, [.int 0, .int 0, .int 0, .int 0])), ((p2 1), .inr (5, [.ref (p2 2), .ref (p2 3), .ref (p2 4), .ref (p2 5), .ref (p2 6), .ref (p2 7), .ref (p2 8), .ref (p2 9), .ref (p2 10), .ref (p2 11), .ref (p2 12), .ref (p2 13), .int 0, .int 0, .int 0, .int 0, .int 0, .int 100, .int 0, .int 0])), ((u_2 1), .inl (cI, 9216, .inl (upd (fun k => if 0 ≤ k ∧ k < 9 then 2147483647 else 0) 0 0))), ((u_2 3), .inr (0, [.int 0, .int 0, .int 0, .int 0])), ((p2 12), .inl (cI, 3, .inl (fun _ => 0))), ((p2 11), .inl (cI, 3, .inl (fun _ => 0)))] H := hP
  have hD : va_D A [(p0, .inr (6, [.ref (p2 0), .int 0, .ref (p2 1), .ref (p2 14), .ref (p2 27), .ref (p2 28), .ref (p2 29), .ref (p2 30), .ref (p2 54), .ref (u_2 0), .int 1, .int 1, .int 999, .ref (p2 61), .ref (p2 62), .ref (p2 63), .ref (p2 60)])), ((u_2 0), .inr (4, [.ref (u_2 1), .ref (u_2 2), .ref (u_2 3), .ref (p2 1), .int 1, .int 1])), ((p2 28), .inr (0, [.int 0, .int 0, .int 0, .int 0])), ((u_2 2), .inr (0, [.int 0, .int 0, .int 0, .int 0])), ((p2 1), .inr (5, [.ref (p2 2), .ref (p2 3), .ref (p2 4), .ref (p2 5), .ref (p2 6), .ref (p2 7), .ref (p2 8), .ref (p2 9), .ref (p2 10), .ref (p2 11), .ref (p2 12), .ref (p2 13), .int 0, .int 0, .int 0, .int 0, .int 0, .int 100, .int 0, .int 0])), ((u_2 1), .inl (cI, 9216, .inl (upd (fun k => if 0 ≤ k ∧ k < 9 then 2147483647 else 0) 0 0))), ((u_2 3), .inr (0, [.int 0, .int 0, .int 0, .int 0])), ((p2 12), .inl (cI, 3, .inl (fun _ => 0))), ((p2 11), .inl (cI, 3, .inl (fun _ => 0)))] := hD
  refine lv_astore_n (lv' := [(2, .ref (u_2 0)), (0, .ref p0), (1, .int p1)]) hx hb dX6_ends_15 rfl hl (by decide) rfl (fun ls hl => ?_)
  refine lv_aload_n hx hb dX6_ends_16 rfl (lv_at hl 0 rfl) ?_
  refine k_ci (wc := [((u_2 0), .inr (4, [.ref (u_2 1), .ref (u_2 2), .ref (u_2 3), .ref (p2 1), .int 1, .int 1])), ((u_2 1), .inl (cI, 9216, .inl (upd (fun k => if 0 ≤ k ∧ k < 9 then 2147483647 else 0) 0 0))), ((u_2 2), .inr (0, [.int 0, .int 0, .int 0, .int 0])), ((u_2 3), .inr (0, [.int 0, .int 0, .int 0, .int 0])), ((p2 1), .inr (5, [.ref (p2 2), .ref (p2 3), .ref (p2 4), .ref (p2 5), .ref (p2 6), .ref (p2 7), .ref (p2 8), .ref (p2 9), .ref (p2 10), .ref (p2 11), .ref (p2 12), .ref (p2 13), .int 0, .int 0, .int 0, .int 0, .int 0, .int 100, .int 0, .int 0])), ((p2 12), .inl (cI, 3, .inl (fun _ => 0))), ((p2 11), .inl (cI, 3, .inl (fun _ => 0)))]) (wr := [(p0, .inr (6, [.ref (p2 0), .int 0, .ref (p2 1), .ref (p2 14), .ref (p2 27), .ref (p2 28), .ref (p2 29), .ref (p2 30), .ref (p2 54), .ref (u_2 0), .int 1, .int 1, .int 999, .ref (p2 61), .ref (p2 62), .ref (p2 63), .ref (p2 60)])), ((p2 28), .inr (0, [.int 0, .int 0, .int 0, .int 0]))]) (fun hPc hDc hFc => va_runV (As := []) (rest := []) ⟨hx, hb, hml, hown, hts⟩ (c_X4_fewestContent_v0 l dC dI cI cJ cZ cM u_2 p2 H.size) (cwV 0 hts gX6_ends_X4_fewestContent rfl rfl rfl (by decide +kernel) ⟨(Nat.le_of_ble_eq_true rfl), (Nat.le_of_ble_eq_true rfl)⟩) (k_pV hPc hDc hK hN hC hS hFc hP (q0 := 1) (ci := 4) rfl rfl) rfl rfl hl.1 rfl (lv_room (Nat.le_of_ble_eq_true rfl)) dX6_ends_17 ⟨(Nat.le_of_ble_eq_true rfl), (Nat.le_of_ble_eq_true rfl)⟩) hP hD hS hA [1, 5, 3, 6, 4, 7, 8] [0, 2] rfl rfl rfl rfl (by decide) (fun _ => rfl) 4 9230 rfl rfl (fun r_5 u_6 H locs hw hP hD hS => ?_)
  obtain rfl : r_5 = (-1) := hw
  have hP : va_P (dC, dI) vwCl [(p0, .inr (6, [.ref (p2 0), .int 0, .ref (p2 1), .ref (p2 14), .ref (p2 27), .ref (p2 28), .ref (p2 29), .ref (p2 30), .ref (p2 54), .ref (u_2 0), .int 1, .int 1, .int 999, .ref (p2 61), .ref (p2 62), .ref (p2 63), .ref (p2 60)])), ((p2 28), .inr (0, [.int 0, .int 0, .int 0, .int 0])), ((u_2 0), .inr (4, [.ref (u_2 1), .ref (u_2 2), .ref (u_2 3), .ref (p2 1), .int 1, .int 1])), ((u_2 1), .inl (cI, 9216, .inl (upd (fun k => if 0 ≤ k ∧ k < 9 then 2147483647 else 0) 0 0))), ((u_2 2), .inr (0, [.int 0, .int 0, .int 0, .int 0])), ((u_2 3), .inr (0, [.int 0, .int 0, .int 0, .int 0])), ((p2 1), .inr (5, [.ref (p2 2), .ref (p2 3), .ref (p2 4), .ref (p2 5), .ref (p2 6), .ref (p2 7), .ref (p2 8), .ref (p2 9), .ref (p2 10), .ref (p2 11), .ref (p2 12), .ref (p2 13), .int 0, .int 0, .int 0, .int 0, .int 0, .int 100, .int 0, .int 0])), ((p2 12), .inl (cI, 3, .inl (fun _ => 0))), ((p2 11), .inl (cI, 3, .inl (fun _ => 0)))] H := hP
  have hD : va_D A [(p0, .inr (6, [.ref (p2 0), .int 0, .ref (p2 1), .ref (p2 14), .ref (p2 27), .ref (p2 28), .ref (p2 29), .ref (p2 30), .ref (p2 54), .ref (u_2 0), .int 1, .int 1, .int 999, .ref (p2 61), .ref (p2 62), .ref (p2 63), .ref (p2 60)])), ((p2 28), .inr (0, [.int 0, .int 0, .int 0, .int 0])), ((u_2 0), .inr (4, [.ref (u_2 1), .ref (u_2 2), .ref (u_2 3), .ref (p2 1), .int 1, .int 1])), ((u_2 1), .inl (cI, 9216, .inl (upd (fun k => if 0 ≤ k ∧ k < 9 then 2147483647 else 0) 0 0))), ((u_2 2), .inr (0, [.int 0, .int 0, .int 0, .int 0])), ((u_2 3), .inr (0, [.int 0, .int 0, .int 0, .int 0])), ((p2 1), .inr (5, [.ref (p2 2), .ref (p2 3), .ref (p2 4), .ref (p2 5), .ref (p2 6), .ref (p2 7), .ref (p2 8), .ref (p2 9), .ref (p2 10), .ref (p2 11), .ref (p2 12), .ref (p2 13), .int 0, .int 0, .int 0, .int 0, .int 0, .int 100, .int 0, .int 0])), ((p2 12), .inl (cI, 3, .inl (fun _ => 0))), ((p2 11), .inl (cI, 3, .inl (fun _ => 0)))] := hD
  refine lv_istore_n (lv' := [(3, .int (-1)), (2, .ref (u_2 0)), (0, .ref p0), (1, .int p1)]) hx hb dX6_ends_20 rfl hl (by decide) rfl (fun ls hl => ?_)
  refine lv_iload_n hx hb dX6_ends_21 rfl (lv_at hl 0 rfl) ?_
  refine lv_if_ge (tgt := 27) hx hb dX6_ends_22 (by decide) (fun q9 => absurd q9 (by decide +kernel)) (fun _ => ?_)
  refine lv_iconst (v := (-1)) hx hb dX6_ends_25 (by decide +kernel) ?_
  exact k_ri B hP hD hS dX6_ends_26 (fun k9 => match k9 with | 0 => (u_2 0) | 1 => (u_2 1) | 2 => (u_2 2) | 3 => (u_2 3) | _ => 0) [0, 1, 6, 7, 8, 2, 3, 4, 5] rfl rfl rfl (Nat.le_of_ble_eq_true rfl) (Nat.le_of_ble_eq_true rfl) rfl
set_option maxHeartbeats 4000000 in
set_option maxRecDepth 100000 in
theorem c_X7_is_v25 (l : Launch) (dC : Nat → ClassId) (dI : Nat → Nat → Nat) (cI cJ cZ cM : ClassId) (p0 : Int32)   : k_Mi l yX7_is wsX7_is ({ frames := 1, cells := 0, slots := 0, locals := 40 }) (dC, dI) vwCl (tyy cI cJ cZ cM) [] [.int p0, .int 0, .int 2] 0 0 (fun (u9 : (Nat × (Nat → Nat))) => []) (fun (r9 : Int32) (u9 : (Nat × (Nat → Nat))) => match u9.1 with | 0 => (p0.toInt < 0) ∧ r9 = 0 | 1 => (0 ≤ p0.toInt) ∧ (2 < p0.toInt) ∧ r9 = 0 | 2 => (0 ≤ p0.toInt) ∧ (p0.toInt ≤ 2) ∧ r9 = 1 | _ => False) := by
  refine fun sz => k_enter (cc := cX7_is) (maxL := 3) (ret := some (.boolean)) (Qc := fun A => va_Qi (fun (r9 : Int32) (u9 : (Nat × (Nat → Nat))) => match u9.1 with | 0 => (p0.toInt < 0) ∧ r9 = 0 | 1 => (0 ≤ p0.toInt) ∧ (2 < p0.toInt) ∧ r9 = 0 | 2 => (0 ≤ p0.toInt) ∧ (p0.toInt ≤ 2) ∧ r9 = 1 | _ => False) (fun u => k_B (dC, dI) vwCl (tyy cI cJ cZ cM) A ((fun (u9 : (Nat × (Nat → Nat))) => []) u)) A) sz (by decide +kernel) rfl (Nat.le_of_ble_eq_true rfl) (fun p e s m args below meth c A ls H locs B hP hD hS hl => ?_)
  obtain ⟨hx, hb, hml, hown, hts, hr, hlk, hnm, hK, hA, hN, hC⟩ := id B
  have hown : s.vm.findClass RX7 = some m.cls := hown
  have hl : lv_has ls 3 [(0, .int p0), (1, .int 0), (2, .int 2)] := hl
  refine lv_iload_n hx hb dX7_is_0 rfl (lv_at hl 0 rfl) ?_
  refine lv_iload_n hx hb dX7_is_1 rfl (lv_at hl 1 rfl) ?_
  refine lv_icmp_lt (tgt := 14) hx hb dX7_is_2 (by decide) (fun c_1 => ?_) (fun c_1 => ?_)
  · have c_1 : p0.toInt < 0 := k_ltT rfl (by decide +kernel) c_1
    refine lv_iconst (v := 0) hx hb dX7_is_14 (by decide +kernel) ?_
    exact k_ri B hP hD hS dX7_is_15 (0, (fun _ => 0)) [] rfl rfl rfl (Nat.le_of_ble_eq_true rfl) (Nat.le_of_ble_eq_true rfl) ⟨c_1, rfl⟩
  · have c_1 : 0 ≤ p0.toInt := k_ltF rfl (by decide +kernel) c_1
    refine lv_iload_n hx hb dX7_is_5 rfl (lv_at hl 0 rfl) ?_
    refine lv_iload_n hx hb dX7_is_6 rfl (lv_at hl 2 rfl) ?_
    refine lv_icmp_gt (tgt := 14) hx hb dX7_is_7 (by decide) (fun c_2 => ?_) (fun c_2 => ?_)
    · have c_2 : 2 < p0.toInt := k_ltT (by decide +kernel) rfl c_2
      refine lv_iconst (v := 0) hx hb dX7_is_14 (by decide +kernel) ?_
      exact k_ri B hP hD hS dX7_is_15 (1, (fun _ => 0)) [] rfl rfl rfl (Nat.le_of_ble_eq_true rfl) (Nat.le_of_ble_eq_true rfl) ⟨c_1, c_2, rfl⟩
    · have c_2 : p0.toInt ≤ 2 := k_ltF (by decide +kernel) rfl c_2
      refine lv_iconst (v := 1) hx hb dX7_is_10 (by decide +kernel) ?_
      refine lv_goto (tgt := 15) hx hb dX7_is_11 (by decide) ?_
      exact k_ri B hP hD hS dX7_is_15 (2, (fun _ => 0)) [] rfl rfl rfl (Nat.le_of_ble_eq_true rfl) (Nat.le_of_ble_eq_true rfl) ⟨c_1, c_2, rfl⟩
set_option maxHeartbeats 4000000 in
set_option maxRecDepth 100000 in
theorem c_X7_asks_v1 (l : Launch) (dC : Nat → ClassId) (dI : Nat → Nat → Nat) (cI cJ cZ cM : ClassId) (p0 : Nat) (p1 : Nat → Nat)   : k_Mv l yX7_asks wsX7_asks ({ frames := 1, cells := 0, slots := 0, locals := 40 }) (dC, dI) vwCl (tyy cI cJ cZ cM) [(p0, .inr (7, oM p1 (upd i7 75 (-1)) j7))] [.ref p0, .int 0, .int 0, .int 0, .int 0] 0 0 (fun (u9 : Unit) => [(p0, .inr (7, oM p1 (upd (upd (upd (upd (upd i7 62 0) 63 0) 64 0) 65 0) 75 (-1)) j7))]) (fun (u9 : Unit) => True) := by
  refine fun sz => k_enter (cc := cX7_asks) (maxL := 5) (ret := none) (Qc := fun A => va_Qv (fun (u9 : Unit) => True) (fun u => k_B (dC, dI) vwCl (tyy cI cJ cZ cM) A ((fun (u9 : Unit) => [(p0, .inr (7, oM p1 (upd (upd (upd (upd (upd i7 62 0) 63 0) 64 0) 65 0) 75 (-1)) j7))]) u)) A) sz (by decide +kernel) rfl (Nat.le_of_ble_eq_true rfl) (fun p e s m args below meth c A ls H locs B hP hD hS hl => ?_)
  obtain ⟨hx, hb, hml, hown, hts, hr, hlk, hnm, hK, hA, hN, hC⟩ := id B
  have hown : s.vm.findClass RX7 = some m.cls := hown
  have hl : lv_has ls 5 [(0, .ref p0), (1, .int 0), (2, .int 0), (3, .int 0), (4, .int 0)] := hl
  have w_0 : (Cond.fieldLink RX7 201 "WishSeaModel" "askedHad" "I").before args s = true := hts _ (List.mem_of_getElem? (i := 1) rfl)
  have w_1 : (Cond.fieldLink RX7 204 "WishSeaModel" "askedSea" "I").before args s = true := hts _ (List.mem_of_getElem? (i := 2) rfl)
  have w_2 : (Cond.fieldLink RX7 207 "WishSeaModel" "askedSaid" "I").before args s = true := hts _ (List.mem_of_getElem? (i := 3) rfl)
  have w_3 : (Cond.fieldLink RX7 210 "WishSeaModel" "askedDay" "I").before args s = true := hts _ (List.mem_of_getElem? (i := 4) rfl)
  have hinX7 : ∀ w ∈ u_ws RX7 TX7 92, w ∈ wsX7_asks := fun _ h => List.mem_cons_of_mem _ (List.mem_append_right _ h)
  refine lv_aload_n hx hb dX7_asks_0 rfl (lv_at hl 0 rfl) ?_
  refine lv_iload_n hx hb dX7_asks_1 rfl (lv_at hl 1 rfl) ?_
  refine k_put (D := (dC, dI)) (ci := 7) (v := .int 0) (C := RX7) (T := TX7) (N := 92) (ws' := [(p0, .inr (7, oM p1 (upd (upd i7 62 0) 75 (-1)) j7))]) hx hb hts hinX7 tyX7 tyX7_ok nmX7 hown hK hP hD hS 0 rfl rfl 62 (by decide) w_0 rfl rfl rfl rfl (Nat.le_of_ble_eq_true rfl) rfl dX7_asks_2 (fun H locs hP hD hS => ?_)
  refine lv_aload_n hx hb dX7_asks_5 rfl (lv_at hl 0 rfl) ?_
  refine lv_iload_n hx hb dX7_asks_6 rfl (lv_at hl 2 rfl) ?_
  refine k_put (D := (dC, dI)) (ci := 7) (v := .int 0) (C := RX7) (T := TX7) (N := 92) (ws' := [(p0, .inr (7, oM p1 (upd (upd (upd i7 62 0) 63 0) 75 (-1)) j7))]) hx hb hts hinX7 tyX7 tyX7_ok nmX7 hown hK hP hD hS 0 rfl rfl 63 (by decide) w_1 rfl rfl rfl rfl (Nat.le_of_ble_eq_true rfl) rfl dX7_asks_7 (fun H locs hP hD hS => ?_)
  refine lv_aload_n hx hb dX7_asks_10 rfl (lv_at hl 0 rfl) ?_
  refine lv_iload_n hx hb dX7_asks_11 rfl (lv_at hl 3 rfl) ?_
  refine k_put (D := (dC, dI)) (ci := 7) (v := .int 0) (C := RX7) (T := TX7) (N := 92) (ws' := [(p0, .inr (7, oM p1 (upd (upd (upd (upd i7 62 0) 63 0) 64 0) 75 (-1)) j7))]) hx hb hts hinX7 tyX7 tyX7_ok nmX7 hown hK hP hD hS 0 rfl rfl 64 (by decide) w_2 rfl rfl rfl rfl (Nat.le_of_ble_eq_true rfl) rfl dX7_asks_12 (fun H locs hP hD hS => ?_)
  refine lv_aload_n hx hb dX7_asks_15 rfl (lv_at hl 0 rfl) ?_
  refine lv_iload hx hb dX7_asks_16 (lv_at hl 4 rfl) ?_
  refine k_put (D := (dC, dI)) (ci := 7) (v := .int 0) (C := RX7) (T := TX7) (N := 92) (ws' := [(p0, .inr (7, oM p1 (upd (upd (upd (upd (upd i7 62 0) 63 0) 64 0) 65 0) 75 (-1)) j7))]) hx hb hts hinX7 tyX7 tyX7_ok nmX7 hown hK hP hD hS 0 rfl rfl 65 (by decide) w_3 rfl rfl rfl rfl (Nat.le_of_ble_eq_true rfl) rfl dX7_asks_18 (fun H locs hP hD hS => ?_)
  exact k_rv B hP hD hS dX7_asks_21 () [0] rfl rfl (Nat.le_of_ble_eq_true rfl) (Nat.le_of_ble_eq_true rfl) trivial
set_option maxHeartbeats 4000000 in
set_option maxRecDepth 100000 in
theorem c_X7_isContent_v1 (l : Launch) (dC : Nat → ClassId) (dI : Nat → Nat → Nat) (cI cJ cZ cM : ClassId) (p0 : Nat) (p1 : Nat → Nat)   : k_Mi l yX7_isContent wsX7_isContent ({ frames := 1, cells := 0, slots := 0, locals := 40 }) (dC, dI) vwCl (tyy cI cJ cZ cM) [(p0, .inr (7, oM p1 (upd (upd (upd (upd (upd i7 62 0) 63 0) 64 0) 65 0) 75 (-1)) j7)), ((p1 28), .inl (cI, 2, .inl (upd (fun _ => 0) 0 (-1))))] [.ref p0] 0 0 (fun (u9 : Unit) => [(p0, .inr (7, oM p1 (upd (upd (upd (upd (upd (upd i7 62 0) 63 0) 64 0) 65 0) 66 (-1)) 75 (-1)) j7)), ((p1 28), .inl (cI, 2, .inl (upd (fun _ => 0) 0 (-1))))]) (fun (r9 : Int32) (u9 : Unit) => r9 = 0) := by
  refine fun sz => k_enter (cc := cX7_isContent) (maxL := 1) (ret := some (.boolean)) (Qc := fun A => va_Qi (fun (r9 : Int32) (u9 : Unit) => r9 = 0) (fun u => k_B (dC, dI) vwCl (tyy cI cJ cZ cM) A ((fun (u9 : Unit) => [(p0, .inr (7, oM p1 (upd (upd (upd (upd (upd (upd i7 62 0) 63 0) 64 0) 65 0) 66 (-1)) 75 (-1)) j7)), ((p1 28), .inl (cI, 2, .inl (upd (fun _ => 0) 0 (-1))))]) u)) A) sz (by decide +kernel) rfl (Nat.le_of_ble_eq_true rfl) (fun p e s m args below meth c A ls H locs B hP hD hS hl => ?_)
  obtain ⟨hx, hb, hml, hown, hts, hr, hlk, hnm, hK, hA, hN, hC⟩ := id B
  have hown : s.vm.findClass RX7 = some m.cls := hown
  have hl : lv_has ls 1 [(0, .ref p0)] := hl
  have w_0 : (Cond.fieldLink RX7 213 "WishSeaModel" "askedWish" "I").before args s = true := hts _ (List.mem_of_getElem? (i := 1) rfl)
  have w_1 : (Cond.fieldLink RX7 96 "WishSeaModel" "contentFrom" "[I").before args s = true := hts _ (List.mem_of_getElem? (i := 2) rfl)
  have w_2 : (Cond.fieldLink RX7 51 "WishSeaModel" "bank" "I").before args s = true := hts _ (List.mem_of_getElem? (i := 3) rfl)
  have hinX7 : ∀ w ∈ u_ws RX7 TX7 92, w ∈ wsX7_isContent := fun _ h => List.mem_cons_of_mem _ (List.mem_append_right _ h)
  refine lv_aload_n hx hb dX7_isContent_0 rfl (lv_at hl 0 rfl) ?_
  refine lv_iconst (v := (-1)) hx hb dX7_isContent_1 (by decide +kernel) ?_
  refine k_put (D := (dC, dI)) (ci := 7) (v := .int (-1)) (C := RX7) (T := TX7) (N := 92) (ws' := [(p0, .inr (7, oM p1 (upd (upd (upd (upd (upd (upd i7 62 0) 63 0) 64 0) 65 0) 66 (-1)) 75 (-1)) j7)), ((p1 28), .inl (cI, 2, .inl (upd (fun _ => 0) 0 (-1))))]) hx hb hts hinX7 tyX7 tyX7_ok nmX7 hown hK hP hD hS 0 rfl rfl 66 (by decide) w_0 rfl rfl rfl rfl (Nat.le_of_ble_eq_true rfl) rfl dX7_isContent_2 (fun H locs hP hD hS => ?_)
  refine lv_aload_n hx hb dX7_isContent_5 rfl (lv_at hl 0 rfl) ?_
  refine k_get (D := (dC, dI)) (ci := 7) (v := .ref (p1 28)) (C := RX7) (T := TX7) (N := 92) hx hb hts hinX7 hown hK hP 0 rfl rfl 28 (by decide) w_1 rfl rfl dX7_isContent_6 ?_
  refine lv_aload_n hx hb dX7_isContent_9 rfl (lv_at hl 0 rfl) ?_
  refine k_get (D := (dC, dI)) (ci := 7) (v := .int 0) (C := RX7) (T := TX7) (N := 92) hx hb hts hinX7 hown hK hP 0 rfl rfl 13 (by decide) w_2 rfl rfl dX7_isContent_10 ?_
  refine k_iald (v := (-1)) hx hb hK hP 1 0 0 rfl rfl rfl (Nat.le_of_ble_eq_true rfl) (Nat.le_of_ble_eq_true rfl) rfl dX7_isContent_13 ?_
  refine lv_iconst (v := (-1)) hx hb dX7_isContent_14 (by decide +kernel) ?_
  refine lv_icmp_eq (tgt := 49) hx hb dX7_isContent_15 (by decide) (fun _ => ?_) (fun q9 => absurd q9 (by decide +kernel))
  refine lv_iconst (v := 0) hx hb dX7_isContent_49 (by decide +kernel) ?_
  exact k_ri B hP hD hS dX7_isContent_50 () [0, 1] rfl rfl rfl (Nat.le_of_ble_eq_true rfl) (Nat.le_of_ble_eq_true rfl) rfl
set_option maxHeartbeats 4000000 in
set_option maxRecDepth 100000 in
theorem c_X7_isContentOn_v0 (l : Launch) (dC : Nat → ClassId) (dI : Nat → Nat → Nat) (cI cJ cZ cM : ClassId) (p0 : Nat) (p1 : Nat → Nat)   : k_Mi l yX7_isContentOn wsX7_isContentOn ({ frames := 2, cells := 0, slots := 0, locals := 64 }) (dC, dI) vwCl (tyy cI cJ cZ cM) [(p0, .inr (7, oM p1 (upd i7 75 (-1)) j7)), ((p1 72), .inl (cI, 9216, .inl (upd (fun _ => (-1)) 0 0))), ((p1 51), .inl (cI, 22, .inl (fun _ => 0))), ((p1 52), .inl (cI, 22, .inl (fun _ => 0))), ((p1 28), .inl (cI, 2, .inl (upd (fun _ => 0) 0 (-1))))] [.ref p0, .int 0, .int 0] 0 0 (fun (u9 : Unit) => [(p0, .inr (7, oM p1 (upd (upd (upd (upd (upd (upd i7 62 0) 63 0) 64 0) 65 0) 66 (-1)) 75 (-1)) j7)), ((p1 72), .inl (cI, 9216, .inl (upd (fun _ => (-1)) 0 0))), ((p1 51), .inl (cI, 22, .inl (fun _ => 0))), ((p1 52), .inl (cI, 22, .inl (fun _ => 0))), ((p1 28), .inl (cI, 2, .inl (upd (fun _ => 0) 0 (-1))))]) (fun (r9 : Int32) (u9 : Unit) => r9 = 0) := by
  refine fun sz => k_enter (cc := cX7_isContentOn) (maxL := 3) (ret := some (.boolean)) (Qc := fun A => va_Qi (fun (r9 : Int32) (u9 : Unit) => r9 = 0) (fun u => k_B (dC, dI) vwCl (tyy cI cJ cZ cM) A ((fun (u9 : Unit) => [(p0, .inr (7, oM p1 (upd (upd (upd (upd (upd (upd i7 62 0) 63 0) 64 0) 65 0) 66 (-1)) 75 (-1)) j7)), ((p1 72), .inl (cI, 9216, .inl (upd (fun _ => (-1)) 0 0))), ((p1 51), .inl (cI, 22, .inl (fun _ => 0))), ((p1 52), .inl (cI, 22, .inl (fun _ => 0))), ((p1 28), .inl (cI, 2, .inl (upd (fun _ => 0) 0 (-1))))]) u)) A) sz (by decide +kernel) rfl (Nat.le_of_ble_eq_true rfl) (fun p e s m args below meth c A ls H locs B hP hD hS hl => ?_)
  obtain ⟨hx, hb, hml, hown, hts, hr, hlk, hnm, hK, hA, hN, hC⟩ := id B
  have hown : s.vm.findClass RX7 = some m.cls := hown
  have hl : lv_has ls 3 [(0, .ref p0), (1, .int 0), (2, .int 0)] := hl
  have w_0 : (Cond.fieldLink RX7 231 "WishSeaModel" "rungSea" "[I").before args s = true := hts _ (List.mem_of_getElem? (i := 1) rfl)
  have w_1 : (Cond.fieldLink RX7 168 "WishSeaModel" "saidOf" "[I").before args s = true := hts _ (List.mem_of_getElem? (i := 2) rfl)
  have w_2 : (Cond.fieldLink RX7 171 "WishSeaModel" "dayOf" "[I").before args s = true := hts _ (List.mem_of_getElem? (i := 3) rfl)
  have hinX7 : ∀ w ∈ u_ws RX7 TX7 92, w ∈ wsX7_isContentOn := fun _ h => List.mem_cons_of_mem _ (List.mem_append_right _ h)
  refine lv_aload_n hx hb dX7_isContentOn_0 rfl (lv_at hl 0 rfl) ?_
  refine lv_iload_n hx hb dX7_isContentOn_1 rfl (lv_at hl 2 rfl) ?_
  refine lv_aload_n hx hb dX7_isContentOn_2 rfl (lv_at hl 0 rfl) ?_
  refine k_get (D := (dC, dI)) (ci := 7) (v := .ref (p1 72)) (C := RX7) (T := TX7) (N := 92) hx hb hts hinX7 hown hK hP 0 rfl rfl 72 (by decide) w_0 rfl rfl dX7_isContentOn_3 ?_
  refine lv_sipush (v := 1024) hx hb dX7_isContentOn_6 (by decide +kernel) ?_
  refine lv_iload_n hx hb dX7_isContentOn_9 rfl (lv_at hl 1 rfl) ?_
  refine lv_imul hx hb dX7_isContentOn_10 ?_
  refine k_int (v := 0) (by decide +kernel) ?_
  refine lv_iload_n hx hb dX7_isContentOn_11 rfl (lv_at hl 2 rfl) ?_
  refine lv_iadd hx hb dX7_isContentOn_12 ?_
  refine k_int (v := 0) (by decide +kernel) ?_
  refine k_iald (v := 0) hx hb hK hP 1 0 0 rfl rfl rfl (Nat.le_of_ble_eq_true rfl) (Nat.le_of_ble_eq_true rfl) rfl dX7_isContentOn_13 ?_
  refine lv_aload_n hx hb dX7_isContentOn_14 rfl (lv_at hl 0 rfl) ?_
  refine k_get (D := (dC, dI)) (ci := 7) (v := .ref (p1 51)) (C := RX7) (T := TX7) (N := 92) hx hb hts hinX7 hown hK hP 0 rfl rfl 51 (by decide) w_1 rfl rfl dX7_isContentOn_15 ?_
  refine lv_iconst (v := 0) hx hb dX7_isContentOn_18 (by decide +kernel) ?_
  refine k_iald (v := 0) hx hb hK hP 2 0 0 rfl rfl rfl (Nat.le_of_ble_eq_true rfl) (Nat.le_of_ble_eq_true rfl) rfl dX7_isContentOn_19 ?_
  refine lv_iload_n hx hb dX7_isContentOn_20 rfl (lv_at hl 1 rfl) ?_
  refine lv_iadd hx hb dX7_isContentOn_21 ?_
  refine k_int (v := 0) (by decide +kernel) ?_
  refine lv_aload_n hx hb dX7_isContentOn_22 rfl (lv_at hl 0 rfl) ?_
  refine k_get (D := (dC, dI)) (ci := 7) (v := .ref (p1 52)) (C := RX7) (T := TX7) (N := 92) hx hb hts hinX7 hown hK hP 0 rfl rfl 52 (by decide) w_2 rfl rfl dX7_isContentOn_23 ?_
  refine lv_iconst (v := 0) hx hb dX7_isContentOn_26 (by decide +kernel) ?_
  refine k_iald (v := 0) hx hb hK hP 3 0 0 rfl rfl rfl (Nat.le_of_ble_eq_true rfl) (Nat.le_of_ble_eq_true rfl) rfl dX7_isContentOn_27 ?_
  refine k_cv (wc := [(p0, .inr (7, oM p1 (upd i7 75 (-1)) j7))]) (wr := [((p1 72), .inl (cI, 9216, .inl (upd (fun _ => (-1)) 0 0))), ((p1 51), .inl (cI, 22, .inl (fun _ => 0))), ((p1 52), .inl (cI, 22, .inl (fun _ => 0))), ((p1 28), .inl (cI, 2, .inl (upd (fun _ => 0) 0 (-1))))]) (fun hPc hDc hFc => va_runV (As := [.int 0, .int 0, .int 0, .int 0]) (rest := []) ⟨hx, hb, hml, hown, hts⟩ (c_X7_asks_v1 l dC dI cI cJ cZ cM p0 p1 H.size) (cwV 4 hts gX7_isContentOn_X7_asks rfl rfl rfl (by decide +kernel) ⟨(Nat.le_of_ble_eq_true rfl), (Nat.le_of_ble_eq_true rfl)⟩) (k_pV hPc hDc hK hN hC hS hFc hP (q0 := 0) (ci := 7) rfl rfl) rfl rfl hl.1 rfl (lv_room (Nat.le_of_ble_eq_true rfl)) dX7_isContentOn_28 ⟨(Nat.le_of_ble_eq_true rfl), (Nat.le_of_ble_eq_true rfl)⟩) hP hD hS hA [0] [1, 2, 3, 4] rfl rfl rfl rfl (by decide) (fun _ => rfl) 0 0 rfl rfl (fun u_2 H locs hw hP hD hS => ?_)
  have hP : va_P (dC, dI) vwCl [((p1 72), .inl (cI, 9216, .inl (upd (fun _ => (-1)) 0 0))), ((p1 51), .inl (cI, 22, .inl (fun _ => 0))), ((p1 52), .inl (cI, 22, .inl (fun _ => 0))), ((p1 28), .inl (cI, 2, .inl (upd (fun _ => 0) 0 (-1)))), (p0, .inr (7, oM p1 (upd (upd (upd (upd (upd i7 62 0) 63 0) 64 0) 65 0) 75 (-1)) j7))] H := hP
  have hD : va_D A [((p1 72), .inl (cI, 9216, .inl (upd (fun _ => (-1)) 0 0))), ((p1 51), .inl (cI, 22, .inl (fun _ => 0))), ((p1 52), .inl (cI, 22, .inl (fun _ => 0))), ((p1 28), .inl (cI, 2, .inl (upd (fun _ => 0) 0 (-1)))), (p0, .inr (7, oM p1 (upd (upd (upd (upd (upd i7 62 0) 63 0) 64 0) 65 0) 75 (-1)) j7))] := hD
  refine lv_aload_n hx hb dX7_isContentOn_31 rfl (lv_at hl 0 rfl) ?_
  refine k_ci (wc := [(p0, .inr (7, oM p1 (upd (upd (upd (upd (upd i7 62 0) 63 0) 64 0) 65 0) 75 (-1)) j7)), ((p1 28), .inl (cI, 2, .inl (upd (fun _ => 0) 0 (-1))))]) (wr := [((p1 72), .inl (cI, 9216, .inl (upd (fun _ => (-1)) 0 0))), ((p1 51), .inl (cI, 22, .inl (fun _ => 0))), ((p1 52), .inl (cI, 22, .inl (fun _ => 0)))]) (fun hPc hDc hFc => va_runV (As := []) (rest := []) ⟨hx, hb, hml, hown, hts⟩ (c_X7_isContent_v1 l dC dI cI cJ cZ cM p0 p1 H.size) (cwV 0 hts gX7_isContentOn_X7_isContent rfl rfl rfl (by decide +kernel) ⟨(Nat.le_of_ble_eq_true rfl), (Nat.le_of_ble_eq_true rfl)⟩) (k_pV hPc hDc hK hN hC hS hFc hP (q0 := 4) (ci := 7) rfl rfl) rfl rfl hl.1 rfl (lv_room (Nat.le_of_ble_eq_true rfl)) dX7_isContentOn_32 ⟨(Nat.le_of_ble_eq_true rfl), (Nat.le_of_ble_eq_true rfl)⟩) hP hD hS hA [4, 3] [0, 1, 2] rfl rfl rfl rfl (by decide) (fun _ => rfl) 0 0 rfl rfl (fun r_3 u_4 H locs hw hP hD hS => ?_)
  obtain rfl : r_3 = 0 := hw
  have hP : va_P (dC, dI) vwCl [((p1 72), .inl (cI, 9216, .inl (upd (fun _ => (-1)) 0 0))), ((p1 51), .inl (cI, 22, .inl (fun _ => 0))), ((p1 52), .inl (cI, 22, .inl (fun _ => 0))), (p0, .inr (7, oM p1 (upd (upd (upd (upd (upd (upd i7 62 0) 63 0) 64 0) 65 0) 66 (-1)) 75 (-1)) j7)), ((p1 28), .inl (cI, 2, .inl (upd (fun _ => 0) 0 (-1))))] H := hP
  have hD : va_D A [((p1 72), .inl (cI, 9216, .inl (upd (fun _ => (-1)) 0 0))), ((p1 51), .inl (cI, 22, .inl (fun _ => 0))), ((p1 52), .inl (cI, 22, .inl (fun _ => 0))), (p0, .inr (7, oM p1 (upd (upd (upd (upd (upd (upd i7 62 0) 63 0) 64 0) 65 0) 66 (-1)) 75 (-1)) j7)), ((p1 28), .inl (cI, 2, .inl (upd (fun _ => 0) 0 (-1))))] := hD
  exact k_ri B hP hD hS dX7_isContentOn_35 () [3, 0, 1, 2, 4] rfl rfl rfl (Nat.le_of_ble_eq_true rfl) (Nat.le_of_ble_eq_true rfl) rfl
set_option maxHeartbeats 4000000 in
set_option maxRecDepth 100000 in
theorem c_X7_finds_v1 (l : Launch) (dC : Nat → ClassId) (dI : Nat → Nat → Nat) (cI cJ cZ cM : ClassId) (p0 : Nat) (p1 : Nat → Nat)   : k_Mv l yX7_finds wsX7_finds ({ frames := 3, cells := 0, slots := 0, locals := 88 }) (dC, dI) vwCl (tyy cI cJ cZ cM) [(p0, .inr (7, oM p1 i7 j7)), ((p1 49), .inl (cI, 22, .inl (fun _ => 0))), ((p1 50), .inl (cI, 22, .inl (fun _ => 0))), ((p1 72), .inl (cI, 9216, .inl (fun _ => 0))), ((p1 14), .inl (cI, 2, .inl (fun _ => 0))), ((p1 18), .inl (cI, 2, .inl (fun _ => 0))), ((p1 51), .inl (cI, 22, .inl (fun _ => 0))), ((p1 52), .inl (cI, 22, .inl (fun _ => 0))), ((p1 28), .inl (cI, 2, .inl (upd (fun _ => 0) 0 (-1))))] [.ref p0, .int (-1)] 0 0 (fun (u9 : Unit) => [(p0, .inr (7, oM p1 (upd (upd (upd (upd (upd (upd i7 62 0) 63 0) 64 0) 65 0) 66 (-1)) 75 (-1)) j7)), ((p1 49), .inl (cI, 22, .inl (fun _ => 0))), ((p1 50), .inl (cI, 22, .inl (fun _ => 0))), ((p1 72), .inl (cI, 9216, .inl (upd (fun _ => (-1)) 0 0))), ((p1 14), .inl (cI, 2, .inl (fun _ => 0))), ((p1 18), .inl (cI, 2, .inl (fun _ => 0))), ((p1 51), .inl (cI, 22, .inl (fun _ => 0))), ((p1 52), .inl (cI, 22, .inl (fun _ => 0))), ((p1 28), .inl (cI, 2, .inl (upd (fun _ => 0) 0 (-1))))]) (fun (u9 : Unit) => True) := by
  refine fun sz => k_enter (cc := cX7_finds) (maxL := 5) (ret := none) (Qc := fun A => va_Qv (fun (u9 : Unit) => True) (fun u => k_B (dC, dI) vwCl (tyy cI cJ cZ cM) A ((fun (u9 : Unit) => [(p0, .inr (7, oM p1 (upd (upd (upd (upd (upd (upd i7 62 0) 63 0) 64 0) 65 0) 66 (-1)) 75 (-1)) j7)), ((p1 49), .inl (cI, 22, .inl (fun _ => 0))), ((p1 50), .inl (cI, 22, .inl (fun _ => 0))), ((p1 72), .inl (cI, 9216, .inl (upd (fun _ => (-1)) 0 0))), ((p1 14), .inl (cI, 2, .inl (fun _ => 0))), ((p1 18), .inl (cI, 2, .inl (fun _ => 0))), ((p1 51), .inl (cI, 22, .inl (fun _ => 0))), ((p1 52), .inl (cI, 22, .inl (fun _ => 0))), ((p1 28), .inl (cI, 2, .inl (upd (fun _ => 0) 0 (-1))))]) u)) A) sz (by decide +kernel) rfl (Nat.le_of_ble_eq_true rfl) (fun p e s m args below meth c A ls H locs B hP hD hS hl => ?_)
  obtain ⟨hx, hb, hml, hown, hts, hr, hlk, hnm, hK, hA, hN, hC⟩ := id B
  have hown : s.vm.findClass RX7 = some m.cls := hown
  have hl : lv_has ls 5 [(0, .ref p0), (1, .int (-1))] := hl
  have w_0 : (Cond.fieldLink RX7 240 "WishSeaModel" "foundRung" "I").before args s = true := hts _ (List.mem_of_getElem? (i := 1) rfl)
  have w_1 : (Cond.fieldLink RX7 54 "WishSeaModel" "things" "[I").before args s = true := hts _ (List.mem_of_getElem? (i := 2) rfl)
  have w_2 : (Cond.fieldLink RX7 51 "WishSeaModel" "bank" "I").before args s = true := hts _ (List.mem_of_getElem? (i := 3) rfl)
  have w_3 : (Cond.fieldLink RX7 231 "WishSeaModel" "rungSea" "[I").before args s = true := hts _ (List.mem_of_getElem? (i := 4) rfl)
  have hinX7 : ∀ w ∈ u_ws RX7 TX7 92, w ∈ wsX7_finds := fun _ h => List.mem_cons_of_mem _ (List.mem_append_right _ h)
  refine lv_aload_n hx hb dX7_finds_0 rfl (lv_at hl 0 rfl) ?_
  refine k_cv (wc := [(p0, .inr (7, oM p1 i7 j7)), ((p1 49), .inl (cI, 22, .inl (fun _ => 0))), ((p1 50), .inl (cI, 22, .inl (fun _ => 0))), ((p1 72), .inl (cI, 9216, .inl (fun _ => 0))), ((p1 14), .inl (cI, 2, .inl (fun _ => 0))), ((p1 18), .inl (cI, 2, .inl (fun _ => 0)))]) (wr := [((p1 51), .inl (cI, 22, .inl (fun _ => 0))), ((p1 52), .inl (cI, 22, .inl (fun _ => 0))), ((p1 28), .inl (cI, 2, .inl (upd (fun _ => 0) 0 (-1))))]) (fun hPc hDc hFc => va_runV (As := []) (rest := []) ⟨hx, hb, hml, hown, hts⟩ (c_X7_climbs_v0 l dC dI cI cJ cZ cM p0 p1 H.size) (cwV 0 hts gX7_finds_X7_climbs rfl rfl rfl (by decide +kernel) ⟨(Nat.le_of_ble_eq_true rfl), (Nat.le_of_ble_eq_true rfl)⟩) (k_pV hPc hDc hK hN hC hS hFc hP (q0 := 0) (ci := 7) rfl rfl) rfl rfl hl.1 rfl (lv_room (Nat.le_of_ble_eq_true rfl)) dX7_finds_1 ⟨(Nat.le_of_ble_eq_true rfl), (Nat.le_of_ble_eq_true rfl)⟩) hP hD hS hA [0, 1, 2, 3, 4, 5] [6, 7, 8] rfl rfl rfl rfl (by decide) (fun _ => rfl) 0 0 rfl rfl (fun u_2 H locs hw hP hD hS => ?_)
  have hP : va_P (dC, dI) vwCl [((p1 51), .inl (cI, 22, .inl (fun _ => 0))), ((p1 52), .inl (cI, 22, .inl (fun _ => 0))), ((p1 28), .inl (cI, 2, .inl (upd (fun _ => 0) 0 (-1)))), (p0, .inr (7, oM p1 i7 j7)), ((p1 49), .inl (cI, 22, .inl (fun _ => 0))), ((p1 50), .inl (cI, 22, .inl (fun _ => 0))), ((p1 72), .inl (cI, 9216, .inl (upd (fun _ => (-1)) 0 0))), ((p1 14), .inl (cI, 2, .inl (fun _ => 0))), ((p1 18), .inl (cI, 2, .inl (fun _ => 0)))] H := hP
  have hD : va_D A [((p1 51), .inl (cI, 22, .inl (fun _ => 0))), ((p1 52), .inl (cI, 22, .inl (fun _ => 0))), ((p1 28), .inl (cI, 2, .inl (upd (fun _ => 0) 0 (-1)))), (p0, .inr (7, oM p1 i7 j7)), ((p1 49), .inl (cI, 22, .inl (fun _ => 0))), ((p1 50), .inl (cI, 22, .inl (fun _ => 0))), ((p1 72), .inl (cI, 9216, .inl (upd (fun _ => (-1)) 0 0))), ((p1 14), .inl (cI, 2, .inl (fun _ => 0))), ((p1 18), .inl (cI, 2, .inl (fun _ => 0)))] := hD
  refine lv_aload_n hx hb dX7_finds_4 rfl (lv_at hl 0 rfl) ?_
  refine lv_iconst (v := (-1)) hx hb dX7_finds_5 (by decide +kernel) ?_
  refine k_put (D := (dC, dI)) (ci := 7) (v := .int (-1)) (C := RX7) (T := TX7) (N := 92) (ws' := [((p1 51), .inl (cI, 22, .inl (fun _ => 0))), ((p1 52), .inl (cI, 22, .inl (fun _ => 0))), ((p1 28), .inl (cI, 2, .inl (upd (fun _ => 0) 0 (-1)))), (p0, .inr (7, oM p1 (upd i7 75 (-1)) j7)), ((p1 49), .inl (cI, 22, .inl (fun _ => 0))), ((p1 50), .inl (cI, 22, .inl (fun _ => 0))), ((p1 72), .inl (cI, 9216, .inl (upd (fun _ => (-1)) 0 0))), ((p1 14), .inl (cI, 2, .inl (fun _ => 0))), ((p1 18), .inl (cI, 2, .inl (fun _ => 0)))]) hx hb hts hinX7 tyX7 tyX7_ok nmX7 hown hK hP hD hS 3 rfl rfl 75 (by decide) w_0 rfl rfl rfl rfl (Nat.le_of_ble_eq_true rfl) rfl dX7_finds_6 (fun H locs hP hD hS => ?_)
  refine lv_iconst (v := 0) hx hb dX7_finds_9 (by decide +kernel) ?_
  refine lv_istore_n (lv' := [(2, .int 0), (0, .ref p0), (1, .int (-1))]) hx hb dX7_finds_10 rfl hl (by decide) rfl (fun ls hl => ?_)
  refine lv_iload_n hx hb dX7_finds_11 rfl (lv_at hl 0 rfl) ?_
  refine lv_bipush (v := 8) hx hb dX7_finds_12 (by decide +kernel) ?_
  refine lv_icmp_gt (tgt := 129) hx hb dX7_finds_14 (by decide) (fun q9 => absurd q9 (by decide +kernel)) (fun _ => ?_)
  refine lv_aload_n hx hb dX7_finds_17 rfl (lv_at hl 1 rfl) ?_
  refine k_get (D := (dC, dI)) (ci := 7) (v := .int (-1)) (C := RX7) (T := TX7) (N := 92) hx hb hts hinX7 hown hK hP 3 rfl rfl 75 (by decide) w_0 rfl rfl dX7_finds_18 ?_
  refine lv_iconst (v := (-1)) hx hb dX7_finds_21 (by decide +kernel) ?_
  refine lv_icmp_ne (tgt := 129) hx hb dX7_finds_22 (by decide) (fun q9 => absurd q9 (by decide +kernel)) (fun _ => ?_)
  refine lv_iconst (v := 0) hx hb dX7_finds_25 (by decide +kernel) ?_
  refine lv_istore_n (lv' := [(3, .int 0), (2, .int 0), (0, .ref p0), (1, .int (-1))]) hx hb dX7_finds_26 rfl hl (by decide) rfl (fun ls hl => ?_)
  refine lv_iload_n hx hb dX7_finds_27 rfl (lv_at hl 0 rfl) ?_
  refine lv_iconst (v := 1) hx hb dX7_finds_28 (by decide +kernel) ?_
  refine lv_aload_n hx hb dX7_finds_29 rfl (lv_at hl 2 rfl) ?_
  refine k_get (D := (dC, dI)) (ci := 7) (v := .ref (p1 14)) (C := RX7) (T := TX7) (N := 92) hx hb hts hinX7 hown hK hP 3 rfl rfl 14 (by decide) w_1 rfl rfl dX7_finds_30 ?_
  refine lv_aload_n hx hb dX7_finds_33 rfl (lv_at hl 2 rfl) ?_
  refine k_get (D := (dC, dI)) (ci := 7) (v := .int 0) (C := RX7) (T := TX7) (N := 92) hx hb hts hinX7 hown hK hP 3 rfl rfl 13 (by decide) w_2 rfl rfl dX7_finds_34 ?_
  refine k_iald (v := 0) hx hb hK hP 7 0 0 rfl rfl rfl (Nat.le_of_ble_eq_true rfl) (Nat.le_of_ble_eq_true rfl) rfl dX7_finds_37 ?_
  refine lv_ishl hx hb dX7_finds_38 ?_
  refine k_int (v := 1) (by decide +kernel) ?_
  refine lv_icmp_ge (tgt := 123) hx hb dX7_finds_39 (by decide) (fun q9 => absurd q9 (by decide +kernel)) (fun _ => ?_)
  refine lv_aload_n hx hb dX7_finds_42 rfl (lv_at hl 2 rfl) ?_
  refine k_get (D := (dC, dI)) (ci := 7) (v := .ref (p1 72)) (C := RX7) (T := TX7) (N := 92) hx hb hts hinX7 hown hK hP 3 rfl rfl 72 (by decide) w_3 rfl rfl dX7_finds_43 ?_
  refine lv_sipush (v := 1024) hx hb dX7_finds_46 (by decide +kernel) ?_
  refine lv_iload_n hx hb dX7_finds_49 rfl (lv_at hl 1 rfl) ?_
  refine lv_imul hx hb dX7_finds_50 ?_
  refine k_int (v := 0) (by decide +kernel) ?_
  refine lv_iload_n hx hb dX7_finds_51 rfl (lv_at hl 0 rfl) ?_
  refine lv_iadd hx hb dX7_finds_52 ?_
  refine k_int (v := 0) (by decide +kernel) ?_
  refine k_iald (v := 0) hx hb hK hP 6 0 0 rfl rfl rfl (Nat.le_of_ble_eq_true rfl) (Nat.le_of_ble_eq_true rfl) rfl dX7_finds_53 ?_
  refine lv_istore (lv' := [(4, .int 0), (3, .int 0), (2, .int 0), (0, .ref p0), (1, .int (-1))]) hx hb dX7_finds_54 hl (by decide) rfl (fun ls hl => ?_)
  refine lv_iload hx hb dX7_finds_56 (lv_at hl 0 rfl) ?_
  refine lv_iconst (v := (-1)) hx hb dX7_finds_58 (by decide +kernel) ?_
  refine lv_icmp_eq (tgt := 117) hx hb dX7_finds_59 (by decide) (fun q9 => absurd q9 (by decide +kernel)) (fun _ => ?_)
  refine lv_iload_n hx hb dX7_finds_62 rfl (lv_at hl 4 rfl) ?_
  refine lv_iconst (v := (-1)) hx hb dX7_finds_63 (by decide +kernel) ?_
  refine lv_icmp_ne (tgt := 79) hx hb dX7_finds_64 (by decide) (fun q9 => absurd q9 (by decide +kernel)) (fun _ => ?_)
  refine lv_aload_n hx hb dX7_finds_67 rfl (lv_at hl 3 rfl) ?_
  refine lv_iload_n hx hb dX7_finds_68 rfl (lv_at hl 2 rfl) ?_
  refine lv_iload_n hx hb dX7_finds_69 rfl (lv_at hl 1 rfl) ?_
  refine k_ci (wc := [(p0, .inr (7, oM p1 (upd i7 75 (-1)) j7)), ((p1 72), .inl (cI, 9216, .inl (upd (fun _ => (-1)) 0 0))), ((p1 51), .inl (cI, 22, .inl (fun _ => 0))), ((p1 52), .inl (cI, 22, .inl (fun _ => 0))), ((p1 28), .inl (cI, 2, .inl (upd (fun _ => 0) 0 (-1))))]) (wr := [((p1 49), .inl (cI, 22, .inl (fun _ => 0))), ((p1 50), .inl (cI, 22, .inl (fun _ => 0))), ((p1 14), .inl (cI, 2, .inl (fun _ => 0))), ((p1 18), .inl (cI, 2, .inl (fun _ => 0)))]) (fun hPc hDc hFc => va_runV (As := [.int 0, .int 0]) (rest := []) ⟨hx, hb, hml, hown, hts⟩ (c_X7_isContentOn_v0 l dC dI cI cJ cZ cM p0 p1 H.size) (cwV 2 hts gX7_finds_X7_isContentOn rfl rfl rfl (by decide +kernel) ⟨(Nat.le_of_ble_eq_true rfl), (Nat.le_of_ble_eq_true rfl)⟩) (k_pV hPc hDc hK hN hC hS hFc hP (q0 := 3) (ci := 7) rfl rfl) rfl rfl hl.1 rfl (lv_room (Nat.le_of_ble_eq_true rfl)) dX7_finds_70 ⟨(Nat.le_of_ble_eq_true rfl), (Nat.le_of_ble_eq_true rfl)⟩) hP hD hS hA [3, 6, 0, 1, 2] [4, 5, 7, 8] rfl rfl rfl rfl (by decide) (fun _ => rfl) 0 0 rfl rfl (fun r_3 u_4 H locs hw hP hD hS => ?_)
  obtain rfl : r_3 = 0 := hw
  have hP : va_P (dC, dI) vwCl [((p1 49), .inl (cI, 22, .inl (fun _ => 0))), ((p1 50), .inl (cI, 22, .inl (fun _ => 0))), ((p1 14), .inl (cI, 2, .inl (fun _ => 0))), ((p1 18), .inl (cI, 2, .inl (fun _ => 0))), (p0, .inr (7, oM p1 (upd (upd (upd (upd (upd (upd i7 62 0) 63 0) 64 0) 65 0) 66 (-1)) 75 (-1)) j7)), ((p1 72), .inl (cI, 9216, .inl (upd (fun _ => (-1)) 0 0))), ((p1 51), .inl (cI, 22, .inl (fun _ => 0))), ((p1 52), .inl (cI, 22, .inl (fun _ => 0))), ((p1 28), .inl (cI, 2, .inl (upd (fun _ => 0) 0 (-1))))] H := hP
  have hD : va_D A [((p1 49), .inl (cI, 22, .inl (fun _ => 0))), ((p1 50), .inl (cI, 22, .inl (fun _ => 0))), ((p1 14), .inl (cI, 2, .inl (fun _ => 0))), ((p1 18), .inl (cI, 2, .inl (fun _ => 0))), (p0, .inr (7, oM p1 (upd (upd (upd (upd (upd (upd i7 62 0) 63 0) 64 0) 65 0) 66 (-1)) 75 (-1)) j7)), ((p1 72), .inl (cI, 9216, .inl (upd (fun _ => (-1)) 0 0))), ((p1 51), .inl (cI, 22, .inl (fun _ => 0))), ((p1 52), .inl (cI, 22, .inl (fun _ => 0))), ((p1 28), .inl (cI, 2, .inl (upd (fun _ => 0) 0 (-1))))] := hD
  refine lv_if_ne (tgt := 87) hx hb dX7_finds_73 (by decide) (fun q9 => absurd q9 (by decide +kernel)) (fun _ => ?_)
  refine lv_goto (tgt := 117) hx hb dX7_finds_76 (by decide) ?_
  refine lv_iinc (v := 1) (lv' := [(3, .int 1), (4, .int 0), (2, .int 0), (0, .ref p0), (1, .int (-1))]) hx hb dX7_finds_117 hl (k := 1) rfl (by decide +kernel) (by decide) rfl (fun ls hl => ?_)
  refine lv_goto (tgt := 27) hx hb dX7_finds_120 (by decide) ?_
  refine lv_iload_n hx hb dX7_finds_27 rfl (lv_at hl 0 rfl) ?_
  refine lv_iconst (v := 1) hx hb dX7_finds_28 (by decide +kernel) ?_
  refine lv_aload_n hx hb dX7_finds_29 rfl (lv_at hl 3 rfl) ?_
  refine k_get (D := (dC, dI)) (ci := 7) (v := .ref (p1 14)) (C := RX7) (T := TX7) (N := 92) hx hb hts hinX7 hown hK hP 4 rfl rfl 14 (by decide) w_1 rfl rfl dX7_finds_30 ?_
  refine lv_aload_n hx hb dX7_finds_33 rfl (lv_at hl 3 rfl) ?_
  refine k_get (D := (dC, dI)) (ci := 7) (v := .int 0) (C := RX7) (T := TX7) (N := 92) hx hb hts hinX7 hown hK hP 4 rfl rfl 13 (by decide) w_2 rfl rfl dX7_finds_34 ?_
  refine k_iald (v := 0) hx hb hK hP 2 0 0 rfl rfl rfl (Nat.le_of_ble_eq_true rfl) (Nat.le_of_ble_eq_true rfl) rfl dX7_finds_37 ?_
  refine lv_ishl hx hb dX7_finds_38 ?_
  refine k_int (v := 1) (by decide +kernel) ?_
  refine lv_icmp_ge (tgt := 123) hx hb dX7_finds_39 (by decide) (fun _ => ?_) (fun q9 => absurd q9 (by decide +kernel))
  refine lv_iinc (v := 1) (lv' := [(2, .int 1), (3, .int 1), (4, .int 0), (0, .ref p0), (1, .int (-1))]) hx hb dX7_finds_123 hl (k := 2) rfl (by decide +kernel) (by decide) rfl (fun ls hl => ?_)
  refine lv_goto (tgt := 11) hx hb dX7_finds_126 (by decide) ?_
  refine lv_iload_n hx hb dX7_finds_11 rfl (lv_at hl 0 rfl) ?_
  refine lv_bipush (v := 8) hx hb dX7_finds_12 (by decide +kernel) ?_
  refine lv_icmp_gt (tgt := 129) hx hb dX7_finds_14 (by decide) (fun q9 => absurd q9 (by decide +kernel)) (fun _ => ?_)
  refine lv_aload_n hx hb dX7_finds_17 rfl (lv_at hl 3 rfl) ?_
  refine k_get (D := (dC, dI)) (ci := 7) (v := .int (-1)) (C := RX7) (T := TX7) (N := 92) hx hb hts hinX7 hown hK hP 4 rfl rfl 75 (by decide) w_0 rfl rfl dX7_finds_18 ?_
  refine lv_iconst (v := (-1)) hx hb dX7_finds_21 (by decide +kernel) ?_
  refine lv_icmp_ne (tgt := 129) hx hb dX7_finds_22 (by decide) (fun q9 => absurd q9 (by decide +kernel)) (fun _ => ?_)
  refine lv_iconst (v := 0) hx hb dX7_finds_25 (by decide +kernel) ?_
  refine lv_istore_n (lv' := [(3, .int 0), (2, .int 1), (4, .int 0), (0, .ref p0), (1, .int (-1))]) hx hb dX7_finds_26 rfl hl (by decide) rfl (fun ls hl => ?_)
  refine lv_iload_n hx hb dX7_finds_27 rfl (lv_at hl 0 rfl) ?_
  refine lv_iconst (v := 1) hx hb dX7_finds_28 (by decide +kernel) ?_
  refine lv_aload_n hx hb dX7_finds_29 rfl (lv_at hl 3 rfl) ?_
  refine k_get (D := (dC, dI)) (ci := 7) (v := .ref (p1 14)) (C := RX7) (T := TX7) (N := 92) hx hb hts hinX7 hown hK hP 4 rfl rfl 14 (by decide) w_1 rfl rfl dX7_finds_30 ?_
  refine lv_aload_n hx hb dX7_finds_33 rfl (lv_at hl 3 rfl) ?_
  refine k_get (D := (dC, dI)) (ci := 7) (v := .int 0) (C := RX7) (T := TX7) (N := 92) hx hb hts hinX7 hown hK hP 4 rfl rfl 13 (by decide) w_2 rfl rfl dX7_finds_34 ?_
  refine k_iald (v := 0) hx hb hK hP 2 0 0 rfl rfl rfl (Nat.le_of_ble_eq_true rfl) (Nat.le_of_ble_eq_true rfl) rfl dX7_finds_37 ?_
  refine lv_ishl hx hb dX7_finds_38 ?_
  refine k_int (v := 1) (by decide +kernel) ?_
  refine lv_icmp_ge (tgt := 123) hx hb dX7_finds_39 (by decide) (fun q9 => absurd q9 (by decide +kernel)) (fun _ => ?_)
  refine lv_aload_n hx hb dX7_finds_42 rfl (lv_at hl 3 rfl) ?_
  refine k_get (D := (dC, dI)) (ci := 7) (v := .ref (p1 72)) (C := RX7) (T := TX7) (N := 92) hx hb hts hinX7 hown hK hP 4 rfl rfl 72 (by decide) w_3 rfl rfl dX7_finds_43 ?_
  refine lv_sipush (v := 1024) hx hb dX7_finds_46 (by decide +kernel) ?_
  refine lv_iload_n hx hb dX7_finds_49 rfl (lv_at hl 1 rfl) ?_
  refine lv_imul hx hb dX7_finds_50 ?_
  refine k_int (v := 1024) (by decide +kernel) ?_
  refine lv_iload_n hx hb dX7_finds_51 rfl (lv_at hl 0 rfl) ?_
  refine lv_iadd hx hb dX7_finds_52 ?_
  refine k_int (v := 1024) (by decide +kernel) ?_
  refine k_iald (v := (-1)) hx hb hK hP 5 0 1024 rfl rfl rfl (Nat.le_of_ble_eq_true rfl) (Nat.le_of_ble_eq_true rfl) rfl dX7_finds_53 ?_
  refine lv_istore (lv' := [(4, .int (-1)), (3, .int 0), (2, .int 1), (0, .ref p0), (1, .int (-1))]) hx hb dX7_finds_54 hl (by decide) rfl (fun ls hl => ?_)
  refine lv_iload hx hb dX7_finds_56 (lv_at hl 0 rfl) ?_
  refine lv_iconst (v := (-1)) hx hb dX7_finds_58 (by decide +kernel) ?_
  refine lv_icmp_eq (tgt := 117) hx hb dX7_finds_59 (by decide) (fun _ => ?_) (fun q9 => absurd q9 (by decide +kernel))
  refine lv_iinc (v := 1) (lv' := [(3, .int 1), (4, .int (-1)), (2, .int 1), (0, .ref p0), (1, .int (-1))]) hx hb dX7_finds_117 hl (k := 1) rfl (by decide +kernel) (by decide) rfl (fun ls hl => ?_)
  refine lv_goto (tgt := 27) hx hb dX7_finds_120 (by decide) ?_
  refine lv_iload_n hx hb dX7_finds_27 rfl (lv_at hl 0 rfl) ?_
  refine lv_iconst (v := 1) hx hb dX7_finds_28 (by decide +kernel) ?_
  refine lv_aload_n hx hb dX7_finds_29 rfl (lv_at hl 3 rfl) ?_
  refine k_get (D := (dC, dI)) (ci := 7) (v := .ref (p1 14)) (C := RX7) (T := TX7) (N := 92) hx hb hts hinX7 hown hK hP 4 rfl rfl 14 (by decide) w_1 rfl rfl dX7_finds_30 ?_
  refine lv_aload_n hx hb dX7_finds_33 rfl (lv_at hl 3 rfl) ?_
  refine k_get (D := (dC, dI)) (ci := 7) (v := .int 0) (C := RX7) (T := TX7) (N := 92) hx hb hts hinX7 hown hK hP 4 rfl rfl 13 (by decide) w_2 rfl rfl dX7_finds_34 ?_
  refine k_iald (v := 0) hx hb hK hP 2 0 0 rfl rfl rfl (Nat.le_of_ble_eq_true rfl) (Nat.le_of_ble_eq_true rfl) rfl dX7_finds_37 ?_
  refine lv_ishl hx hb dX7_finds_38 ?_
  refine k_int (v := 1) (by decide +kernel) ?_
  refine lv_icmp_ge (tgt := 123) hx hb dX7_finds_39 (by decide) (fun _ => ?_) (fun q9 => absurd q9 (by decide +kernel))
  refine lv_iinc (v := 2) (lv' := [(2, .int 2), (3, .int 1), (4, .int (-1)), (0, .ref p0), (1, .int (-1))]) hx hb dX7_finds_123 hl (k := 2) rfl (by decide +kernel) (by decide) rfl (fun ls hl => ?_)
  refine lv_goto (tgt := 11) hx hb dX7_finds_126 (by decide) ?_
  refine lv_iload_n hx hb dX7_finds_11 rfl (lv_at hl 0 rfl) ?_
  refine lv_bipush (v := 8) hx hb dX7_finds_12 (by decide +kernel) ?_
  refine lv_icmp_gt (tgt := 129) hx hb dX7_finds_14 (by decide) (fun q9 => absurd q9 (by decide +kernel)) (fun _ => ?_)
  refine lv_aload_n hx hb dX7_finds_17 rfl (lv_at hl 3 rfl) ?_
  refine k_get (D := (dC, dI)) (ci := 7) (v := .int (-1)) (C := RX7) (T := TX7) (N := 92) hx hb hts hinX7 hown hK hP 4 rfl rfl 75 (by decide) w_0 rfl rfl dX7_finds_18 ?_
  refine lv_iconst (v := (-1)) hx hb dX7_finds_21 (by decide +kernel) ?_
  refine lv_icmp_ne (tgt := 129) hx hb dX7_finds_22 (by decide) (fun q9 => absurd q9 (by decide +kernel)) (fun _ => ?_)
  refine lv_iconst (v := 0) hx hb dX7_finds_25 (by decide +kernel) ?_
  refine lv_istore_n (lv' := [(3, .int 0), (2, .int 2), (4, .int (-1)), (0, .ref p0), (1, .int (-1))]) hx hb dX7_finds_26 rfl hl (by decide) rfl (fun ls hl => ?_)
  refine lv_iload_n hx hb dX7_finds_27 rfl (lv_at hl 0 rfl) ?_
  refine lv_iconst (v := 1) hx hb dX7_finds_28 (by decide +kernel) ?_
  refine lv_aload_n hx hb dX7_finds_29 rfl (lv_at hl 3 rfl) ?_
  refine k_get (D := (dC, dI)) (ci := 7) (v := .ref (p1 14)) (C := RX7) (T := TX7) (N := 92) hx hb hts hinX7 hown hK hP 4 rfl rfl 14 (by decide) w_1 rfl rfl dX7_finds_30 ?_
  refine lv_aload_n hx hb dX7_finds_33 rfl (lv_at hl 3 rfl) ?_
  refine k_get (D := (dC, dI)) (ci := 7) (v := .int 0) (C := RX7) (T := TX7) (N := 92) hx hb hts hinX7 hown hK hP 4 rfl rfl 13 (by decide) w_2 rfl rfl dX7_finds_34 ?_
  refine k_iald (v := 0) hx hb hK hP 2 0 0 rfl rfl rfl (Nat.le_of_ble_eq_true rfl) (Nat.le_of_ble_eq_true rfl) rfl dX7_finds_37 ?_
  refine lv_ishl hx hb dX7_finds_38 ?_
  refine k_int (v := 1) (by decide +kernel) ?_
  refine lv_icmp_ge (tgt := 123) hx hb dX7_finds_39 (by decide) (fun q9 => absurd q9 (by decide +kernel)) (fun _ => ?_)
  refine lv_aload_n hx hb dX7_finds_42 rfl (lv_at hl 3 rfl) ?_
  refine k_get (D := (dC, dI)) (ci := 7) (v := .ref (p1 72)) (C := RX7) (T := TX7) (N := 92) hx hb hts hinX7 hown hK hP 4 rfl rfl 72 (by decide) w_3 rfl rfl dX7_finds_43 ?_
  refine lv_sipush (v := 1024) hx hb dX7_finds_46 (by decide +kernel) ?_
  refine lv_iload_n hx hb dX7_finds_49 rfl (lv_at hl 1 rfl) ?_
  refine lv_imul hx hb dX7_finds_50 ?_
  refine k_int (v := 2048) (by decide +kernel) ?_
  refine lv_iload_n hx hb dX7_finds_51 rfl (lv_at hl 0 rfl) ?_
  refine lv_iadd hx hb dX7_finds_52 ?_
  refine k_int (v := 2048) (by decide +kernel) ?_
  refine k_iald (v := (-1)) hx hb hK hP 5 0 2048 rfl rfl rfl (Nat.le_of_ble_eq_true rfl) (Nat.le_of_ble_eq_true rfl) rfl dX7_finds_53 ?_
  refine lv_istore (lv' := [(4, .int (-1)), (3, .int 0), (2, .int 2), (0, .ref p0), (1, .int (-1))]) hx hb dX7_finds_54 hl (by decide) rfl (fun ls hl => ?_)
  refine lv_iload hx hb dX7_finds_56 (lv_at hl 0 rfl) ?_
  refine lv_iconst (v := (-1)) hx hb dX7_finds_58 (by decide +kernel) ?_
  refine lv_icmp_eq (tgt := 117) hx hb dX7_finds_59 (by decide) (fun _ => ?_) (fun q9 => absurd q9 (by decide +kernel))
  refine lv_iinc (v := 1) (lv' := [(3, .int 1), (4, .int (-1)), (2, .int 2), (0, .ref p0), (1, .int (-1))]) hx hb dX7_finds_117 hl (k := 1) rfl (by decide +kernel) (by decide) rfl (fun ls hl => ?_)
  refine lv_goto (tgt := 27) hx hb dX7_finds_120 (by decide) ?_
  refine lv_iload_n hx hb dX7_finds_27 rfl (lv_at hl 0 rfl) ?_
  refine lv_iconst (v := 1) hx hb dX7_finds_28 (by decide +kernel) ?_
  refine lv_aload_n hx hb dX7_finds_29 rfl (lv_at hl 3 rfl) ?_
  refine k_get (D := (dC, dI)) (ci := 7) (v := .ref (p1 14)) (C := RX7) (T := TX7) (N := 92) hx hb hts hinX7 hown hK hP 4 rfl rfl 14 (by decide) w_1 rfl rfl dX7_finds_30 ?_
  refine lv_aload_n hx hb dX7_finds_33 rfl (lv_at hl 3 rfl) ?_
  refine k_get (D := (dC, dI)) (ci := 7) (v := .int 0) (C := RX7) (T := TX7) (N := 92) hx hb hts hinX7 hown hK hP 4 rfl rfl 13 (by decide) w_2 rfl rfl dX7_finds_34 ?_
  refine k_iald (v := 0) hx hb hK hP 2 0 0 rfl rfl rfl (Nat.le_of_ble_eq_true rfl) (Nat.le_of_ble_eq_true rfl) rfl dX7_finds_37 ?_
  refine lv_ishl hx hb dX7_finds_38 ?_
  refine k_int (v := 1) (by decide +kernel) ?_
  refine lv_icmp_ge (tgt := 123) hx hb dX7_finds_39 (by decide) (fun _ => ?_) (fun q9 => absurd q9 (by decide +kernel))
  refine lv_iinc (v := 3) (lv' := [(2, .int 3), (3, .int 1), (4, .int (-1)), (0, .ref p0), (1, .int (-1))]) hx hb dX7_finds_123 hl (k := 2) rfl (by decide +kernel) (by decide) rfl (fun ls hl => ?_)
  refine lv_goto (tgt := 11) hx hb dX7_finds_126 (by decide) ?_
  refine lv_iload_n hx hb dX7_finds_11 rfl (lv_at hl 0 rfl) ?_
  refine lv_bipush (v := 8) hx hb dX7_finds_12 (by decide +kernel) ?_
  refine lv_icmp_gt (tgt := 129) hx hb dX7_finds_14 (by decide) (fun q9 => absurd q9 (by decide +kernel)) (fun _ => ?_)
  refine lv_aload_n hx hb dX7_finds_17 rfl (lv_at hl 3 rfl) ?_
  refine k_get (D := (dC, dI)) (ci := 7) (v := .int (-1)) (C := RX7) (T := TX7) (N := 92) hx hb hts hinX7 hown hK hP 4 rfl rfl 75 (by decide) w_0 rfl rfl dX7_finds_18 ?_
  refine lv_iconst (v := (-1)) hx hb dX7_finds_21 (by decide +kernel) ?_
  refine lv_icmp_ne (tgt := 129) hx hb dX7_finds_22 (by decide) (fun q9 => absurd q9 (by decide +kernel)) (fun _ => ?_)
  refine lv_iconst (v := 0) hx hb dX7_finds_25 (by decide +kernel) ?_
  refine lv_istore_n (lv' := [(3, .int 0), (2, .int 3), (4, .int (-1)), (0, .ref p0), (1, .int (-1))]) hx hb dX7_finds_26 rfl hl (by decide) rfl (fun ls hl => ?_)
  refine lv_iload_n hx hb dX7_finds_27 rfl (lv_at hl 0 rfl) ?_
  refine lv_iconst (v := 1) hx hb dX7_finds_28 (by decide +kernel) ?_
  refine lv_aload_n hx hb dX7_finds_29 rfl (lv_at hl 3 rfl) ?_
  refine k_get (D := (dC, dI)) (ci := 7) (v := .ref (p1 14)) (C := RX7) (T := TX7) (N := 92) hx hb hts hinX7 hown hK hP 4 rfl rfl 14 (by decide) w_1 rfl rfl dX7_finds_30 ?_
  refine lv_aload_n hx hb dX7_finds_33 rfl (lv_at hl 3 rfl) ?_
  refine k_get (D := (dC, dI)) (ci := 7) (v := .int 0) (C := RX7) (T := TX7) (N := 92) hx hb hts hinX7 hown hK hP 4 rfl rfl 13 (by decide) w_2 rfl rfl dX7_finds_34 ?_
  refine k_iald (v := 0) hx hb hK hP 2 0 0 rfl rfl rfl (Nat.le_of_ble_eq_true rfl) (Nat.le_of_ble_eq_true rfl) rfl dX7_finds_37 ?_
  refine lv_ishl hx hb dX7_finds_38 ?_
  refine k_int (v := 1) (by decide +kernel) ?_
  refine lv_icmp_ge (tgt := 123) hx hb dX7_finds_39 (by decide) (fun q9 => absurd q9 (by decide +kernel)) (fun _ => ?_)
  refine lv_aload_n hx hb dX7_finds_42 rfl (lv_at hl 3 rfl) ?_
  refine k_get (D := (dC, dI)) (ci := 7) (v := .ref (p1 72)) (C := RX7) (T := TX7) (N := 92) hx hb hts hinX7 hown hK hP 4 rfl rfl 72 (by decide) w_3 rfl rfl dX7_finds_43 ?_
  refine lv_sipush (v := 1024) hx hb dX7_finds_46 (by decide +kernel) ?_
  refine lv_iload_n hx hb dX7_finds_49 rfl (lv_at hl 1 rfl) ?_
  refine lv_imul hx hb dX7_finds_50 ?_
  refine k_int (v := 3072) (by decide +kernel) ?_
  refine lv_iload_n hx hb dX7_finds_51 rfl (lv_at hl 0 rfl) ?_
  refine lv_iadd hx hb dX7_finds_52 ?_
  refine k_int (v := 3072) (by decide +kernel) ?_
  refine k_iald (v := (-1)) hx hb hK hP 5 0 3072 rfl rfl rfl (Nat.le_of_ble_eq_true rfl) (Nat.le_of_ble_eq_true rfl) rfl dX7_finds_53 ?_
  refine lv_istore (lv' := [(4, .int (-1)), (3, .int 0), (2, .int 3), (0, .ref p0), (1, .int (-1))]) hx hb dX7_finds_54 hl (by decide) rfl (fun ls hl => ?_)
  refine lv_iload hx hb dX7_finds_56 (lv_at hl 0 rfl) ?_
  refine lv_iconst (v := (-1)) hx hb dX7_finds_58 (by decide +kernel) ?_
  refine lv_icmp_eq (tgt := 117) hx hb dX7_finds_59 (by decide) (fun _ => ?_) (fun q9 => absurd q9 (by decide +kernel))
  refine lv_iinc (v := 1) (lv' := [(3, .int 1), (4, .int (-1)), (2, .int 3), (0, .ref p0), (1, .int (-1))]) hx hb dX7_finds_117 hl (k := 1) rfl (by decide +kernel) (by decide) rfl (fun ls hl => ?_)
  refine lv_goto (tgt := 27) hx hb dX7_finds_120 (by decide) ?_
  refine lv_iload_n hx hb dX7_finds_27 rfl (lv_at hl 0 rfl) ?_
  refine lv_iconst (v := 1) hx hb dX7_finds_28 (by decide +kernel) ?_
  refine lv_aload_n hx hb dX7_finds_29 rfl (lv_at hl 3 rfl) ?_
  refine k_get (D := (dC, dI)) (ci := 7) (v := .ref (p1 14)) (C := RX7) (T := TX7) (N := 92) hx hb hts hinX7 hown hK hP 4 rfl rfl 14 (by decide) w_1 rfl rfl dX7_finds_30 ?_
  refine lv_aload_n hx hb dX7_finds_33 rfl (lv_at hl 3 rfl) ?_
  refine k_get (D := (dC, dI)) (ci := 7) (v := .int 0) (C := RX7) (T := TX7) (N := 92) hx hb hts hinX7 hown hK hP 4 rfl rfl 13 (by decide) w_2 rfl rfl dX7_finds_34 ?_
  refine k_iald (v := 0) hx hb hK hP 2 0 0 rfl rfl rfl (Nat.le_of_ble_eq_true rfl) (Nat.le_of_ble_eq_true rfl) rfl dX7_finds_37 ?_
  refine lv_ishl hx hb dX7_finds_38 ?_
  refine k_int (v := 1) (by decide +kernel) ?_
  refine lv_icmp_ge (tgt := 123) hx hb dX7_finds_39 (by decide) (fun _ => ?_) (fun q9 => absurd q9 (by decide +kernel))
  refine lv_iinc (v := 4) (lv' := [(2, .int 4), (3, .int 1), (4, .int (-1)), (0, .ref p0), (1, .int (-1))]) hx hb dX7_finds_123 hl (k := 2) rfl (by decide +kernel) (by decide) rfl (fun ls hl => ?_)
  refine lv_goto (tgt := 11) hx hb dX7_finds_126 (by decide) ?_
  refine lv_iload_n hx hb dX7_finds_11 rfl (lv_at hl 0 rfl) ?_
  refine lv_bipush (v := 8) hx hb dX7_finds_12 (by decide +kernel) ?_
  refine lv_icmp_gt (tgt := 129) hx hb dX7_finds_14 (by decide) (fun q9 => absurd q9 (by decide +kernel)) (fun _ => ?_)
  refine lv_aload_n hx hb dX7_finds_17 rfl (lv_at hl 3 rfl) ?_
  refine k_get (D := (dC, dI)) (ci := 7) (v := .int (-1)) (C := RX7) (T := TX7) (N := 92) hx hb hts hinX7 hown hK hP 4 rfl rfl 75 (by decide) w_0 rfl rfl dX7_finds_18 ?_
  refine lv_iconst (v := (-1)) hx hb dX7_finds_21 (by decide +kernel) ?_
  refine lv_icmp_ne (tgt := 129) hx hb dX7_finds_22 (by decide) (fun q9 => absurd q9 (by decide +kernel)) (fun _ => ?_)
  refine lv_iconst (v := 0) hx hb dX7_finds_25 (by decide +kernel) ?_
  refine lv_istore_n (lv' := [(3, .int 0), (2, .int 4), (4, .int (-1)), (0, .ref p0), (1, .int (-1))]) hx hb dX7_finds_26 rfl hl (by decide) rfl (fun ls hl => ?_)
  refine lv_iload_n hx hb dX7_finds_27 rfl (lv_at hl 0 rfl) ?_
  refine lv_iconst (v := 1) hx hb dX7_finds_28 (by decide +kernel) ?_
  refine lv_aload_n hx hb dX7_finds_29 rfl (lv_at hl 3 rfl) ?_
  refine k_get (D := (dC, dI)) (ci := 7) (v := .ref (p1 14)) (C := RX7) (T := TX7) (N := 92) hx hb hts hinX7 hown hK hP 4 rfl rfl 14 (by decide) w_1 rfl rfl dX7_finds_30 ?_
  refine lv_aload_n hx hb dX7_finds_33 rfl (lv_at hl 3 rfl) ?_
  refine k_get (D := (dC, dI)) (ci := 7) (v := .int 0) (C := RX7) (T := TX7) (N := 92) hx hb hts hinX7 hown hK hP 4 rfl rfl 13 (by decide) w_2 rfl rfl dX7_finds_34 ?_
  refine k_iald (v := 0) hx hb hK hP 2 0 0 rfl rfl rfl (Nat.le_of_ble_eq_true rfl) (Nat.le_of_ble_eq_true rfl) rfl dX7_finds_37 ?_
  refine lv_ishl hx hb dX7_finds_38 ?_
  refine k_int (v := 1) (by decide +kernel) ?_
  refine lv_icmp_ge (tgt := 123) hx hb dX7_finds_39 (by decide) (fun q9 => absurd q9 (by decide +kernel)) (fun _ => ?_)
  refine lv_aload_n hx hb dX7_finds_42 rfl (lv_at hl 3 rfl) ?_
  refine k_get (D := (dC, dI)) (ci := 7) (v := .ref (p1 72)) (C := RX7) (T := TX7) (N := 92) hx hb hts hinX7 hown hK hP 4 rfl rfl 72 (by decide) w_3 rfl rfl dX7_finds_43 ?_
  refine lv_sipush (v := 1024) hx hb dX7_finds_46 (by decide +kernel) ?_
  refine lv_iload_n hx hb dX7_finds_49 rfl (lv_at hl 1 rfl) ?_
  refine lv_imul hx hb dX7_finds_50 ?_
  refine k_int (v := 4096) (by decide +kernel) ?_
  refine lv_iload_n hx hb dX7_finds_51 rfl (lv_at hl 0 rfl) ?_
  refine lv_iadd hx hb dX7_finds_52 ?_
  refine k_int (v := 4096) (by decide +kernel) ?_
  refine k_iald (v := (-1)) hx hb hK hP 5 0 4096 rfl rfl rfl (Nat.le_of_ble_eq_true rfl) (Nat.le_of_ble_eq_true rfl) rfl dX7_finds_53 ?_
  refine lv_istore (lv' := [(4, .int (-1)), (3, .int 0), (2, .int 4), (0, .ref p0), (1, .int (-1))]) hx hb dX7_finds_54 hl (by decide) rfl (fun ls hl => ?_)
  refine lv_iload hx hb dX7_finds_56 (lv_at hl 0 rfl) ?_
  refine lv_iconst (v := (-1)) hx hb dX7_finds_58 (by decide +kernel) ?_
  refine lv_icmp_eq (tgt := 117) hx hb dX7_finds_59 (by decide) (fun _ => ?_) (fun q9 => absurd q9 (by decide +kernel))
  refine lv_iinc (v := 1) (lv' := [(3, .int 1), (4, .int (-1)), (2, .int 4), (0, .ref p0), (1, .int (-1))]) hx hb dX7_finds_117 hl (k := 1) rfl (by decide +kernel) (by decide) rfl (fun ls hl => ?_)
  refine lv_goto (tgt := 27) hx hb dX7_finds_120 (by decide) ?_
  refine lv_iload_n hx hb dX7_finds_27 rfl (lv_at hl 0 rfl) ?_
  refine lv_iconst (v := 1) hx hb dX7_finds_28 (by decide +kernel) ?_
  refine lv_aload_n hx hb dX7_finds_29 rfl (lv_at hl 3 rfl) ?_
  refine k_get (D := (dC, dI)) (ci := 7) (v := .ref (p1 14)) (C := RX7) (T := TX7) (N := 92) hx hb hts hinX7 hown hK hP 4 rfl rfl 14 (by decide) w_1 rfl rfl dX7_finds_30 ?_
  refine lv_aload_n hx hb dX7_finds_33 rfl (lv_at hl 3 rfl) ?_
  refine k_get (D := (dC, dI)) (ci := 7) (v := .int 0) (C := RX7) (T := TX7) (N := 92) hx hb hts hinX7 hown hK hP 4 rfl rfl 13 (by decide) w_2 rfl rfl dX7_finds_34 ?_
  refine k_iald (v := 0) hx hb hK hP 2 0 0 rfl rfl rfl (Nat.le_of_ble_eq_true rfl) (Nat.le_of_ble_eq_true rfl) rfl dX7_finds_37 ?_
  refine lv_ishl hx hb dX7_finds_38 ?_
  refine k_int (v := 1) (by decide +kernel) ?_
  refine lv_icmp_ge (tgt := 123) hx hb dX7_finds_39 (by decide) (fun _ => ?_) (fun q9 => absurd q9 (by decide +kernel))
  refine lv_iinc (v := 5) (lv' := [(2, .int 5), (3, .int 1), (4, .int (-1)), (0, .ref p0), (1, .int (-1))]) hx hb dX7_finds_123 hl (k := 2) rfl (by decide +kernel) (by decide) rfl (fun ls hl => ?_)
  refine lv_goto (tgt := 11) hx hb dX7_finds_126 (by decide) ?_
  refine lv_iload_n hx hb dX7_finds_11 rfl (lv_at hl 0 rfl) ?_
  refine lv_bipush (v := 8) hx hb dX7_finds_12 (by decide +kernel) ?_
  refine lv_icmp_gt (tgt := 129) hx hb dX7_finds_14 (by decide) (fun q9 => absurd q9 (by decide +kernel)) (fun _ => ?_)
  refine lv_aload_n hx hb dX7_finds_17 rfl (lv_at hl 3 rfl) ?_
  refine k_get (D := (dC, dI)) (ci := 7) (v := .int (-1)) (C := RX7) (T := TX7) (N := 92) hx hb hts hinX7 hown hK hP 4 rfl rfl 75 (by decide) w_0 rfl rfl dX7_finds_18 ?_
  refine lv_iconst (v := (-1)) hx hb dX7_finds_21 (by decide +kernel) ?_
  refine lv_icmp_ne (tgt := 129) hx hb dX7_finds_22 (by decide) (fun q9 => absurd q9 (by decide +kernel)) (fun _ => ?_)
  refine lv_iconst (v := 0) hx hb dX7_finds_25 (by decide +kernel) ?_
  refine lv_istore_n (lv' := [(3, .int 0), (2, .int 5), (4, .int (-1)), (0, .ref p0), (1, .int (-1))]) hx hb dX7_finds_26 rfl hl (by decide) rfl (fun ls hl => ?_)
  refine lv_iload_n hx hb dX7_finds_27 rfl (lv_at hl 0 rfl) ?_
  refine lv_iconst (v := 1) hx hb dX7_finds_28 (by decide +kernel) ?_
  refine lv_aload_n hx hb dX7_finds_29 rfl (lv_at hl 3 rfl) ?_
  refine k_get (D := (dC, dI)) (ci := 7) (v := .ref (p1 14)) (C := RX7) (T := TX7) (N := 92) hx hb hts hinX7 hown hK hP 4 rfl rfl 14 (by decide) w_1 rfl rfl dX7_finds_30 ?_
  refine lv_aload_n hx hb dX7_finds_33 rfl (lv_at hl 3 rfl) ?_
  refine k_get (D := (dC, dI)) (ci := 7) (v := .int 0) (C := RX7) (T := TX7) (N := 92) hx hb hts hinX7 hown hK hP 4 rfl rfl 13 (by decide) w_2 rfl rfl dX7_finds_34 ?_
  refine k_iald (v := 0) hx hb hK hP 2 0 0 rfl rfl rfl (Nat.le_of_ble_eq_true rfl) (Nat.le_of_ble_eq_true rfl) rfl dX7_finds_37 ?_
  refine lv_ishl hx hb dX7_finds_38 ?_
  refine k_int (v := 1) (by decide +kernel) ?_
  refine lv_icmp_ge (tgt := 123) hx hb dX7_finds_39 (by decide) (fun q9 => absurd q9 (by decide +kernel)) (fun _ => ?_)
  refine lv_aload_n hx hb dX7_finds_42 rfl (lv_at hl 3 rfl) ?_
  refine k_get (D := (dC, dI)) (ci := 7) (v := .ref (p1 72)) (C := RX7) (T := TX7) (N := 92) hx hb hts hinX7 hown hK hP 4 rfl rfl 72 (by decide) w_3 rfl rfl dX7_finds_43 ?_
  refine lv_sipush (v := 1024) hx hb dX7_finds_46 (by decide +kernel) ?_
  refine lv_iload_n hx hb dX7_finds_49 rfl (lv_at hl 1 rfl) ?_
  refine lv_imul hx hb dX7_finds_50 ?_
  refine k_int (v := 5120) (by decide +kernel) ?_
  refine lv_iload_n hx hb dX7_finds_51 rfl (lv_at hl 0 rfl) ?_
  refine lv_iadd hx hb dX7_finds_52 ?_
  refine k_int (v := 5120) (by decide +kernel) ?_
  refine k_iald (v := (-1)) hx hb hK hP 5 0 5120 rfl rfl rfl (Nat.le_of_ble_eq_true rfl) (Nat.le_of_ble_eq_true rfl) rfl dX7_finds_53 ?_
  refine lv_istore (lv' := [(4, .int (-1)), (3, .int 0), (2, .int 5), (0, .ref p0), (1, .int (-1))]) hx hb dX7_finds_54 hl (by decide) rfl (fun ls hl => ?_)
  refine lv_iload hx hb dX7_finds_56 (lv_at hl 0 rfl) ?_
  refine lv_iconst (v := (-1)) hx hb dX7_finds_58 (by decide +kernel) ?_
  refine lv_icmp_eq (tgt := 117) hx hb dX7_finds_59 (by decide) (fun _ => ?_) (fun q9 => absurd q9 (by decide +kernel))
  refine lv_iinc (v := 1) (lv' := [(3, .int 1), (4, .int (-1)), (2, .int 5), (0, .ref p0), (1, .int (-1))]) hx hb dX7_finds_117 hl (k := 1) rfl (by decide +kernel) (by decide) rfl (fun ls hl => ?_)
  refine lv_goto (tgt := 27) hx hb dX7_finds_120 (by decide) ?_
  refine lv_iload_n hx hb dX7_finds_27 rfl (lv_at hl 0 rfl) ?_
  refine lv_iconst (v := 1) hx hb dX7_finds_28 (by decide +kernel) ?_
  refine lv_aload_n hx hb dX7_finds_29 rfl (lv_at hl 3 rfl) ?_
  refine k_get (D := (dC, dI)) (ci := 7) (v := .ref (p1 14)) (C := RX7) (T := TX7) (N := 92) hx hb hts hinX7 hown hK hP 4 rfl rfl 14 (by decide) w_1 rfl rfl dX7_finds_30 ?_
  refine lv_aload_n hx hb dX7_finds_33 rfl (lv_at hl 3 rfl) ?_
  refine k_get (D := (dC, dI)) (ci := 7) (v := .int 0) (C := RX7) (T := TX7) (N := 92) hx hb hts hinX7 hown hK hP 4 rfl rfl 13 (by decide) w_2 rfl rfl dX7_finds_34 ?_
  refine k_iald (v := 0) hx hb hK hP 2 0 0 rfl rfl rfl (Nat.le_of_ble_eq_true rfl) (Nat.le_of_ble_eq_true rfl) rfl dX7_finds_37 ?_
  refine lv_ishl hx hb dX7_finds_38 ?_
  refine k_int (v := 1) (by decide +kernel) ?_
  refine lv_icmp_ge (tgt := 123) hx hb dX7_finds_39 (by decide) (fun _ => ?_) (fun q9 => absurd q9 (by decide +kernel))
  refine lv_iinc (v := 6) (lv' := [(2, .int 6), (3, .int 1), (4, .int (-1)), (0, .ref p0), (1, .int (-1))]) hx hb dX7_finds_123 hl (k := 2) rfl (by decide +kernel) (by decide) rfl (fun ls hl => ?_)
  refine lv_goto (tgt := 11) hx hb dX7_finds_126 (by decide) ?_
  refine lv_iload_n hx hb dX7_finds_11 rfl (lv_at hl 0 rfl) ?_
  refine lv_bipush (v := 8) hx hb dX7_finds_12 (by decide +kernel) ?_
  refine lv_icmp_gt (tgt := 129) hx hb dX7_finds_14 (by decide) (fun q9 => absurd q9 (by decide +kernel)) (fun _ => ?_)
  refine lv_aload_n hx hb dX7_finds_17 rfl (lv_at hl 3 rfl) ?_
  refine k_get (D := (dC, dI)) (ci := 7) (v := .int (-1)) (C := RX7) (T := TX7) (N := 92) hx hb hts hinX7 hown hK hP 4 rfl rfl 75 (by decide) w_0 rfl rfl dX7_finds_18 ?_
  refine lv_iconst (v := (-1)) hx hb dX7_finds_21 (by decide +kernel) ?_
  refine lv_icmp_ne (tgt := 129) hx hb dX7_finds_22 (by decide) (fun q9 => absurd q9 (by decide +kernel)) (fun _ => ?_)
  refine lv_iconst (v := 0) hx hb dX7_finds_25 (by decide +kernel) ?_
  refine lv_istore_n (lv' := [(3, .int 0), (2, .int 6), (4, .int (-1)), (0, .ref p0), (1, .int (-1))]) hx hb dX7_finds_26 rfl hl (by decide) rfl (fun ls hl => ?_)
  refine lv_iload_n hx hb dX7_finds_27 rfl (lv_at hl 0 rfl) ?_
  refine lv_iconst (v := 1) hx hb dX7_finds_28 (by decide +kernel) ?_
  refine lv_aload_n hx hb dX7_finds_29 rfl (lv_at hl 3 rfl) ?_
  refine k_get (D := (dC, dI)) (ci := 7) (v := .ref (p1 14)) (C := RX7) (T := TX7) (N := 92) hx hb hts hinX7 hown hK hP 4 rfl rfl 14 (by decide) w_1 rfl rfl dX7_finds_30 ?_
  refine lv_aload_n hx hb dX7_finds_33 rfl (lv_at hl 3 rfl) ?_
  refine k_get (D := (dC, dI)) (ci := 7) (v := .int 0) (C := RX7) (T := TX7) (N := 92) hx hb hts hinX7 hown hK hP 4 rfl rfl 13 (by decide) w_2 rfl rfl dX7_finds_34 ?_
  refine k_iald (v := 0) hx hb hK hP 2 0 0 rfl rfl rfl (Nat.le_of_ble_eq_true rfl) (Nat.le_of_ble_eq_true rfl) rfl dX7_finds_37 ?_
  refine lv_ishl hx hb dX7_finds_38 ?_
  refine k_int (v := 1) (by decide +kernel) ?_
  refine lv_icmp_ge (tgt := 123) hx hb dX7_finds_39 (by decide) (fun q9 => absurd q9 (by decide +kernel)) (fun _ => ?_)
  refine lv_aload_n hx hb dX7_finds_42 rfl (lv_at hl 3 rfl) ?_
  refine k_get (D := (dC, dI)) (ci := 7) (v := .ref (p1 72)) (C := RX7) (T := TX7) (N := 92) hx hb hts hinX7 hown hK hP 4 rfl rfl 72 (by decide) w_3 rfl rfl dX7_finds_43 ?_
  refine lv_sipush (v := 1024) hx hb dX7_finds_46 (by decide +kernel) ?_
  refine lv_iload_n hx hb dX7_finds_49 rfl (lv_at hl 1 rfl) ?_
  refine lv_imul hx hb dX7_finds_50 ?_
  refine k_int (v := 6144) (by decide +kernel) ?_
  refine lv_iload_n hx hb dX7_finds_51 rfl (lv_at hl 0 rfl) ?_
  refine lv_iadd hx hb dX7_finds_52 ?_
  refine k_int (v := 6144) (by decide +kernel) ?_
  refine k_iald (v := (-1)) hx hb hK hP 5 0 6144 rfl rfl rfl (Nat.le_of_ble_eq_true rfl) (Nat.le_of_ble_eq_true rfl) rfl dX7_finds_53 ?_
  refine lv_istore (lv' := [(4, .int (-1)), (3, .int 0), (2, .int 6), (0, .ref p0), (1, .int (-1))]) hx hb dX7_finds_54 hl (by decide) rfl (fun ls hl => ?_)
  refine lv_iload hx hb dX7_finds_56 (lv_at hl 0 rfl) ?_
  refine lv_iconst (v := (-1)) hx hb dX7_finds_58 (by decide +kernel) ?_
  refine lv_icmp_eq (tgt := 117) hx hb dX7_finds_59 (by decide) (fun _ => ?_) (fun q9 => absurd q9 (by decide +kernel))
  refine lv_iinc (v := 1) (lv' := [(3, .int 1), (4, .int (-1)), (2, .int 6), (0, .ref p0), (1, .int (-1))]) hx hb dX7_finds_117 hl (k := 1) rfl (by decide +kernel) (by decide) rfl (fun ls hl => ?_)
  refine lv_goto (tgt := 27) hx hb dX7_finds_120 (by decide) ?_
  refine lv_iload_n hx hb dX7_finds_27 rfl (lv_at hl 0 rfl) ?_
  refine lv_iconst (v := 1) hx hb dX7_finds_28 (by decide +kernel) ?_
  refine lv_aload_n hx hb dX7_finds_29 rfl (lv_at hl 3 rfl) ?_
  refine k_get (D := (dC, dI)) (ci := 7) (v := .ref (p1 14)) (C := RX7) (T := TX7) (N := 92) hx hb hts hinX7 hown hK hP 4 rfl rfl 14 (by decide) w_1 rfl rfl dX7_finds_30 ?_
  refine lv_aload_n hx hb dX7_finds_33 rfl (lv_at hl 3 rfl) ?_
  refine k_get (D := (dC, dI)) (ci := 7) (v := .int 0) (C := RX7) (T := TX7) (N := 92) hx hb hts hinX7 hown hK hP 4 rfl rfl 13 (by decide) w_2 rfl rfl dX7_finds_34 ?_
  refine k_iald (v := 0) hx hb hK hP 2 0 0 rfl rfl rfl (Nat.le_of_ble_eq_true rfl) (Nat.le_of_ble_eq_true rfl) rfl dX7_finds_37 ?_
  refine lv_ishl hx hb dX7_finds_38 ?_
  refine k_int (v := 1) (by decide +kernel) ?_
  refine lv_icmp_ge (tgt := 123) hx hb dX7_finds_39 (by decide) (fun _ => ?_) (fun q9 => absurd q9 (by decide +kernel))
  refine lv_iinc (v := 7) (lv' := [(2, .int 7), (3, .int 1), (4, .int (-1)), (0, .ref p0), (1, .int (-1))]) hx hb dX7_finds_123 hl (k := 2) rfl (by decide +kernel) (by decide) rfl (fun ls hl => ?_)
  refine lv_goto (tgt := 11) hx hb dX7_finds_126 (by decide) ?_
  refine lv_iload_n hx hb dX7_finds_11 rfl (lv_at hl 0 rfl) ?_
  refine lv_bipush (v := 8) hx hb dX7_finds_12 (by decide +kernel) ?_
  refine lv_icmp_gt (tgt := 129) hx hb dX7_finds_14 (by decide) (fun q9 => absurd q9 (by decide +kernel)) (fun _ => ?_)
  refine lv_aload_n hx hb dX7_finds_17 rfl (lv_at hl 3 rfl) ?_
  refine k_get (D := (dC, dI)) (ci := 7) (v := .int (-1)) (C := RX7) (T := TX7) (N := 92) hx hb hts hinX7 hown hK hP 4 rfl rfl 75 (by decide) w_0 rfl rfl dX7_finds_18 ?_
  refine lv_iconst (v := (-1)) hx hb dX7_finds_21 (by decide +kernel) ?_
  refine lv_icmp_ne (tgt := 129) hx hb dX7_finds_22 (by decide) (fun q9 => absurd q9 (by decide +kernel)) (fun _ => ?_)
  refine lv_iconst (v := 0) hx hb dX7_finds_25 (by decide +kernel) ?_
  refine lv_istore_n (lv' := [(3, .int 0), (2, .int 7), (4, .int (-1)), (0, .ref p0), (1, .int (-1))]) hx hb dX7_finds_26 rfl hl (by decide) rfl (fun ls hl => ?_)
  refine lv_iload_n hx hb dX7_finds_27 rfl (lv_at hl 0 rfl) ?_
  refine lv_iconst (v := 1) hx hb dX7_finds_28 (by decide +kernel) ?_
  refine lv_aload_n hx hb dX7_finds_29 rfl (lv_at hl 3 rfl) ?_
  refine k_get (D := (dC, dI)) (ci := 7) (v := .ref (p1 14)) (C := RX7) (T := TX7) (N := 92) hx hb hts hinX7 hown hK hP 4 rfl rfl 14 (by decide) w_1 rfl rfl dX7_finds_30 ?_
  refine lv_aload_n hx hb dX7_finds_33 rfl (lv_at hl 3 rfl) ?_
  refine k_get (D := (dC, dI)) (ci := 7) (v := .int 0) (C := RX7) (T := TX7) (N := 92) hx hb hts hinX7 hown hK hP 4 rfl rfl 13 (by decide) w_2 rfl rfl dX7_finds_34 ?_
  refine k_iald (v := 0) hx hb hK hP 2 0 0 rfl rfl rfl (Nat.le_of_ble_eq_true rfl) (Nat.le_of_ble_eq_true rfl) rfl dX7_finds_37 ?_
  refine lv_ishl hx hb dX7_finds_38 ?_
  refine k_int (v := 1) (by decide +kernel) ?_
  refine lv_icmp_ge (tgt := 123) hx hb dX7_finds_39 (by decide) (fun q9 => absurd q9 (by decide +kernel)) (fun _ => ?_)
  refine lv_aload_n hx hb dX7_finds_42 rfl (lv_at hl 3 rfl) ?_
  refine k_get (D := (dC, dI)) (ci := 7) (v := .ref (p1 72)) (C := RX7) (T := TX7) (N := 92) hx hb hts hinX7 hown hK hP 4 rfl rfl 72 (by decide) w_3 rfl rfl dX7_finds_43 ?_
  refine lv_sipush (v := 1024) hx hb dX7_finds_46 (by decide +kernel) ?_
  refine lv_iload_n hx hb dX7_finds_49 rfl (lv_at hl 1 rfl) ?_
  refine lv_imul hx hb dX7_finds_50 ?_
  refine k_int (v := 7168) (by decide +kernel) ?_
  refine lv_iload_n hx hb dX7_finds_51 rfl (lv_at hl 0 rfl) ?_
  refine lv_iadd hx hb dX7_finds_52 ?_
  refine k_int (v := 7168) (by decide +kernel) ?_
  refine k_iald (v := (-1)) hx hb hK hP 5 0 7168 rfl rfl rfl (Nat.le_of_ble_eq_true rfl) (Nat.le_of_ble_eq_true rfl) rfl dX7_finds_53 ?_
  refine lv_istore (lv' := [(4, .int (-1)), (3, .int 0), (2, .int 7), (0, .ref p0), (1, .int (-1))]) hx hb dX7_finds_54 hl (by decide) rfl (fun ls hl => ?_)
  refine lv_iload hx hb dX7_finds_56 (lv_at hl 0 rfl) ?_
  refine lv_iconst (v := (-1)) hx hb dX7_finds_58 (by decide +kernel) ?_
  refine lv_icmp_eq (tgt := 117) hx hb dX7_finds_59 (by decide) (fun _ => ?_) (fun q9 => absurd q9 (by decide +kernel))
  refine lv_iinc (v := 1) (lv' := [(3, .int 1), (4, .int (-1)), (2, .int 7), (0, .ref p0), (1, .int (-1))]) hx hb dX7_finds_117 hl (k := 1) rfl (by decide +kernel) (by decide) rfl (fun ls hl => ?_)
  refine lv_goto (tgt := 27) hx hb dX7_finds_120 (by decide) ?_
  refine lv_iload_n hx hb dX7_finds_27 rfl (lv_at hl 0 rfl) ?_
  refine lv_iconst (v := 1) hx hb dX7_finds_28 (by decide +kernel) ?_
  refine lv_aload_n hx hb dX7_finds_29 rfl (lv_at hl 3 rfl) ?_
  refine k_get (D := (dC, dI)) (ci := 7) (v := .ref (p1 14)) (C := RX7) (T := TX7) (N := 92) hx hb hts hinX7 hown hK hP 4 rfl rfl 14 (by decide) w_1 rfl rfl dX7_finds_30 ?_
  refine lv_aload_n hx hb dX7_finds_33 rfl (lv_at hl 3 rfl) ?_
  refine k_get (D := (dC, dI)) (ci := 7) (v := .int 0) (C := RX7) (T := TX7) (N := 92) hx hb hts hinX7 hown hK hP 4 rfl rfl 13 (by decide) w_2 rfl rfl dX7_finds_34 ?_
  refine k_iald (v := 0) hx hb hK hP 2 0 0 rfl rfl rfl (Nat.le_of_ble_eq_true rfl) (Nat.le_of_ble_eq_true rfl) rfl dX7_finds_37 ?_
  refine lv_ishl hx hb dX7_finds_38 ?_
  refine k_int (v := 1) (by decide +kernel) ?_
  refine lv_icmp_ge (tgt := 123) hx hb dX7_finds_39 (by decide) (fun _ => ?_) (fun q9 => absurd q9 (by decide +kernel))
  refine lv_iinc (v := 8) (lv' := [(2, .int 8), (3, .int 1), (4, .int (-1)), (0, .ref p0), (1, .int (-1))]) hx hb dX7_finds_123 hl (k := 2) rfl (by decide +kernel) (by decide) rfl (fun ls hl => ?_)
  refine lv_goto (tgt := 11) hx hb dX7_finds_126 (by decide) ?_
  refine lv_iload_n hx hb dX7_finds_11 rfl (lv_at hl 0 rfl) ?_
  refine lv_bipush (v := 8) hx hb dX7_finds_12 (by decide +kernel) ?_
  refine lv_icmp_gt (tgt := 129) hx hb dX7_finds_14 (by decide) (fun q9 => absurd q9 (by decide +kernel)) (fun _ => ?_)
  refine lv_aload_n hx hb dX7_finds_17 rfl (lv_at hl 3 rfl) ?_
  refine k_get (D := (dC, dI)) (ci := 7) (v := .int (-1)) (C := RX7) (T := TX7) (N := 92) hx hb hts hinX7 hown hK hP 4 rfl rfl 75 (by decide) w_0 rfl rfl dX7_finds_18 ?_
  refine lv_iconst (v := (-1)) hx hb dX7_finds_21 (by decide +kernel) ?_
  refine lv_icmp_ne (tgt := 129) hx hb dX7_finds_22 (by decide) (fun q9 => absurd q9 (by decide +kernel)) (fun _ => ?_)
  refine lv_iconst (v := 0) hx hb dX7_finds_25 (by decide +kernel) ?_
  refine lv_istore_n (lv' := [(3, .int 0), (2, .int 8), (4, .int (-1)), (0, .ref p0), (1, .int (-1))]) hx hb dX7_finds_26 rfl hl (by decide) rfl (fun ls hl => ?_)
  refine lv_iload_n hx hb dX7_finds_27 rfl (lv_at hl 0 rfl) ?_
  refine lv_iconst (v := 1) hx hb dX7_finds_28 (by decide +kernel) ?_
  refine lv_aload_n hx hb dX7_finds_29 rfl (lv_at hl 3 rfl) ?_
  refine k_get (D := (dC, dI)) (ci := 7) (v := .ref (p1 14)) (C := RX7) (T := TX7) (N := 92) hx hb hts hinX7 hown hK hP 4 rfl rfl 14 (by decide) w_1 rfl rfl dX7_finds_30 ?_
  refine lv_aload_n hx hb dX7_finds_33 rfl (lv_at hl 3 rfl) ?_
  refine k_get (D := (dC, dI)) (ci := 7) (v := .int 0) (C := RX7) (T := TX7) (N := 92) hx hb hts hinX7 hown hK hP 4 rfl rfl 13 (by decide) w_2 rfl rfl dX7_finds_34 ?_
  refine k_iald (v := 0) hx hb hK hP 2 0 0 rfl rfl rfl (Nat.le_of_ble_eq_true rfl) (Nat.le_of_ble_eq_true rfl) rfl dX7_finds_37 ?_
  refine lv_ishl hx hb dX7_finds_38 ?_
  refine k_int (v := 1) (by decide +kernel) ?_
  refine lv_icmp_ge (tgt := 123) hx hb dX7_finds_39 (by decide) (fun q9 => absurd q9 (by decide +kernel)) (fun _ => ?_)
  refine lv_aload_n hx hb dX7_finds_42 rfl (lv_at hl 3 rfl) ?_
  refine k_get (D := (dC, dI)) (ci := 7) (v := .ref (p1 72)) (C := RX7) (T := TX7) (N := 92) hx hb hts hinX7 hown hK hP 4 rfl rfl 72 (by decide) w_3 rfl rfl dX7_finds_43 ?_
  refine lv_sipush (v := 1024) hx hb dX7_finds_46 (by decide +kernel) ?_
  refine lv_iload_n hx hb dX7_finds_49 rfl (lv_at hl 1 rfl) ?_
  refine lv_imul hx hb dX7_finds_50 ?_
  refine k_int (v := 8192) (by decide +kernel) ?_
  refine lv_iload_n hx hb dX7_finds_51 rfl (lv_at hl 0 rfl) ?_
  refine lv_iadd hx hb dX7_finds_52 ?_
  refine k_int (v := 8192) (by decide +kernel) ?_
  refine k_iald (v := (-1)) hx hb hK hP 5 0 8192 rfl rfl rfl (Nat.le_of_ble_eq_true rfl) (Nat.le_of_ble_eq_true rfl) rfl dX7_finds_53 ?_
  refine lv_istore (lv' := [(4, .int (-1)), (3, .int 0), (2, .int 8), (0, .ref p0), (1, .int (-1))]) hx hb dX7_finds_54 hl (by decide) rfl (fun ls hl => ?_)
  refine lv_iload hx hb dX7_finds_56 (lv_at hl 0 rfl) ?_
  refine lv_iconst (v := (-1)) hx hb dX7_finds_58 (by decide +kernel) ?_
  refine lv_icmp_eq (tgt := 117) hx hb dX7_finds_59 (by decide) (fun _ => ?_) (fun q9 => absurd q9 (by decide +kernel))
  refine lv_iinc (v := 1) (lv' := [(3, .int 1), (4, .int (-1)), (2, .int 8), (0, .ref p0), (1, .int (-1))]) hx hb dX7_finds_117 hl (k := 1) rfl (by decide +kernel) (by decide) rfl (fun ls hl => ?_)
  refine lv_goto (tgt := 27) hx hb dX7_finds_120 (by decide) ?_
  refine lv_iload_n hx hb dX7_finds_27 rfl (lv_at hl 0 rfl) ?_
  refine lv_iconst (v := 1) hx hb dX7_finds_28 (by decide +kernel) ?_
  refine lv_aload_n hx hb dX7_finds_29 rfl (lv_at hl 3 rfl) ?_
  refine k_get (D := (dC, dI)) (ci := 7) (v := .ref (p1 14)) (C := RX7) (T := TX7) (N := 92) hx hb hts hinX7 hown hK hP 4 rfl rfl 14 (by decide) w_1 rfl rfl dX7_finds_30 ?_
  refine lv_aload_n hx hb dX7_finds_33 rfl (lv_at hl 3 rfl) ?_
  refine k_get (D := (dC, dI)) (ci := 7) (v := .int 0) (C := RX7) (T := TX7) (N := 92) hx hb hts hinX7 hown hK hP 4 rfl rfl 13 (by decide) w_2 rfl rfl dX7_finds_34 ?_
  refine k_iald (v := 0) hx hb hK hP 2 0 0 rfl rfl rfl (Nat.le_of_ble_eq_true rfl) (Nat.le_of_ble_eq_true rfl) rfl dX7_finds_37 ?_
  refine lv_ishl hx hb dX7_finds_38 ?_
  refine k_int (v := 1) (by decide +kernel) ?_
  refine lv_icmp_ge (tgt := 123) hx hb dX7_finds_39 (by decide) (fun _ => ?_) (fun q9 => absurd q9 (by decide +kernel))
  refine lv_iinc (v := 9) (lv' := [(2, .int 9), (3, .int 1), (4, .int (-1)), (0, .ref p0), (1, .int (-1))]) hx hb dX7_finds_123 hl (k := 2) rfl (by decide +kernel) (by decide) rfl (fun ls hl => ?_)
  refine lv_goto (tgt := 11) hx hb dX7_finds_126 (by decide) ?_
  refine lv_iload_n hx hb dX7_finds_11 rfl (lv_at hl 0 rfl) ?_
  refine lv_bipush (v := 8) hx hb dX7_finds_12 (by decide +kernel) ?_
  refine lv_icmp_gt (tgt := 129) hx hb dX7_finds_14 (by decide) (fun _ => ?_) (fun q9 => absurd q9 (by decide +kernel))
  exact k_rv B hP hD hS dX7_finds_129 () [4, 0, 1, 5, 2, 3, 6, 7, 8] rfl rfl (Nat.le_of_ble_eq_true rfl) (Nat.le_of_ble_eq_true rfl) trivial
