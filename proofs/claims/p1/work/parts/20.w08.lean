set_option maxHeartbeats 4000000 in
set_option maxRecDepth 100000 in
theorem c_X7_is_v15 (l : Launch) (dC : Nat → ClassId) (dI : Nat → Nat → Nat) (cI cJ cZ cM : ClassId) (p0 : Int32) (b_0 : 9 ≤ p0.toInt) (t_0 : p0.toInt ≤ 2147483647)  : k_Mi l yX7_is wsX7_is ({ frames := 1, cells := 0, slots := 0, locals := 40 }) (dC, dI) vwCl (tyy cI cJ cZ cM) [] [.int p0, .int 0, .int 8] 0 0 (fun (u9 : Unit) => []) (fun (r9 : Int32) (u9 : Unit) => r9 = 0) := by
  refine fun sz => k_enter (cc := cX7_is) (maxL := 3) (ret := some (.boolean)) (Qc := fun A => va_Qi (fun (r9 : Int32) (u9 : Unit) => r9 = 0) (fun u => k_B (dC, dI) vwCl (tyy cI cJ cZ cM) A ((fun (u9 : Unit) => []) u)) A) sz (by decide +kernel) rfl (Nat.le_of_ble_eq_true rfl) (fun p e s m args below meth c A ls H locs B hP hD hS hl => ?_)
  obtain ⟨hx, hb, hml, hown, hts, hr, hlk, hnm, hK, hA, hN, hC⟩ := id B
  have hown : s.vm.findClass RX7 = some m.cls := hown
  have hl : lv_has ls 3 [(0, .int p0), (1, .int 0), (2, .int 8)] := hl
  refine lv_iload_n hx hb dX7_is_0 rfl (lv_at hl 0 rfl) ?_
  refine lv_iload_n hx hb dX7_is_1 rfl (lv_at hl 1 rfl) ?_
  refine lv_icmp_lt (tgt := 14) hx hb dX7_is_2 (by decide) (fun c_1 => ?_) (fun c_1 => ?_)
  · have c_1 : p0.toInt < 0 := k_ltT rfl (by decide +kernel) c_1
    exfalso; omega
  · have c_1 : 0 ≤ p0.toInt := k_ltF rfl (by decide +kernel) c_1
    refine lv_iload_n hx hb dX7_is_5 rfl (lv_at hl 0 rfl) ?_
    refine lv_iload_n hx hb dX7_is_6 rfl (lv_at hl 2 rfl) ?_
    refine lv_icmp_gt (tgt := 14) hx hb dX7_is_7 (by decide) (fun c_2 => ?_) (fun c_2 => ?_)
    · have c_2 : 8 < p0.toInt := k_ltT (by decide +kernel) rfl c_2
      refine lv_iconst (v := 0) hx hb dX7_is_14 (by decide +kernel) ?_
      exact k_ri B hP hD hS dX7_is_15 () [] rfl rfl rfl (Nat.le_of_ble_eq_true rfl) (Nat.le_of_ble_eq_true rfl) rfl
    · have c_2 : p0.toInt ≤ 8 := k_ltF (by decide +kernel) rfl c_2
      exfalso; omega
set_option maxHeartbeats 4000000 in
set_option maxRecDepth 100000 in
theorem c_X7_ladder_v2 (l : Launch) (dC : Nat → ClassId) (dI : Nat → Nat → Nat) (cI cJ cZ cM : ClassId) (p0 : Nat) (p1 : Int32) (b_0 : 9 ≤ p1.toInt) (t_0 : p1.toInt ≤ 2147483647)  : k_Mi l yX7_ladder wsX7_ladder ({ frames := 2, cells := 0, slots := 0, locals := 62 }) (dC, dI) vwCl (tyy cI cJ cZ cM) [] [.ref p0, .int p1] 0 0 (fun (u9 : Unit) => []) (fun (r9 : Int32) (u9 : Unit) => r9 = (-1)) := by
  refine fun sz => k_enter (cc := cX7_ladder) (maxL := 4) (ret := some (.int)) (Qc := fun A => va_Qi (fun (r9 : Int32) (u9 : Unit) => r9 = (-1)) (fun u => k_B (dC, dI) vwCl (tyy cI cJ cZ cM) A ((fun (u9 : Unit) => []) u)) A) sz (by decide +kernel) rfl (Nat.le_of_ble_eq_true rfl) (fun p e s m args below meth c A ls H locs B hP hD hS hl => ?_)
  obtain ⟨hx, hb, hml, hown, hts, hr, hlk, hnm, hK, hA, hN, hC⟩ := id B
  have hown : s.vm.findClass RX7 = some m.cls := hown
  have hl : lv_has ls 4 [(0, .ref p0), (1, .int p1)] := hl
  refine lv_iload_n hx hb dX7_ladder_0 rfl (lv_at hl 1 rfl) ?_
  refine lv_iconst (v := 0) hx hb dX7_ladder_1 (by decide +kernel) ?_
  refine lv_bipush (v := 8) hx hb dX7_ladder_2 (by decide +kernel) ?_
  refine k_ci (wc := []) (wr := []) (fun hPc hDc hFc => va_runS (As := [.int p1, .int 0, .int 8]) (rest := []) ⟨hx, hb, hml, hown, hts⟩ (c_X7_is_v15 l dC dI cI cJ cZ cM p1 (by omega) (by omega) H.size) (va_cwS 3 hts gX7_ladder_X7_is rfl rfl rfl (by decide +kernel) ⟨(Nat.le_of_ble_eq_true rfl), (Nat.le_of_ble_eq_true rfl)⟩) (k_pS hPc hDc hK hN hC hS hFc) rfl rfl hl.1 rfl (lv_room (Nat.le_of_ble_eq_true rfl)) dX7_ladder_4 ⟨(Nat.le_of_ble_eq_true rfl), (Nat.le_of_ble_eq_true rfl)⟩) hP hD hS hA [] [] rfl rfl rfl rfl (by decide) (fun _ => rfl) 0 0 rfl rfl (fun r_1 u_2 H locs hw hP hD hS => ?_)
  obtain rfl : r_1 = 0 := hw
  have hP : va_P (dC, dI) vwCl [] H := hP
  have hD : va_D A [] := hD
  refine lv_if_ne (tgt := 12) hx hb dX7_ladder_7 (by decide) (fun q9 => absurd q9 (by decide +kernel)) (fun _ => ?_)
  refine lv_iconst (v := (-1)) hx hb dX7_ladder_10 (by decide +kernel) ?_
  exact k_ri B hP hD hS dX7_ladder_11 () [] rfl rfl rfl (Nat.le_of_ble_eq_true rfl) (Nat.le_of_ble_eq_true rfl) rfl
set_option maxHeartbeats 4000000 in
set_option maxRecDepth 100000 in
theorem c_X4_better_v0 (l : Launch) (dC : Nat → ClassId) (dI : Nat → Nat → Nat) (cI cJ cZ cM : ClassId) (p0 : Nat → Nat)   : k_Mi l yX4_better wsX4_better ({ frames := 1, cells := 0, slots := 0, locals := 40 }) (dC, dI) vwCl (tyy cI cJ cZ cM) [] [.ref (p0 0), .int (-1), .int 0] 0 0 (fun (u9 : Unit) => []) (fun (r9 : Int32) (u9 : Unit) => r9 = 0) := by
  refine fun sz => k_enter (cc := cX4_better) (maxL := 3) (ret := some (.int)) (Qc := fun A => va_Qi (fun (r9 : Int32) (u9 : Unit) => r9 = 0) (fun u => k_B (dC, dI) vwCl (tyy cI cJ cZ cM) A ((fun (u9 : Unit) => []) u)) A) sz (by decide +kernel) rfl (Nat.le_of_ble_eq_true rfl) (fun p e s m args below meth c A ls H locs B hP hD hS hl => ?_)
  obtain ⟨hx, hb, hml, hown, hts, hr, hlk, hnm, hK, hA, hN, hC⟩ := id B
  have hown : s.vm.findClass RX4 = some m.cls := hown
  have hl : lv_has ls 3 [(0, .ref (p0 0)), (1, .int (-1)), (2, .int 0)] := hl
  refine lv_iload_n hx hb dX4_better_0 rfl (lv_at hl 1 rfl) ?_
  refine lv_if_lt (tgt := 17) hx hb dX4_better_1 (by decide) (fun _ => ?_) (fun q9 => absurd q9 (by decide +kernel))
  refine lv_iload_n hx hb dX4_better_17 rfl (lv_at hl 2 rfl) ?_
  refine lv_goto (tgt := 22) hx hb dX4_better_18 (by decide) ?_
  exact k_ri B hP hD hS dX4_better_22 () [] rfl rfl rfl (Nat.le_of_ble_eq_true rfl) (Nat.le_of_ble_eq_true rfl) rfl
set_option maxHeartbeats 4000000 in
set_option maxRecDepth 100000 in
theorem c_X4_fewestWith_v0 (l : Launch) (dC : Nat → ClassId) (dI : Nat → Nat → Nat) (cI cJ cZ cM : ClassId) (p0 : Nat → Nat) (p1 : Int32) (p2 : Nat → Nat)   : k_Mi l yX4_fewestWith wsX4_fewestWith ({ frames := 2, cells := 0, slots := 0, locals := 62 }) (dC, dI) vwCl (tyy cI cJ cZ cM) [((p0 0), .inr (4, [.ref (p0 1), .ref (p0 2), .ref (p0 3), .ref (p2 1), .int 1, .int 1])), ((p0 1), .inl (cI, 9216, .inl (upd (fun k => if 0 ≤ k ∧ k < 9 then 2147483647 else 0) 0 0)))] [.ref (p0 0), .int p1] 0 0 (fun (u9 : (Nat × (Nat → Nat))) => [((p0 0), .inr (4, [.ref (p0 1), .ref (p0 2), .ref (p0 3), .ref (p2 1), .int 1, .int 1])), ((p0 1), .inl (cI, 9216, .inl (upd (fun k => if 0 ≤ k ∧ k < 9 then 2147483647 else 0) 0 0)))]) (fun (r9 : Int32) (u9 : (Nat × (Nat → Nat))) => match u9.1 with | 0 => (¬ 0 = p1.toInt) ∧ r9 = (-1) | 1 => (0 = p1.toInt) ∧ r9 = 0 | _ => False) := by
  refine fun sz => k_enter (cc := cX4_fewestWith) (maxL := 6) (ret := some (.int)) (Qc := fun A => va_Qi (fun (r9 : Int32) (u9 : (Nat × (Nat → Nat))) => match u9.1 with | 0 => (¬ 0 = p1.toInt) ∧ r9 = (-1) | 1 => (0 = p1.toInt) ∧ r9 = 0 | _ => False) (fun u => k_B (dC, dI) vwCl (tyy cI cJ cZ cM) A ((fun (u9 : (Nat × (Nat → Nat))) => [((p0 0), .inr (4, [.ref (p0 1), .ref (p0 2), .ref (p0 3), .ref (p2 1), .int 1, .int 1])), ((p0 1), .inl (cI, 9216, .inl (upd (fun k => if 0 ≤ k ∧ k < 9 then 2147483647 else 0) 0 0)))]) u)) A) sz (by decide +kernel) rfl (Nat.le_of_ble_eq_true rfl) (fun p e s m args below meth c A ls H locs B hP hD hS hl => ?_)
  obtain ⟨hx, hb, hml, hown, hts, hr, hlk, hnm, hK, hA, hN, hC⟩ := id B
  have hown : s.vm.findClass RX4 = some m.cls := hown
  have hl : lv_has ls 6 [(0, .ref (p0 0)), (1, .int p1)] := hl
  have w_0 : (Cond.fieldLink RX4 47 "WishSea$Rungs" "sets" "I").before args s = true := hts _ (List.mem_of_getElem? (i := 1) rfl)
  have w_1 : (Cond.fieldLink RX4 9 "WishSea$Rungs" "table" "[I").before args s = true := hts _ (List.mem_of_getElem? (i := 2) rfl)
  have w_2 : (Cond.constant RX4 50 (2147483647)).before args s = true := hts _ (List.mem_of_getElem? (i := 3) rfl)
  have hinX4 : ∀ w ∈ u_ws RX4 TX4 6, w ∈ wsX4_fewestWith := fun _ h => List.mem_cons_of_mem _ (List.mem_append_right _ h)
  refine lv_iconst (v := 0) hx hb dX4_fewestWith_0 (by decide +kernel) ?_
  refine lv_istore_n (lv' := [(2, .int 0), (0, .ref (p0 0)), (1, .int p1)]) hx hb dX4_fewestWith_1 rfl hl (by decide) rfl (fun ls hl => ?_)
  refine lv_iload_n hx hb dX4_fewestWith_2 rfl (lv_at hl 0 rfl) ?_
  refine lv_bipush (v := 8) hx hb dX4_fewestWith_3 (by decide +kernel) ?_
  refine lv_icmp_gt (tgt := 79) hx hb dX4_fewestWith_5 (by decide) (fun q9 => absurd q9 (by decide +kernel)) (fun _ => ?_)
  refine lv_iconst (v := (-1)) hx hb dX4_fewestWith_8 (by decide +kernel) ?_
  refine lv_istore_n (lv' := [(3, .int (-1)), (2, .int 0), (0, .ref (p0 0)), (1, .int p1)]) hx hb dX4_fewestWith_9 rfl hl (by decide) rfl (fun ls hl => ?_)
  refine lv_iconst (v := 0) hx hb dX4_fewestWith_10 (by decide +kernel) ?_
  refine lv_istore (lv' := [(4, .int 0), (3, .int (-1)), (2, .int 0), (0, .ref (p0 0)), (1, .int p1)]) hx hb dX4_fewestWith_11 hl (by decide) rfl (fun ls hl => ?_)
  refine lv_iload hx hb dX4_fewestWith_13 (lv_at hl 0 rfl) ?_
  refine lv_aload_n hx hb dX4_fewestWith_15 rfl (lv_at hl 3 rfl) ?_
  refine k_get (D := (dC, dI)) (ci := 4) (v := .int 1) (C := RX4) (T := TX4) (N := 6) hx hb hts hinX4 hown hK hP 0 rfl rfl 4 (by decide) w_0 rfl rfl dX4_fewestWith_16 ?_
  refine lv_icmp_ge (tgt := 67) hx hb dX4_fewestWith_19 (by decide) (fun q9 => absurd q9 (by decide +kernel)) (fun _ => ?_)
  refine lv_iload_n hx hb dX4_fewestWith_22 rfl (lv_at hl 2 rfl) ?_
  refine lv_aload_n hx hb dX4_fewestWith_23 rfl (lv_at hl 3 rfl) ?_
  refine k_get (D := (dC, dI)) (ci := 4) (v := .int 1) (C := RX4) (T := TX4) (N := 6) hx hb hts hinX4 hown hK hP 0 rfl rfl 4 (by decide) w_0 rfl rfl dX4_fewestWith_24 ?_
  refine lv_imul hx hb dX4_fewestWith_27 ?_
  refine k_int (v := 0) (by decide +kernel) ?_
  refine lv_iload hx hb dX4_fewestWith_28 (lv_at hl 0 rfl) ?_
  refine lv_iadd hx hb dX4_fewestWith_30 ?_
  refine k_int (v := 0) (by decide +kernel) ?_
  refine lv_istore (lv' := [(5, .int 0), (4, .int 0), (3, .int (-1)), (2, .int 0), (0, .ref (p0 0)), (1, .int p1)]) hx hb dX4_fewestWith_31 hl (by decide) rfl (fun ls hl => ?_)
  refine lv_aload_n hx hb dX4_fewestWith_33 rfl (lv_at hl 4 rfl) ?_
  refine k_get (D := (dC, dI)) (ci := 4) (v := .ref (p0 1)) (C := RX4) (T := TX4) (N := 6) hx hb hts hinX4 hown hK hP 0 rfl rfl 0 (by decide) w_1 rfl rfl dX4_fewestWith_34 ?_
  refine lv_iload hx hb dX4_fewestWith_37 (lv_at hl 0 rfl) ?_
  refine k_iald (v := 0) hx hb hK hP 1 0 0 rfl rfl rfl (Nat.le_of_ble_eq_true rfl) (Nat.le_of_ble_eq_true rfl) rfl dX4_fewestWith_39 ?_
  refine lv_ldc (v := 2147483647) hx hb hown w_2 dX4_fewestWith_40 ?_
  refine lv_icmp_eq (tgt := 61) hx hb dX4_fewestWith_42 (by decide) (fun q9 => absurd q9 (by decide +kernel)) (fun _ => ?_)
  refine lv_iload hx hb dX4_fewestWith_45 (lv_at hl 1 rfl) ?_
  refine lv_iload_n hx hb dX4_fewestWith_47 rfl (lv_at hl 5 rfl) ?_
  refine lv_iand hx hb dX4_fewestWith_48 ?_
  refine k_int (v := 0) (k_and0 _) ?_
  refine lv_iload_n hx hb dX4_fewestWith_49 rfl (lv_at hl 5 rfl) ?_
  refine lv_icmp_ne (tgt := 61) hx hb dX4_fewestWith_50 (by decide) (fun c_1 => ?_) (fun c_1 => ?_)
  · have c_1 : ¬ 0 = p1.toInt := k_eqF (by decide +kernel) rfl c_1
    refine lv_iinc (v := 1) (lv' := [(4, .int 1), (5, .int 0), (3, .int (-1)), (2, .int 0), (0, .ref (p0 0)), (1, .int p1)]) hx hb dX4_fewestWith_61 hl (k := 1) rfl (by decide +kernel) (by decide) rfl (fun ls hl => ?_)
    refine lv_goto (tgt := 13) hx hb dX4_fewestWith_64 (by decide) ?_
    refine lv_iload hx hb dX4_fewestWith_13 (lv_at hl 0 rfl) ?_
    refine lv_aload_n hx hb dX4_fewestWith_15 rfl (lv_at hl 4 rfl) ?_
    refine k_get (D := (dC, dI)) (ci := 4) (v := .int 1) (C := RX4) (T := TX4) (N := 6) hx hb hts hinX4 hown hK hP 0 rfl rfl 4 (by decide) w_0 rfl rfl dX4_fewestWith_16 ?_
    refine lv_icmp_ge (tgt := 67) hx hb dX4_fewestWith_19 (by decide) (fun _ => ?_) (fun q9 => absurd q9 (by decide +kernel))
    refine lv_iload_n hx hb dX4_fewestWith_67 rfl (lv_at hl 2 rfl) ?_
    refine lv_if_lt (tgt := 73) hx hb dX4_fewestWith_68 (by decide) (fun _ => ?_) (fun q9 => absurd q9 (by decide +kernel))
    refine lv_iinc (v := 1) (lv' := [(2, .int 1), (4, .int 1), (5, .int 0), (3, .int (-1)), (0, .ref (p0 0)), (1, .int p1)]) hx hb dX4_fewestWith_73 hl (k := 3) rfl (by decide +kernel) (by decide) rfl (fun ls hl => ?_)
    refine lv_goto (tgt := 2) hx hb dX4_fewestWith_76 (by decide) ?_
    refine lv_iload_n hx hb dX4_fewestWith_2 rfl (lv_at hl 0 rfl) ?_
    refine lv_bipush (v := 8) hx hb dX4_fewestWith_3 (by decide +kernel) ?_
    refine lv_icmp_gt (tgt := 79) hx hb dX4_fewestWith_5 (by decide) (fun q9 => absurd q9 (by decide +kernel)) (fun _ => ?_)
    refine lv_iconst (v := (-1)) hx hb dX4_fewestWith_8 (by decide +kernel) ?_
    refine lv_istore_n (lv' := [(3, .int (-1)), (2, .int 1), (4, .int 1), (5, .int 0), (0, .ref (p0 0)), (1, .int p1)]) hx hb dX4_fewestWith_9 rfl hl (by decide) rfl (fun ls hl => ?_)
    refine lv_iconst (v := 0) hx hb dX4_fewestWith_10 (by decide +kernel) ?_
    refine lv_istore (lv' := [(4, .int 0), (3, .int (-1)), (2, .int 1), (5, .int 0), (0, .ref (p0 0)), (1, .int p1)]) hx hb dX4_fewestWith_11 hl (by decide) rfl (fun ls hl => ?_)
    refine lv_iload hx hb dX4_fewestWith_13 (lv_at hl 0 rfl) ?_
    refine lv_aload_n hx hb dX4_fewestWith_15 rfl (lv_at hl 4 rfl) ?_
    refine k_get (D := (dC, dI)) (ci := 4) (v := .int 1) (C := RX4) (T := TX4) (N := 6) hx hb hts hinX4 hown hK hP 0 rfl rfl 4 (by decide) w_0 rfl rfl dX4_fewestWith_16 ?_
    refine lv_icmp_ge (tgt := 67) hx hb dX4_fewestWith_19 (by decide) (fun q9 => absurd q9 (by decide +kernel)) (fun _ => ?_)
    refine lv_iload_n hx hb dX4_fewestWith_22 rfl (lv_at hl 2 rfl) ?_
    refine lv_aload_n hx hb dX4_fewestWith_23 rfl (lv_at hl 4 rfl) ?_
    refine k_get (D := (dC, dI)) (ci := 4) (v := .int 1) (C := RX4) (T := TX4) (N := 6) hx hb hts hinX4 hown hK hP 0 rfl rfl 4 (by decide) w_0 rfl rfl dX4_fewestWith_24 ?_
    refine lv_imul hx hb dX4_fewestWith_27 ?_
    refine k_int (v := 1) (by decide +kernel) ?_
    refine lv_iload hx hb dX4_fewestWith_28 (lv_at hl 0 rfl) ?_
    refine lv_iadd hx hb dX4_fewestWith_30 ?_
    refine k_int (v := 1) (by decide +kernel) ?_
    refine lv_istore (lv' := [(5, .int 1), (4, .int 0), (3, .int (-1)), (2, .int 1), (0, .ref (p0 0)), (1, .int p1)]) hx hb dX4_fewestWith_31 hl (by decide) rfl (fun ls hl => ?_)
    refine lv_aload_n hx hb dX4_fewestWith_33 rfl (lv_at hl 4 rfl) ?_
    refine k_get (D := (dC, dI)) (ci := 4) (v := .ref (p0 1)) (C := RX4) (T := TX4) (N := 6) hx hb hts hinX4 hown hK hP 0 rfl rfl 0 (by decide) w_1 rfl rfl dX4_fewestWith_34 ?_
    refine lv_iload hx hb dX4_fewestWith_37 (lv_at hl 0 rfl) ?_
    refine k_iald (v := 2147483647) hx hb hK hP 1 0 1 rfl rfl rfl (Nat.le_of_ble_eq_true rfl) (Nat.le_of_ble_eq_true rfl) rfl dX4_fewestWith_39 ?_
    refine lv_ldc (v := 2147483647) hx hb hown w_2 dX4_fewestWith_40 ?_
    refine lv_icmp_eq (tgt := 61) hx hb dX4_fewestWith_42 (by decide) (fun _ => ?_) (fun q9 => absurd q9 (by decide +kernel))
    refine lv_iinc (v := 1) (lv' := [(4, .int 1), (5, .int 1), (3, .int (-1)), (2, .int 1), (0, .ref (p0 0)), (1, .int p1)]) hx hb dX4_fewestWith_61 hl (k := 1) rfl (by decide +kernel) (by decide) rfl (fun ls hl => ?_)
    refine lv_goto (tgt := 13) hx hb dX4_fewestWith_64 (by decide) ?_
    refine lv_iload hx hb dX4_fewestWith_13 (lv_at hl 0 rfl) ?_
    refine lv_aload_n hx hb dX4_fewestWith_15 rfl (lv_at hl 4 rfl) ?_
    refine k_get (D := (dC, dI)) (ci := 4) (v := .int 1) (C := RX4) (T := TX4) (N := 6) hx hb hts hinX4 hown hK hP 0 rfl rfl 4 (by decide) w_0 rfl rfl dX4_fewestWith_16 ?_
    refine lv_icmp_ge (tgt := 67) hx hb dX4_fewestWith_19 (by decide) (fun _ => ?_) (fun q9 => absurd q9 (by decide +kernel))
    refine lv_iload_n hx hb dX4_fewestWith_67 rfl (lv_at hl 2 rfl) ?_
    refine lv_if_lt (tgt := 73) hx hb dX4_fewestWith_68 (by decide) (fun _ => ?_) (fun q9 => absurd q9 (by decide +kernel))
    refine lv_iinc (v := 2) (lv' := [(2, .int 2), (4, .int 1), (5, .int 1), (3, .int (-1)), (0, .ref (p0 0)), (1, .int p1)]) hx hb dX4_fewestWith_73 hl (k := 3) rfl (by decide +kernel) (by decide) rfl (fun ls hl => ?_)
    refine lv_goto (tgt := 2) hx hb dX4_fewestWith_76 (by decide) ?_
    refine lv_iload_n hx hb dX4_fewestWith_2 rfl (lv_at hl 0 rfl) ?_
    refine lv_bipush (v := 8) hx hb dX4_fewestWith_3 (by decide +kernel) ?_
    refine lv_icmp_gt (tgt := 79) hx hb dX4_fewestWith_5 (by decide) (fun q9 => absurd q9 (by decide +kernel)) (fun _ => ?_)
    refine lv_iconst (v := (-1)) hx hb dX4_fewestWith_8 (by decide +kernel) ?_
    refine lv_istore_n (lv' := [(3, .int (-1)), (2, .int 2), (4, .int 1), (5, .int 1), (0, .ref (p0 0)), (1, .int p1)]) hx hb dX4_fewestWith_9 rfl hl (by decide) rfl (fun ls hl => ?_)
    refine lv_iconst (v := 0) hx hb dX4_fewestWith_10 (by decide +kernel) ?_
    refine lv_istore (lv' := [(4, .int 0), (3, .int (-1)), (2, .int 2), (5, .int 1), (0, .ref (p0 0)), (1, .int p1)]) hx hb dX4_fewestWith_11 hl (by decide) rfl (fun ls hl => ?_)
    refine lv_iload hx hb dX4_fewestWith_13 (lv_at hl 0 rfl) ?_
    refine lv_aload_n hx hb dX4_fewestWith_15 rfl (lv_at hl 4 rfl) ?_
    refine k_get (D := (dC, dI)) (ci := 4) (v := .int 1) (C := RX4) (T := TX4) (N := 6) hx hb hts hinX4 hown hK hP 0 rfl rfl 4 (by decide) w_0 rfl rfl dX4_fewestWith_16 ?_
    refine lv_icmp_ge (tgt := 67) hx hb dX4_fewestWith_19 (by decide) (fun q9 => absurd q9 (by decide +kernel)) (fun _ => ?_)
    refine lv_iload_n hx hb dX4_fewestWith_22 rfl (lv_at hl 2 rfl) ?_
    refine lv_aload_n hx hb dX4_fewestWith_23 rfl (lv_at hl 4 rfl) ?_
    refine k_get (D := (dC, dI)) (ci := 4) (v := .int 1) (C := RX4) (T := TX4) (N := 6) hx hb hts hinX4 hown hK hP 0 rfl rfl 4 (by decide) w_0 rfl rfl dX4_fewestWith_24 ?_
    refine lv_imul hx hb dX4_fewestWith_27 ?_
    refine k_int (v := 2) (by decide +kernel) ?_
    refine lv_iload hx hb dX4_fewestWith_28 (lv_at hl 0 rfl) ?_
    refine lv_iadd hx hb dX4_fewestWith_30 ?_
    refine k_int (v := 2) (by decide +kernel) ?_
    refine lv_istore (lv' := [(5, .int 2), (4, .int 0), (3, .int (-1)), (2, .int 2), (0, .ref (p0 0)), (1, .int p1)]) hx hb dX4_fewestWith_31 hl (by decide) rfl (fun ls hl => ?_)
    refine lv_aload_n hx hb dX4_fewestWith_33 rfl (lv_at hl 4 rfl) ?_
    refine k_get (D := (dC, dI)) (ci := 4) (v := .ref (p0 1)) (C := RX4) (T := TX4) (N := 6) hx hb hts hinX4 hown hK hP 0 rfl rfl 0 (by decide) w_1 rfl rfl dX4_fewestWith_34 ?_
    refine lv_iload hx hb dX4_fewestWith_37 (lv_at hl 0 rfl) ?_
    refine k_iald (v := 2147483647) hx hb hK hP 1 0 2 rfl rfl rfl (Nat.le_of_ble_eq_true rfl) (Nat.le_of_ble_eq_true rfl) rfl dX4_fewestWith_39 ?_
    refine lv_ldc (v := 2147483647) hx hb hown w_2 dX4_fewestWith_40 ?_
    refine lv_icmp_eq (tgt := 61) hx hb dX4_fewestWith_42 (by decide) (fun _ => ?_) (fun q9 => absurd q9 (by decide +kernel))
    refine lv_iinc (v := 1) (lv' := [(4, .int 1), (5, .int 2), (3, .int (-1)), (2, .int 2), (0, .ref (p0 0)), (1, .int p1)]) hx hb dX4_fewestWith_61 hl (k := 1) rfl (by decide +kernel) (by decide) rfl (fun ls hl => ?_)
    refine lv_goto (tgt := 13) hx hb dX4_fewestWith_64 (by decide) ?_
    refine lv_iload hx hb dX4_fewestWith_13 (lv_at hl 0 rfl) ?_
    refine lv_aload_n hx hb dX4_fewestWith_15 rfl (lv_at hl 4 rfl) ?_
    refine k_get (D := (dC, dI)) (ci := 4) (v := .int 1) (C := RX4) (T := TX4) (N := 6) hx hb hts hinX4 hown hK hP 0 rfl rfl 4 (by decide) w_0 rfl rfl dX4_fewestWith_16 ?_
    refine lv_icmp_ge (tgt := 67) hx hb dX4_fewestWith_19 (by decide) (fun _ => ?_) (fun q9 => absurd q9 (by decide +kernel))
    refine lv_iload_n hx hb dX4_fewestWith_67 rfl (lv_at hl 2 rfl) ?_
    refine lv_if_lt (tgt := 73) hx hb dX4_fewestWith_68 (by decide) (fun _ => ?_) (fun q9 => absurd q9 (by decide +kernel))
    refine lv_iinc (v := 3) (lv' := [(2, .int 3), (4, .int 1), (5, .int 2), (3, .int (-1)), (0, .ref (p0 0)), (1, .int p1)]) hx hb dX4_fewestWith_73 hl (k := 3) rfl (by decide +kernel) (by decide) rfl (fun ls hl => ?_)
    refine lv_goto (tgt := 2) hx hb dX4_fewestWith_76 (by decide) ?_
    refine lv_iload_n hx hb dX4_fewestWith_2 rfl (lv_at hl 0 rfl) ?_
    refine lv_bipush (v := 8) hx hb dX4_fewestWith_3 (by decide +kernel) ?_
    refine lv_icmp_gt (tgt := 79) hx hb dX4_fewestWith_5 (by decide) (fun q9 => absurd q9 (by decide +kernel)) (fun _ => ?_)
    refine lv_iconst (v := (-1)) hx hb dX4_fewestWith_8 (by decide +kernel) ?_
    refine lv_istore_n (lv' := [(3, .int (-1)), (2, .int 3), (4, .int 1), (5, .int 2), (0, .ref (p0 0)), (1, .int p1)]) hx hb dX4_fewestWith_9 rfl hl (by decide) rfl (fun ls hl => ?_)
    refine lv_iconst (v := 0) hx hb dX4_fewestWith_10 (by decide +kernel) ?_
    refine lv_istore (lv' := [(4, .int 0), (3, .int (-1)), (2, .int 3), (5, .int 2), (0, .ref (p0 0)), (1, .int p1)]) hx hb dX4_fewestWith_11 hl (by decide) rfl (fun ls hl => ?_)
    refine lv_iload hx hb dX4_fewestWith_13 (lv_at hl 0 rfl) ?_
    refine lv_aload_n hx hb dX4_fewestWith_15 rfl (lv_at hl 4 rfl) ?_
    refine k_get (D := (dC, dI)) (ci := 4) (v := .int 1) (C := RX4) (T := TX4) (N := 6) hx hb hts hinX4 hown hK hP 0 rfl rfl 4 (by decide) w_0 rfl rfl dX4_fewestWith_16 ?_
    refine lv_icmp_ge (tgt := 67) hx hb dX4_fewestWith_19 (by decide) (fun q9 => absurd q9 (by decide +kernel)) (fun _ => ?_)
    refine lv_iload_n hx hb dX4_fewestWith_22 rfl (lv_at hl 2 rfl) ?_
    refine lv_aload_n hx hb dX4_fewestWith_23 rfl (lv_at hl 4 rfl) ?_
    refine k_get (D := (dC, dI)) (ci := 4) (v := .int 1) (C := RX4) (T := TX4) (N := 6) hx hb hts hinX4 hown hK hP 0 rfl rfl 4 (by decide) w_0 rfl rfl dX4_fewestWith_24 ?_
    refine lv_imul hx hb dX4_fewestWith_27 ?_
    refine k_int (v := 3) (by decide +kernel) ?_
    refine lv_iload hx hb dX4_fewestWith_28 (lv_at hl 0 rfl) ?_
    refine lv_iadd hx hb dX4_fewestWith_30 ?_
    refine k_int (v := 3) (by decide +kernel) ?_
    refine lv_istore (lv' := [(5, .int 3), (4, .int 0), (3, .int (-1)), (2, .int 3), (0, .ref (p0 0)), (1, .int p1)]) hx hb dX4_fewestWith_31 hl (by decide) rfl (fun ls hl => ?_)
    refine lv_aload_n hx hb dX4_fewestWith_33 rfl (lv_at hl 4 rfl) ?_
    refine k_get (D := (dC, dI)) (ci := 4) (v := .ref (p0 1)) (C := RX4) (T := TX4) (N := 6) hx hb hts hinX4 hown hK hP 0 rfl rfl 0 (by decide) w_1 rfl rfl dX4_fewestWith_34 ?_
    refine lv_iload hx hb dX4_fewestWith_37 (lv_at hl 0 rfl) ?_
    refine k_iald (v := 2147483647) hx hb hK hP 1 0 3 rfl rfl rfl (Nat.le_of_ble_eq_true rfl) (Nat.le_of_ble_eq_true rfl) rfl dX4_fewestWith_39 ?_
    refine lv_ldc (v := 2147483647) hx hb hown w_2 dX4_fewestWith_40 ?_
    refine lv_icmp_eq (tgt := 61) hx hb dX4_fewestWith_42 (by decide) (fun _ => ?_) (fun q9 => absurd q9 (by decide +kernel))
    refine lv_iinc (v := 1) (lv' := [(4, .int 1), (5, .int 3), (3, .int (-1)), (2, .int 3), (0, .ref (p0 0)), (1, .int p1)]) hx hb dX4_fewestWith_61 hl (k := 1) rfl (by decide +kernel) (by decide) rfl (fun ls hl => ?_)
    refine lv_goto (tgt := 13) hx hb dX4_fewestWith_64 (by decide) ?_
    refine lv_iload hx hb dX4_fewestWith_13 (lv_at hl 0 rfl) ?_
    refine lv_aload_n hx hb dX4_fewestWith_15 rfl (lv_at hl 4 rfl) ?_
    refine k_get (D := (dC, dI)) (ci := 4) (v := .int 1) (C := RX4) (T := TX4) (N := 6) hx hb hts hinX4 hown hK hP 0 rfl rfl 4 (by decide) w_0 rfl rfl dX4_fewestWith_16 ?_
    refine lv_icmp_ge (tgt := 67) hx hb dX4_fewestWith_19 (by decide) (fun _ => ?_) (fun q9 => absurd q9 (by decide +kernel))
    refine lv_iload_n hx hb dX4_fewestWith_67 rfl (lv_at hl 2 rfl) ?_
    refine lv_if_lt (tgt := 73) hx hb dX4_fewestWith_68 (by decide) (fun _ => ?_) (fun q9 => absurd q9 (by decide +kernel))
    refine lv_iinc (v := 4) (lv' := [(2, .int 4), (4, .int 1), (5, .int 3), (3, .int (-1)), (0, .ref (p0 0)), (1, .int p1)]) hx hb dX4_fewestWith_73 hl (k := 3) rfl (by decide +kernel) (by decide) rfl (fun ls hl => ?_)
    refine lv_goto (tgt := 2) hx hb dX4_fewestWith_76 (by decide) ?_
    refine lv_iload_n hx hb dX4_fewestWith_2 rfl (lv_at hl 0 rfl) ?_
    refine lv_bipush (v := 8) hx hb dX4_fewestWith_3 (by decide +kernel) ?_
    refine lv_icmp_gt (tgt := 79) hx hb dX4_fewestWith_5 (by decide) (fun q9 => absurd q9 (by decide +kernel)) (fun _ => ?_)
    refine lv_iconst (v := (-1)) hx hb dX4_fewestWith_8 (by decide +kernel) ?_
    refine lv_istore_n (lv' := [(3, .int (-1)), (2, .int 4), (4, .int 1), (5, .int 3), (0, .ref (p0 0)), (1, .int p1)]) hx hb dX4_fewestWith_9 rfl hl (by decide) rfl (fun ls hl => ?_)
    refine lv_iconst (v := 0) hx hb dX4_fewestWith_10 (by decide +kernel) ?_
    refine lv_istore (lv' := [(4, .int 0), (3, .int (-1)), (2, .int 4), (5, .int 3), (0, .ref (p0 0)), (1, .int p1)]) hx hb dX4_fewestWith_11 hl (by decide) rfl (fun ls hl => ?_)
    refine lv_iload hx hb dX4_fewestWith_13 (lv_at hl 0 rfl) ?_
    refine lv_aload_n hx hb dX4_fewestWith_15 rfl (lv_at hl 4 rfl) ?_
    refine k_get (D := (dC, dI)) (ci := 4) (v := .int 1) (C := RX4) (T := TX4) (N := 6) hx hb hts hinX4 hown hK hP 0 rfl rfl 4 (by decide) w_0 rfl rfl dX4_fewestWith_16 ?_
    refine lv_icmp_ge (tgt := 67) hx hb dX4_fewestWith_19 (by decide) (fun q9 => absurd q9 (by decide +kernel)) (fun _ => ?_)
    refine lv_iload_n hx hb dX4_fewestWith_22 rfl (lv_at hl 2 rfl) ?_
    refine lv_aload_n hx hb dX4_fewestWith_23 rfl (lv_at hl 4 rfl) ?_
    refine k_get (D := (dC, dI)) (ci := 4) (v := .int 1) (C := RX4) (T := TX4) (N := 6) hx hb hts hinX4 hown hK hP 0 rfl rfl 4 (by decide) w_0 rfl rfl dX4_fewestWith_24 ?_
    refine lv_imul hx hb dX4_fewestWith_27 ?_
    refine k_int (v := 4) (by decide +kernel) ?_
    refine lv_iload hx hb dX4_fewestWith_28 (lv_at hl 0 rfl) ?_
    refine lv_iadd hx hb dX4_fewestWith_30 ?_
    refine k_int (v := 4) (by decide +kernel) ?_
    refine lv_istore (lv' := [(5, .int 4), (4, .int 0), (3, .int (-1)), (2, .int 4), (0, .ref (p0 0)), (1, .int p1)]) hx hb dX4_fewestWith_31 hl (by decide) rfl (fun ls hl => ?_)
    refine lv_aload_n hx hb dX4_fewestWith_33 rfl (lv_at hl 4 rfl) ?_
    refine k_get (D := (dC, dI)) (ci := 4) (v := .ref (p0 1)) (C := RX4) (T := TX4) (N := 6) hx hb hts hinX4 hown hK hP 0 rfl rfl 0 (by decide) w_1 rfl rfl dX4_fewestWith_34 ?_
    refine lv_iload hx hb dX4_fewestWith_37 (lv_at hl 0 rfl) ?_
    refine k_iald (v := 2147483647) hx hb hK hP 1 0 4 rfl rfl rfl (Nat.le_of_ble_eq_true rfl) (Nat.le_of_ble_eq_true rfl) rfl dX4_fewestWith_39 ?_
    refine lv_ldc (v := 2147483647) hx hb hown w_2 dX4_fewestWith_40 ?_
    refine lv_icmp_eq (tgt := 61) hx hb dX4_fewestWith_42 (by decide) (fun _ => ?_) (fun q9 => absurd q9 (by decide +kernel))
    refine lv_iinc (v := 1) (lv' := [(4, .int 1), (5, .int 4), (3, .int (-1)), (2, .int 4), (0, .ref (p0 0)), (1, .int p1)]) hx hb dX4_fewestWith_61 hl (k := 1) rfl (by decide +kernel) (by decide) rfl (fun ls hl => ?_)
    refine lv_goto (tgt := 13) hx hb dX4_fewestWith_64 (by decide) ?_
    refine lv_iload hx hb dX4_fewestWith_13 (lv_at hl 0 rfl) ?_
    refine lv_aload_n hx hb dX4_fewestWith_15 rfl (lv_at hl 4 rfl) ?_
    refine k_get (D := (dC, dI)) (ci := 4) (v := .int 1) (C := RX4) (T := TX4) (N := 6) hx hb hts hinX4 hown hK hP 0 rfl rfl 4 (by decide) w_0 rfl rfl dX4_fewestWith_16 ?_
    refine lv_icmp_ge (tgt := 67) hx hb dX4_fewestWith_19 (by decide) (fun _ => ?_) (fun q9 => absurd q9 (by decide +kernel))
    refine lv_iload_n hx hb dX4_fewestWith_67 rfl (lv_at hl 2 rfl) ?_
    refine lv_if_lt (tgt := 73) hx hb dX4_fewestWith_68 (by decide) (fun _ => ?_) (fun q9 => absurd q9 (by decide +kernel))
    refine lv_iinc (v := 5) (lv' := [(2, .int 5), (4, .int 1), (5, .int 4), (3, .int (-1)), (0, .ref (p0 0)), (1, .int p1)]) hx hb dX4_fewestWith_73 hl (k := 3) rfl (by decide +kernel) (by decide) rfl (fun ls hl => ?_)
    refine lv_goto (tgt := 2) hx hb dX4_fewestWith_76 (by decide) ?_
    refine lv_iload_n hx hb dX4_fewestWith_2 rfl (lv_at hl 0 rfl) ?_
    refine lv_bipush (v := 8) hx hb dX4_fewestWith_3 (by decide +kernel) ?_
    refine lv_icmp_gt (tgt := 79) hx hb dX4_fewestWith_5 (by decide) (fun q9 => absurd q9 (by decide +kernel)) (fun _ => ?_)
    refine lv_iconst (v := (-1)) hx hb dX4_fewestWith_8 (by decide +kernel) ?_
    refine lv_istore_n (lv' := [(3, .int (-1)), (2, .int 5), (4, .int 1), (5, .int 4), (0, .ref (p0 0)), (1, .int p1)]) hx hb dX4_fewestWith_9 rfl hl (by decide) rfl (fun ls hl => ?_)
    refine lv_iconst (v := 0) hx hb dX4_fewestWith_10 (by decide +kernel) ?_
    refine lv_istore (lv' := [(4, .int 0), (3, .int (-1)), (2, .int 5), (5, .int 4), (0, .ref (p0 0)), (1, .int p1)]) hx hb dX4_fewestWith_11 hl (by decide) rfl (fun ls hl => ?_)
    refine lv_iload hx hb dX4_fewestWith_13 (lv_at hl 0 rfl) ?_
    refine lv_aload_n hx hb dX4_fewestWith_15 rfl (lv_at hl 4 rfl) ?_
    refine k_get (D := (dC, dI)) (ci := 4) (v := .int 1) (C := RX4) (T := TX4) (N := 6) hx hb hts hinX4 hown hK hP 0 rfl rfl 4 (by decide) w_0 rfl rfl dX4_fewestWith_16 ?_
    refine lv_icmp_ge (tgt := 67) hx hb dX4_fewestWith_19 (by decide) (fun q9 => absurd q9 (by decide +kernel)) (fun _ => ?_)
    refine lv_iload_n hx hb dX4_fewestWith_22 rfl (lv_at hl 2 rfl) ?_
    refine lv_aload_n hx hb dX4_fewestWith_23 rfl (lv_at hl 4 rfl) ?_
    refine k_get (D := (dC, dI)) (ci := 4) (v := .int 1) (C := RX4) (T := TX4) (N := 6) hx hb hts hinX4 hown hK hP 0 rfl rfl 4 (by decide) w_0 rfl rfl dX4_fewestWith_24 ?_
    refine lv_imul hx hb dX4_fewestWith_27 ?_
    refine k_int (v := 5) (by decide +kernel) ?_
    refine lv_iload hx hb dX4_fewestWith_28 (lv_at hl 0 rfl) ?_
    refine lv_iadd hx hb dX4_fewestWith_30 ?_
    refine k_int (v := 5) (by decide +kernel) ?_
    refine lv_istore (lv' := [(5, .int 5), (4, .int 0), (3, .int (-1)), (2, .int 5), (0, .ref (p0 0)), (1, .int p1)]) hx hb dX4_fewestWith_31 hl (by decide) rfl (fun ls hl => ?_)
    refine lv_aload_n hx hb dX4_fewestWith_33 rfl (lv_at hl 4 rfl) ?_
    refine k_get (D := (dC, dI)) (ci := 4) (v := .ref (p0 1)) (C := RX4) (T := TX4) (N := 6) hx hb hts hinX4 hown hK hP 0 rfl rfl 0 (by decide) w_1 rfl rfl dX4_fewestWith_34 ?_
    refine lv_iload hx hb dX4_fewestWith_37 (lv_at hl 0 rfl) ?_
    refine k_iald (v := 2147483647) hx hb hK hP 1 0 5 rfl rfl rfl (Nat.le_of_ble_eq_true rfl) (Nat.le_of_ble_eq_true rfl) rfl dX4_fewestWith_39 ?_
    refine lv_ldc (v := 2147483647) hx hb hown w_2 dX4_fewestWith_40 ?_
    refine lv_icmp_eq (tgt := 61) hx hb dX4_fewestWith_42 (by decide) (fun _ => ?_) (fun q9 => absurd q9 (by decide +kernel))
    refine lv_iinc (v := 1) (lv' := [(4, .int 1), (5, .int 5), (3, .int (-1)), (2, .int 5), (0, .ref (p0 0)), (1, .int p1)]) hx hb dX4_fewestWith_61 hl (k := 1) rfl (by decide +kernel) (by decide) rfl (fun ls hl => ?_)
    refine lv_goto (tgt := 13) hx hb dX4_fewestWith_64 (by decide) ?_
    refine lv_iload hx hb dX4_fewestWith_13 (lv_at hl 0 rfl) ?_
    refine lv_aload_n hx hb dX4_fewestWith_15 rfl (lv_at hl 4 rfl) ?_
    refine k_get (D := (dC, dI)) (ci := 4) (v := .int 1) (C := RX4) (T := TX4) (N := 6) hx hb hts hinX4 hown hK hP 0 rfl rfl 4 (by decide) w_0 rfl rfl dX4_fewestWith_16 ?_
    refine lv_icmp_ge (tgt := 67) hx hb dX4_fewestWith_19 (by decide) (fun _ => ?_) (fun q9 => absurd q9 (by decide +kernel))
    refine lv_iload_n hx hb dX4_fewestWith_67 rfl (lv_at hl 2 rfl) ?_
    refine lv_if_lt (tgt := 73) hx hb dX4_fewestWith_68 (by decide) (fun _ => ?_) (fun q9 => absurd q9 (by decide +kernel))
    refine lv_iinc (v := 6) (lv' := [(2, .int 6), (4, .int 1), (5, .int 5), (3, .int (-1)), (0, .ref (p0 0)), (1, .int p1)]) hx hb dX4_fewestWith_73 hl (k := 3) rfl (by decide +kernel) (by decide) rfl (fun ls hl => ?_)
    refine lv_goto (tgt := 2) hx hb dX4_fewestWith_76 (by decide) ?_
    refine lv_iload_n hx hb dX4_fewestWith_2 rfl (lv_at hl 0 rfl) ?_
    refine lv_bipush (v := 8) hx hb dX4_fewestWith_3 (by decide +kernel) ?_
    refine lv_icmp_gt (tgt := 79) hx hb dX4_fewestWith_5 (by decide) (fun q9 => absurd q9 (by decide +kernel)) (fun _ => ?_)
    refine lv_iconst (v := (-1)) hx hb dX4_fewestWith_8 (by decide +kernel) ?_
    refine lv_istore_n (lv' := [(3, .int (-1)), (2, .int 6), (4, .int 1), (5, .int 5), (0, .ref (p0 0)), (1, .int p1)]) hx hb dX4_fewestWith_9 rfl hl (by decide) rfl (fun ls hl => ?_)
    refine lv_iconst (v := 0) hx hb dX4_fewestWith_10 (by decide +kernel) ?_
    refine lv_istore (lv' := [(4, .int 0), (3, .int (-1)), (2, .int 6), (5, .int 5), (0, .ref (p0 0)), (1, .int p1)]) hx hb dX4_fewestWith_11 hl (by decide) rfl (fun ls hl => ?_)
    refine lv_iload hx hb dX4_fewestWith_13 (lv_at hl 0 rfl) ?_
    refine lv_aload_n hx hb dX4_fewestWith_15 rfl (lv_at hl 4 rfl) ?_
    refine k_get (D := (dC, dI)) (ci := 4) (v := .int 1) (C := RX4) (T := TX4) (N := 6) hx hb hts hinX4 hown hK hP 0 rfl rfl 4 (by decide) w_0 rfl rfl dX4_fewestWith_16 ?_
    refine lv_icmp_ge (tgt := 67) hx hb dX4_fewestWith_19 (by decide) (fun q9 => absurd q9 (by decide +kernel)) (fun _ => ?_)
    refine lv_iload_n hx hb dX4_fewestWith_22 rfl (lv_at hl 2 rfl) ?_
    refine lv_aload_n hx hb dX4_fewestWith_23 rfl (lv_at hl 4 rfl) ?_
    refine k_get (D := (dC, dI)) (ci := 4) (v := .int 1) (C := RX4) (T := TX4) (N := 6) hx hb hts hinX4 hown hK hP 0 rfl rfl 4 (by decide) w_0 rfl rfl dX4_fewestWith_24 ?_
    refine lv_imul hx hb dX4_fewestWith_27 ?_
    refine k_int (v := 6) (by decide +kernel) ?_
    refine lv_iload hx hb dX4_fewestWith_28 (lv_at hl 0 rfl) ?_
    refine lv_iadd hx hb dX4_fewestWith_30 ?_
    refine k_int (v := 6) (by decide +kernel) ?_
    refine lv_istore (lv' := [(5, .int 6), (4, .int 0), (3, .int (-1)), (2, .int 6), (0, .ref (p0 0)), (1, .int p1)]) hx hb dX4_fewestWith_31 hl (by decide) rfl (fun ls hl => ?_)
    refine lv_aload_n hx hb dX4_fewestWith_33 rfl (lv_at hl 4 rfl) ?_
    refine k_get (D := (dC, dI)) (ci := 4) (v := .ref (p0 1)) (C := RX4) (T := TX4) (N := 6) hx hb hts hinX4 hown hK hP 0 rfl rfl 0 (by decide) w_1 rfl rfl dX4_fewestWith_34 ?_
    refine lv_iload hx hb dX4_fewestWith_37 (lv_at hl 0 rfl) ?_
    refine k_iald (v := 2147483647) hx hb hK hP 1 0 6 rfl rfl rfl (Nat.le_of_ble_eq_true rfl) (Nat.le_of_ble_eq_true rfl) rfl dX4_fewestWith_39 ?_
    refine lv_ldc (v := 2147483647) hx hb hown w_2 dX4_fewestWith_40 ?_
    refine lv_icmp_eq (tgt := 61) hx hb dX4_fewestWith_42 (by decide) (fun _ => ?_) (fun q9 => absurd q9 (by decide +kernel))
    refine lv_iinc (v := 1) (lv' := [(4, .int 1), (5, .int 6), (3, .int (-1)), (2, .int 6), (0, .ref (p0 0)), (1, .int p1)]) hx hb dX4_fewestWith_61 hl (k := 1) rfl (by decide +kernel) (by decide) rfl (fun ls hl => ?_)
    refine lv_goto (tgt := 13) hx hb dX4_fewestWith_64 (by decide) ?_
    refine lv_iload hx hb dX4_fewestWith_13 (lv_at hl 0 rfl) ?_
    refine lv_aload_n hx hb dX4_fewestWith_15 rfl (lv_at hl 4 rfl) ?_
    refine k_get (D := (dC, dI)) (ci := 4) (v := .int 1) (C := RX4) (T := TX4) (N := 6) hx hb hts hinX4 hown hK hP 0 rfl rfl 4 (by decide) w_0 rfl rfl dX4_fewestWith_16 ?_
    refine lv_icmp_ge (tgt := 67) hx hb dX4_fewestWith_19 (by decide) (fun _ => ?_) (fun q9 => absurd q9 (by decide +kernel))
    refine lv_iload_n hx hb dX4_fewestWith_67 rfl (lv_at hl 2 rfl) ?_
    refine lv_if_lt (tgt := 73) hx hb dX4_fewestWith_68 (by decide) (fun _ => ?_) (fun q9 => absurd q9 (by decide +kernel))
    refine lv_iinc (v := 7) (lv' := [(2, .int 7), (4, .int 1), (5, .int 6), (3, .int (-1)), (0, .ref (p0 0)), (1, .int p1)]) hx hb dX4_fewestWith_73 hl (k := 3) rfl (by decide +kernel) (by decide) rfl (fun ls hl => ?_)
    refine lv_goto (tgt := 2) hx hb dX4_fewestWith_76 (by decide) ?_
    refine lv_iload_n hx hb dX4_fewestWith_2 rfl (lv_at hl 0 rfl) ?_
    refine lv_bipush (v := 8) hx hb dX4_fewestWith_3 (by decide +kernel) ?_
    refine lv_icmp_gt (tgt := 79) hx hb dX4_fewestWith_5 (by decide) (fun q9 => absurd q9 (by decide +kernel)) (fun _ => ?_)
    refine lv_iconst (v := (-1)) hx hb dX4_fewestWith_8 (by decide +kernel) ?_
    refine lv_istore_n (lv' := [(3, .int (-1)), (2, .int 7), (4, .int 1), (5, .int 6), (0, .ref (p0 0)), (1, .int p1)]) hx hb dX4_fewestWith_9 rfl hl (by decide) rfl (fun ls hl => ?_)
    refine lv_iconst (v := 0) hx hb dX4_fewestWith_10 (by decide +kernel) ?_
    refine lv_istore (lv' := [(4, .int 0), (3, .int (-1)), (2, .int 7), (5, .int 6), (0, .ref (p0 0)), (1, .int p1)]) hx hb dX4_fewestWith_11 hl (by decide) rfl (fun ls hl => ?_)
    refine lv_iload hx hb dX4_fewestWith_13 (lv_at hl 0 rfl) ?_
    refine lv_aload_n hx hb dX4_fewestWith_15 rfl (lv_at hl 4 rfl) ?_
    refine k_get (D := (dC, dI)) (ci := 4) (v := .int 1) (C := RX4) (T := TX4) (N := 6) hx hb hts hinX4 hown hK hP 0 rfl rfl 4 (by decide) w_0 rfl rfl dX4_fewestWith_16 ?_
    refine lv_icmp_ge (tgt := 67) hx hb dX4_fewestWith_19 (by decide) (fun q9 => absurd q9 (by decide +kernel)) (fun _ => ?_)
    refine lv_iload_n hx hb dX4_fewestWith_22 rfl (lv_at hl 2 rfl) ?_
    refine lv_aload_n hx hb dX4_fewestWith_23 rfl (lv_at hl 4 rfl) ?_
    refine k_get (D := (dC, dI)) (ci := 4) (v := .int 1) (C := RX4) (T := TX4) (N := 6) hx hb hts hinX4 hown hK hP 0 rfl rfl 4 (by decide) w_0 rfl rfl dX4_fewestWith_24 ?_
    refine lv_imul hx hb dX4_fewestWith_27 ?_
    refine k_int (v := 7) (by decide +kernel) ?_
    refine lv_iload hx hb dX4_fewestWith_28 (lv_at hl 0 rfl) ?_
    refine lv_iadd hx hb dX4_fewestWith_30 ?_
    refine k_int (v := 7) (by decide +kernel) ?_
    refine lv_istore (lv' := [(5, .int 7), (4, .int 0), (3, .int (-1)), (2, .int 7), (0, .ref (p0 0)), (1, .int p1)]) hx hb dX4_fewestWith_31 hl (by decide) rfl (fun ls hl => ?_)
    refine lv_aload_n hx hb dX4_fewestWith_33 rfl (lv_at hl 4 rfl) ?_
    refine k_get (D := (dC, dI)) (ci := 4) (v := .ref (p0 1)) (C := RX4) (T := TX4) (N := 6) hx hb hts hinX4 hown hK hP 0 rfl rfl 0 (by decide) w_1 rfl rfl dX4_fewestWith_34 ?_
    refine lv_iload hx hb dX4_fewestWith_37 (lv_at hl 0 rfl) ?_
    refine k_iald (v := 2147483647) hx hb hK hP 1 0 7 rfl rfl rfl (Nat.le_of_ble_eq_true rfl) (Nat.le_of_ble_eq_true rfl) rfl dX4_fewestWith_39 ?_
    refine lv_ldc (v := 2147483647) hx hb hown w_2 dX4_fewestWith_40 ?_
    refine lv_icmp_eq (tgt := 61) hx hb dX4_fewestWith_42 (by decide) (fun _ => ?_) (fun q9 => absurd q9 (by decide +kernel))
    refine lv_iinc (v := 1) (lv' := [(4, .int 1), (5, .int 7), (3, .int (-1)), (2, .int 7), (0, .ref (p0 0)), (1, .int p1)]) hx hb dX4_fewestWith_61 hl (k := 1) rfl (by decide +kernel) (by decide) rfl (fun ls hl => ?_)
    refine lv_goto (tgt := 13) hx hb dX4_fewestWith_64 (by decide) ?_
    refine lv_iload hx hb dX4_fewestWith_13 (lv_at hl 0 rfl) ?_
    refine lv_aload_n hx hb dX4_fewestWith_15 rfl (lv_at hl 4 rfl) ?_
    refine k_get (D := (dC, dI)) (ci := 4) (v := .int 1) (C := RX4) (T := TX4) (N := 6) hx hb hts hinX4 hown hK hP 0 rfl rfl 4 (by decide) w_0 rfl rfl dX4_fewestWith_16 ?_
    refine lv_icmp_ge (tgt := 67) hx hb dX4_fewestWith_19 (by decide) (fun _ => ?_) (fun q9 => absurd q9 (by decide +kernel))
    refine lv_iload_n hx hb dX4_fewestWith_67 rfl (lv_at hl 2 rfl) ?_
    refine lv_if_lt (tgt := 73) hx hb dX4_fewestWith_68 (by decide) (fun _ => ?_) (fun q9 => absurd q9 (by decide +kernel))
    refine lv_iinc (v := 8) (lv' := [(2, .int 8), (4, .int 1), (5, .int 7), (3, .int (-1)), (0, .ref (p0 0)), (1, .int p1)]) hx hb dX4_fewestWith_73 hl (k := 3) rfl (by decide +kernel) (by decide) rfl (fun ls hl => ?_)
    refine lv_goto (tgt := 2) hx hb dX4_fewestWith_76 (by decide) ?_
    refine lv_iload_n hx hb dX4_fewestWith_2 rfl (lv_at hl 0 rfl) ?_
    refine lv_bipush (v := 8) hx hb dX4_fewestWith_3 (by decide +kernel) ?_
    refine lv_icmp_gt (tgt := 79) hx hb dX4_fewestWith_5 (by decide) (fun q9 => absurd q9 (by decide +kernel)) (fun _ => ?_)
    refine lv_iconst (v := (-1)) hx hb dX4_fewestWith_8 (by decide +kernel) ?_
    refine lv_istore_n (lv' := [(3, .int (-1)), (2, .int 8), (4, .int 1), (5, .int 7), (0, .ref (p0 0)), (1, .int p1)]) hx hb dX4_fewestWith_9 rfl hl (by decide) rfl (fun ls hl => ?_)
    refine lv_iconst (v := 0) hx hb dX4_fewestWith_10 (by decide +kernel) ?_
    refine lv_istore (lv' := [(4, .int 0), (3, .int (-1)), (2, .int 8), (5, .int 7), (0, .ref (p0 0)), (1, .int p1)]) hx hb dX4_fewestWith_11 hl (by decide) rfl (fun ls hl => ?_)
    refine lv_iload hx hb dX4_fewestWith_13 (lv_at hl 0 rfl) ?_
    refine lv_aload_n hx hb dX4_fewestWith_15 rfl (lv_at hl 4 rfl) ?_
    refine k_get (D := (dC, dI)) (ci := 4) (v := .int 1) (C := RX4) (T := TX4) (N := 6) hx hb hts hinX4 hown hK hP 0 rfl rfl 4 (by decide) w_0 rfl rfl dX4_fewestWith_16 ?_
    refine lv_icmp_ge (tgt := 67) hx hb dX4_fewestWith_19 (by decide) (fun q9 => absurd q9 (by decide +kernel)) (fun _ => ?_)
    refine lv_iload_n hx hb dX4_fewestWith_22 rfl (lv_at hl 2 rfl) ?_
    refine lv_aload_n hx hb dX4_fewestWith_23 rfl (lv_at hl 4 rfl) ?_
    refine k_get (D := (dC, dI)) (ci := 4) (v := .int 1) (C := RX4) (T := TX4) (N := 6) hx hb hts hinX4 hown hK hP 0 rfl rfl 4 (by decide) w_0 rfl rfl dX4_fewestWith_24 ?_
    refine lv_imul hx hb dX4_fewestWith_27 ?_
    refine k_int (v := 8) (by decide +kernel) ?_
    refine lv_iload hx hb dX4_fewestWith_28 (lv_at hl 0 rfl) ?_
    refine lv_iadd hx hb dX4_fewestWith_30 ?_
    refine k_int (v := 8) (by decide +kernel) ?_
    refine lv_istore (lv' := [(5, .int 8), (4, .int 0), (3, .int (-1)), (2, .int 8), (0, .ref (p0 0)), (1, .int p1)]) hx hb dX4_fewestWith_31 hl (by decide) rfl (fun ls hl => ?_)
    refine lv_aload_n hx hb dX4_fewestWith_33 rfl (lv_at hl 4 rfl) ?_
    refine k_get (D := (dC, dI)) (ci := 4) (v := .ref (p0 1)) (C := RX4) (T := TX4) (N := 6) hx hb hts hinX4 hown hK hP 0 rfl rfl 0 (by decide) w_1 rfl rfl dX4_fewestWith_34 ?_
    refine lv_iload hx hb dX4_fewestWith_37 (lv_at hl 0 rfl) ?_
    refine k_iald (v := 2147483647) hx hb hK hP 1 0 8 rfl rfl rfl (Nat.le_of_ble_eq_true rfl) (Nat.le_of_ble_eq_true rfl) rfl dX4_fewestWith_39 ?_
    refine lv_ldc (v := 2147483647) hx hb hown w_2 dX4_fewestWith_40 ?_
    refine lv_icmp_eq (tgt := 61) hx hb dX4_fewestWith_42 (by decide) (fun _ => ?_) (fun q9 => absurd q9 (by decide +kernel))
    refine lv_iinc (v := 1) (lv' := [(4, .int 1), (5, .int 8), (3, .int (-1)), (2, .int 8), (0, .ref (p0 0)), (1, .int p1)]) hx hb dX4_fewestWith_61 hl (k := 1) rfl (by decide +kernel) (by decide) rfl (fun ls hl => ?_)
    refine lv_goto (tgt := 13) hx hb dX4_fewestWith_64 (by decide) ?_
    refine lv_iload hx hb dX4_fewestWith_13 (lv_at hl 0 rfl) ?_
    refine lv_aload_n hx hb dX4_fewestWith_15 rfl (lv_at hl 4 rfl) ?_
    refine k_get (D := (dC, dI)) (ci := 4) (v := .int 1) (C := RX4) (T := TX4) (N := 6) hx hb hts hinX4 hown hK hP 0 rfl rfl 4 (by decide) w_0 rfl rfl dX4_fewestWith_16 ?_
    refine lv_icmp_ge (tgt := 67) hx hb dX4_fewestWith_19 (by decide) (fun _ => ?_) (fun q9 => absurd q9 (by decide +kernel))
    refine lv_iload_n hx hb dX4_fewestWith_67 rfl (lv_at hl 2 rfl) ?_
    refine lv_if_lt (tgt := 73) hx hb dX4_fewestWith_68 (by decide) (fun _ => ?_) (fun q9 => absurd q9 (by decide +kernel))
    refine lv_iinc (v := 9) (lv' := [(2, .int 9), (4, .int 1), (5, .int 8), (3, .int (-1)), (0, .ref (p0 0)), (1, .int p1)]) hx hb dX4_fewestWith_73 hl (k := 3) rfl (by decide +kernel) (by decide) rfl (fun ls hl => ?_)
    refine lv_goto (tgt := 2) hx hb dX4_fewestWith_76 (by decide) ?_
    refine lv_iload_n hx hb dX4_fewestWith_2 rfl (lv_at hl 0 rfl) ?_
    refine lv_bipush (v := 8) hx hb dX4_fewestWith_3 (by decide +kernel) ?_
    refine lv_icmp_gt (tgt := 79) hx hb dX4_fewestWith_5 (by decide) (fun _ => ?_) (fun q9 => absurd q9 (by decide +kernel))
    refine lv_iconst (v := (-1)) hx hb dX4_fewestWith_79 (by decide +kernel) ?_
    exact k_ri B hP hD hS dX4_fewestWith_80 (0, (fun _ => 0)) [0, 1] rfl rfl rfl (Nat.le_of_ble_eq_true rfl) (Nat.le_of_ble_eq_true rfl) ⟨c_1, rfl⟩
  · have c_1 : 0 = p1.toInt := k_eqT (by decide +kernel) rfl c_1
    refine lv_aload_n hx hb dX4_fewestWith_53 rfl (lv_at hl 4 rfl) ?_
    refine lv_iload_n hx hb dX4_fewestWith_54 rfl (lv_at hl 2 rfl) ?_
    refine lv_iload hx hb dX4_fewestWith_55 (lv_at hl 0 rfl) ?_
    refine k_ci (wc := []) (wr := [((p0 0), .inr (4, [.ref (p0 1), .ref (p0 2), .ref (p0 3), .ref (p2 1), .int 1, .int 1])), ((p0 1), .inl (cI, 9216, .inl (upd (fun k => if 0 ≤ k ∧ k < 9 then 2147483647 else 0) 0 0)))]) (fun hPc hDc hFc => va_runV (As := [.int (-1), .int 0]) (rest := []) ⟨hx, hb, hml, hown, hts⟩ (c_X4_better_v0 l dC dI cI cJ cZ cM p0 H.size) (cwV 2 hts gX4_fewestWith_X4_better rfl rfl rfl (by decide +kernel) ⟨(Nat.le_of_ble_eq_true rfl), (Nat.le_of_ble_eq_true rfl)⟩) (k_pV hPc hDc hK hN hC hS hFc hP (q0 := 0) (ci := 4) rfl rfl) rfl rfl hl.1 rfl (lv_room (Nat.le_of_ble_eq_true rfl)) dX4_fewestWith_57 ⟨(Nat.le_of_ble_eq_true rfl), (Nat.le_of_ble_eq_true rfl)⟩) hP hD hS hA [] [0, 1] rfl rfl rfl rfl (by decide) (fun _ => rfl) 0 0 rfl rfl (fun r_2 u_3 H locs hw hP hD hS => ?_)
    obtain rfl : r_2 = 0 := hw
    have hP : va_P (dC, dI) vwCl [((p0 0), .inr (4, [.ref (p0 1), .ref (p0 2), .ref (p0 3), .ref (p2 1), .int 1, .int 1])), ((p0 1), .inl (cI, 9216, .inl (upd (fun k => if 0 ≤ k ∧ k < 9 then 2147483647 else 0) 0 0)))] H := hP
    have hD : va_D A [((p0 0), .inr (4, [.ref (p0 1), .ref (p0 2), .ref (p0 3), .ref (p2 1), .int 1, .int 1])), ((p0 1), .inl (cI, 9216, .inl (upd (fun k => if 0 ≤ k ∧ k < 9 then 2147483647 else 0) 0 0)))] := hD
    refine lv_istore_n (lv' := [(3, .int 0), (5, .int 0), (4, .int 0), (2, .int 0), (0, .ref (p0 0)), (1, .int p1)]) hx hb dX4_fewestWith_60 rfl hl (by decide) rfl (fun ls hl => ?_)
    refine lv_iinc (v := 1) (lv' := [(4, .int 1), (3, .int 0), (5, .int 0), (2, .int 0), (0, .ref (p0 0)), (1, .int p1)]) hx hb dX4_fewestWith_61 hl (k := 2) rfl (by decide +kernel) (by decide) rfl (fun ls hl => ?_)
    refine lv_goto (tgt := 13) hx hb dX4_fewestWith_64 (by decide) ?_
    refine lv_iload hx hb dX4_fewestWith_13 (lv_at hl 0 rfl) ?_
    refine lv_aload_n hx hb dX4_fewestWith_15 rfl (lv_at hl 4 rfl) ?_
    refine k_get (D := (dC, dI)) (ci := 4) (v := .int 1) (C := RX4) (T := TX4) (N := 6) hx hb hts hinX4 hown hK hP 0 rfl rfl 4 (by decide) w_0 rfl rfl dX4_fewestWith_16 ?_
    refine lv_icmp_ge (tgt := 67) hx hb dX4_fewestWith_19 (by decide) (fun _ => ?_) (fun q9 => absurd q9 (by decide +kernel))
    refine lv_iload_n hx hb dX4_fewestWith_67 rfl (lv_at hl 1 rfl) ?_
    refine lv_if_lt (tgt := 73) hx hb dX4_fewestWith_68 (by decide) (fun q9 => absurd q9 (by decide +kernel)) (fun _ => ?_)
    refine lv_iload_n hx hb dX4_fewestWith_71 rfl (lv_at hl 1 rfl) ?_
    exact k_ri B hP hD hS dX4_fewestWith_72 (1, (fun _ => 0)) [0, 1] rfl rfl rfl (Nat.le_of_ble_eq_true rfl) (Nat.le_of_ble_eq_true rfl) ⟨c_1, rfl⟩
set_option maxHeartbeats 4000000 in
set_option maxRecDepth 100000 in
theorem c_X4_wishOnTheWay_v0 (l : Launch) (dC : Nat → ClassId) (dI : Nat → Nat → Nat) (cI cJ cZ cM : ClassId) (p0 : Nat → Nat) (p1 : Int32) (p2 : Nat → Nat)   : k_Mi l yX4_wishOnTheWay wsX4_wishOnTheWay ({ frames := 2, cells := 0, slots := 0, locals := 61 }) (dC, dI) vwCl (tyy cI cJ cZ cM) [((p0 0), .inr (4, [.ref (p0 1), .ref (p0 2), .ref (p0 3), .ref (p2 1), .int 1, .int 1]))] [.ref (p0 0), .int 0, .int p1] 0 0 (fun (u9 : Unit) => [((p0 0), .inr (4, [.ref (p0 1), .ref (p0 2), .ref (p0 3), .ref (p2 1), .int 1, .int 1]))]) (fun (r9 : Int32) (u9 : Unit) => r9 = (-1)) := by
  refine fun sz => k_enter (cc := cX4_wishOnTheWay) (maxL := 6) (ret := some (.int)) (Qc := fun A => va_Qi (fun (r9 : Int32) (u9 : Unit) => r9 = (-1)) (fun u => k_B (dC, dI) vwCl (tyy cI cJ cZ cM) A ((fun (u9 : Unit) => [((p0 0), .inr (4, [.ref (p0 1), .ref (p0 2), .ref (p0 3), .ref (p2 1), .int 1, .int 1]))]) u)) A) sz (by decide +kernel) rfl (Nat.le_of_ble_eq_true rfl) (fun p e s m args below meth c A ls H locs B hP hD hS hl => ?_)
  obtain ⟨hx, hb, hml, hown, hts, hr, hlk, hnm, hK, hA, hN, hC⟩ := id B
  have hown : s.vm.findClass RX4 = some m.cls := hown
  have hl : lv_has ls 6 [(0, .ref (p0 0)), (1, .int 0), (2, .int p1)] := hl
  refine lv_aload_n hx hb dX4_wishOnTheWay_0 rfl (lv_at hl 0 rfl) ?_
  refine lv_iload_n hx hb dX4_wishOnTheWay_1 rfl (lv_at hl 1 rfl) ?_
  refine k_ci (wc := [((p0 0), .inr (4, [.ref (p0 1), .ref (p0 2), .ref (p0 3), .ref (p2 1), .int 1, .int 1]))]) (wr := []) (fun hPc hDc hFc => va_runV (As := [.int 0]) (rest := []) ⟨hx, hb, hml, hown, hts⟩ (c_X4_wishesOf_v0 l dC dI cI cJ cZ cM p0 p2 H.size) (cwV 1 hts gX4_wishOnTheWay_X4_wishesOf rfl rfl rfl (by decide +kernel) ⟨(Nat.le_of_ble_eq_true rfl), (Nat.le_of_ble_eq_true rfl)⟩) (k_pV hPc hDc hK hN hC hS hFc hP (q0 := 0) (ci := 4) rfl rfl) rfl rfl hl.1 rfl (lv_room (Nat.le_of_ble_eq_true rfl)) dX4_wishOnTheWay_2 ⟨(Nat.le_of_ble_eq_true rfl), (Nat.le_of_ble_eq_true rfl)⟩) hP hD hS hA [0] [] rfl rfl rfl rfl (by decide) (fun _ => rfl) 0 0 rfl rfl (fun r_1 u_2 H locs hw hP hD hS => ?_)
  obtain rfl : r_1 = 0 := hw
  have hP : va_P (dC, dI) vwCl [((p0 0), .inr (4, [.ref (p0 1), .ref (p0 2), .ref (p0 3), .ref (p2 1), .int 1, .int 1]))] H := hP
  have hD : va_D A [((p0 0), .inr (4, [.ref (p0 1), .ref (p0 2), .ref (p0 3), .ref (p2 1), .int 1, .int 1]))] := hD
  refine lv_istore_n (lv' := [(3, .int 0), (0, .ref (p0 0)), (1, .int 0), (2, .int p1)]) hx hb dX4_wishOnTheWay_5 rfl hl (by decide) rfl (fun ls hl => ?_)
  refine lv_iload_n hx hb dX4_wishOnTheWay_6 rfl (lv_at hl 3 rfl) ?_
  refine lv_if_lt (tgt := 15) hx hb dX4_wishOnTheWay_7 (by decide) (fun c_3 => ?_) (fun c_3 => ?_)
  · have c_3 : p1.toInt < 0 := k_ltT rfl (by decide +kernel) c_3
    refine lv_iconst (v := (-1)) hx hb dX4_wishOnTheWay_15 (by decide +kernel) ?_
    exact k_ri B hP hD hS dX4_wishOnTheWay_16 () [0] rfl rfl rfl (Nat.le_of_ble_eq_true rfl) (Nat.le_of_ble_eq_true rfl) rfl
  · have c_3 : 0 ≤ p1.toInt := k_ltF rfl (by decide +kernel) c_3
    refine lv_iload_n hx hb dX4_wishOnTheWay_10 rfl (lv_at hl 3 rfl) ?_
    refine lv_iload_n hx hb dX4_wishOnTheWay_11 rfl (lv_at hl 0 rfl) ?_
    refine lv_icmp_lt (tgt := 17) hx hb dX4_wishOnTheWay_12 (by decide) (fun c_4 => ?_) (fun c_4 => ?_)
    · have c_4 : p1.toInt < 0 := k_ltT rfl (by decide +kernel) c_4
      exfalso; omega
    · have c_4 : 0 ≤ p1.toInt := k_ltF rfl (by decide +kernel) c_4
      refine lv_iconst (v := (-1)) hx hb dX4_wishOnTheWay_15 (by decide +kernel) ?_
      exact k_ri B hP hD hS dX4_wishOnTheWay_16 () [0] rfl rfl rfl (Nat.le_of_ble_eq_true rfl) (Nat.le_of_ble_eq_true rfl) rfl
set_option maxHeartbeats 4000000 in
set_option maxRecDepth 100000 in
theorem c_X6_fewest_v0 (l : Launch) (dC : Nat → ClassId) (dI : Nat → Nat → Nat) (cI cJ cZ cM : ClassId) (p0 : Nat) (p1 : Int32) (p2 : Int32) (p3 : Nat → Nat)   : k_Mi l yX6_fewest wsX6_fewest ({ frames := 6, cells := 4, slots := 9230, locals := 154 }) (dC, dI) vwCl (tyy cI cJ cZ cM) [(p0, .inr (6, [.ref (p3 0), .int 0, .ref (p3 1), .ref (p3 14), .ref (p3 27), .ref (p3 28), .ref (p3 29), .ref (p3 30), .ref (p3 54), .null, .int 1, .int 1, .int 999, .ref (p3 61), .ref (p3 62), .ref (p3 63), .ref (p3 60)])), ((p3 28), .inr (0, [.int 0, .int 0, .int 0, .int 0])), ((p3 1), .inr (5, [.ref (p3 2), .ref (p3 3), .ref (p3 4), .ref (p3 5), .ref (p3 6), .ref (p3 7), .ref (p3 8), .ref (p3 9), .ref (p3 10), .ref (p3 11), .ref (p3 12), .ref (p3 13), .int 0, .int 0, .int 0, .int 0, .int 0, .int 100, .int 0, .int 0])), ((p3 12), .inl (cI, 3, .inl (fun _ => 0))), ((p3 11), .inl (cI, 3, .inl (fun _ => 0)))] [.ref p0, .int p1, .int p2] 4 9230 (fun (u9 : (Nat × (Nat → Nat))) => match u9.1 with | 0 => [(p0, .inr (6, [.ref (p3 0), .int 0, .ref (p3 1), .ref (p3 14), .ref (p3 27), .ref (p3 28), .ref (p3 29), .ref (p3 30), .ref (p3 54), .ref (u9.2 2), .int 1, .int 1, .int 999, .ref (p3 61), .ref (p3 62), .ref (p3 63), .ref (p3 60)])), ((p3 28), .inr (0, [.int 0, .int 0, .int 0, .int 0])), ((p3 1), .inr (5, [.ref (p3 2), .ref (p3 3), .ref (p3 4), .ref (p3 5), .ref (p3 6), .ref (p3 7), .ref (p3 8), .ref (p3 9), .ref (p3 10), .ref (p3 11), .ref (p3 12), .ref (p3 13), .int 0, .int 0, .int 0, .int 0, .int 0, .int 100, .int 0, .int 0])), ((p3 12), .inl (cI, 3, .inl (fun _ => 0))), ((p3 11), .inl (cI, 3, .inl (fun _ => 0))), ((u9.2 0), .inr (0, [.int 0, .int 0, .int 0, .int 0])), ((u9.2 1), .inr (0, [.int 0, .int 0, .int 0, .int 0])), ((u9.2 2), .inr (4, [.ref (u9.2 3), .ref (u9.2 0), .ref (u9.2 1), .ref (p3 1), .int 1, .int 1])), ((u9.2 3), .inl (cI, 9216, .inl (upd (fun k => if 0 ≤ k ∧ k < 9 then 2147483647 else 0) 0 0)))] | 1 => [(p0, .inr (6, [.ref (p3 0), .int 0, .ref (p3 1), .ref (p3 14), .ref (p3 27), .ref (p3 28), .ref (p3 29), .ref (p3 30), .ref (p3 54), .ref (u9.2 3), .int 1, .int 1, .int 999, .ref (p3 61), .ref (p3 62), .ref (p3 63), .ref (p3 60)])), ((p3 28), .inr (0, [.int 0, .int 0, .int 0, .int 0])), ((p3 1), .inr (5, [.ref (p3 2), .ref (p3 3), .ref (p3 4), .ref (p3 5), .ref (p3 6), .ref (p3 7), .ref (p3 8), .ref (p3 9), .ref (p3 10), .ref (p3 11), .ref (p3 12), .ref (p3 13), .int 0, .int 0, .int 0, .int 0, .int 0, .int 100, .int 0, .int 0])), ((p3 12), .inl (cI, 3, .inl (fun _ => 0))), ((p3 11), .inl (cI, 3, .inl (fun _ => 0))), ((u9.2 0), .inr (0, [.int 0, .int 0, .int 0, .int 0])), ((u9.2 1), .inr (0, [.int 0, .int 0, .int 0, .int 0])), ((u9.2 2), .inl (cI, 9216, .inl (upd (fun k => if 0 ≤ k ∧ k < 9 then 2147483647 else 0) 0 0))), ((u9.2 3), .inr (4, [.ref (u9.2 2), .ref (u9.2 0), .ref (u9.2 1), .ref (p3 1), .int 1, .int 1]))] | 2 => [(p0, .inr (6, [.ref (p3 0), .int 0, .ref (p3 1), .ref (p3 14), .ref (p3 27), .ref (p3 28), .ref (p3 29), .ref (p3 30), .ref (p3 54), .ref (u9.2 2), .int 1, .int 1, .int 999, .ref (p3 61), .ref (p3 62), .ref (p3 63), .ref (p3 60)])), ((p3 28), .inr (0, [.int 0, .int 0, .int 0, .int 0])), ((p3 1), .inr (5, [.ref (p3 2), .ref (p3 3), .ref (p3 4), .ref (p3 5), .ref (p3 6), .ref (p3 7), .ref (p3 8), .ref (p3 9), .ref (p3 10), .ref (p3 11), .ref (p3 12), .ref (p3 13), .int 0, .int 0, .int 0, .int 0, .int 0, .int 100, .int 0, .int 0])), ((p3 12), .inl (cI, 3, .inl (fun _ => 0))), ((p3 11), .inl (cI, 3, .inl (fun _ => 0))), ((u9.2 0), .inr (0, [.int 0, .int 0, .int 0, .int 0])), ((u9.2 1), .inr (0, [.int 0, .int 0, .int 0, .int 0])), ((u9.2 2), .inr (4, [.ref (u9.2 3), .ref (u9.2 0), .ref (u9.2 1), .ref (p3 1), .int 1, .int 1])), ((u9.2 3), .inl (cI, 9216, .inl (upd (fun k => if 0 ≤ k ∧ k < 9 then 2147483647 else 0) 0 0)))] | 3 => [(p0, .inr (6, [.ref (p3 0), .int 0, .ref (p3 1), .ref (p3 14), .ref (p3 27), .ref (p3 28), .ref (p3 29), .ref (p3 30), .ref (p3 54), .ref (u9.2 3), .int 1, .int 1, .int 999, .ref (p3 61), .ref (p3 62), .ref (p3 63), .ref (p3 60)])), ((p3 28), .inr (0, [.int 0, .int 0, .int 0, .int 0])), ((p3 1), .inr (5, [.ref (p3 2), .ref (p3 3), .ref (p3 4), .ref (p3 5), .ref (p3 6), .ref (p3 7), .ref (p3 8), .ref (p3 9), .ref (p3 10), .ref (p3 11), .ref (p3 12), .ref (p3 13), .int 0, .int 0, .int 0, .int 0, .int 0, .int 100, .int 0, .int 0])), ((p3 12), .inl (cI, 3, .inl (fun _ => 0))), ((p3 11), .inl (cI, 3, .inl (fun _ => 0))), ((u9.2 0), .inr (0, [.int 0, .int 0, .int 0, .int 0])), ((u9.2 1), .inr (0, [.int 0, .int 0, .int 0, .int 0])), ((u9.2 2), .inl (cI, 9216, .inl (upd (fun k => if 0 ≤ k ∧ k < 9 then 2147483647 else 0) 0 0))), ((u9.2 3), .inr (4, [.ref (u9.2 2), .ref (u9.2 0), .ref (u9.2 1), .ref (p3 1), .int 1, .int 1]))] | 4 => [(p0, .inr (6, [.ref (p3 0), .int 0, .ref (p3 1), .ref (p3 14), .ref (p3 27), .ref (p3 28), .ref (p3 29), .ref (p3 30), .ref (p3 54), .ref (u9.2 2), .int 1, .int 1, .int 999, .ref (p3 61), .ref (p3 62), .ref (p3 63), .ref (p3 60)])), ((p3 28), .inr (0, [.int 0, .int 0, .int 0, .int 0])), ((p3 1), .inr (5, [.ref (p3 2), .ref (p3 3), .ref (p3 4), .ref (p3 5), .ref (p3 6), .ref (p3 7), .ref (p3 8), .ref (p3 9), .ref (p3 10), .ref (p3 11), .ref (p3 12), .ref (p3 13), .int 0, .int 0, .int 0, .int 0, .int 0, .int 100, .int 0, .int 0])), ((p3 12), .inl (cI, 3, .inl (fun _ => 0))), ((p3 11), .inl (cI, 3, .inl (fun _ => 0))), ((u9.2 0), .inr (0, [.int 0, .int 0, .int 0, .int 0])), ((u9.2 1), .inr (0, [.int 0, .int 0, .int 0, .int 0])), ((u9.2 2), .inr (4, [.ref (u9.2 3), .ref (u9.2 0), .ref (u9.2 1), .ref (p3 1), .int 1, .int 1])), ((u9.2 3), .inl (cI, 9216, .inl (upd (fun k => if 0 ≤ k ∧ k < 9 then 2147483647 else 0) 0 0)))] | 5 => [(p0, .inr (6, [.ref (p3 0), .int 0, .ref (p3 1), .ref (p3 14), .ref (p3 27), .ref (p3 28), .ref (p3 29), .ref (p3 30), .ref (p3 54), .ref (u9.2 3), .int 1, .int 1, .int 999, .ref (p3 61), .ref (p3 62), .ref (p3 63), .ref (p3 60)])), ((p3 28), .inr (0, [.int 0, .int 0, .int 0, .int 0])), ((p3 1), .inr (5, [.ref (p3 2), .ref (p3 3), .ref (p3 4), .ref (p3 5), .ref (p3 6), .ref (p3 7), .ref (p3 8), .ref (p3 9), .ref (p3 10), .ref (p3 11), .ref (p3 12), .ref (p3 13), .int 0, .int 0, .int 0, .int 0, .int 0, .int 100, .int 0, .int 0])), ((p3 12), .inl (cI, 3, .inl (fun _ => 0))), ((p3 11), .inl (cI, 3, .inl (fun _ => 0))), ((u9.2 0), .inr (0, [.int 0, .int 0, .int 0, .int 0])), ((u9.2 1), .inr (0, [.int 0, .int 0, .int 0, .int 0])), ((u9.2 2), .inl (cI, 9216, .inl (upd (fun k => if 0 ≤ k ∧ k < 9 then 2147483647 else 0) 0 0))), ((u9.2 3), .inr (4, [.ref (u9.2 2), .ref (u9.2 0), .ref (u9.2 1), .ref (p3 1), .int 1, .int 1]))] | _ => []) (fun (r9 : Int32) (u9 : (Nat × (Nat → Nat))) => match u9.1 with | 0 => (¬ 0 = p1.toInt) ∧ r9 = (-1) | 1 => (0 = p1.toInt) ∧ (p2.toInt = 0) ∧ r9 = 0 | 2 => (0 = p1.toInt) ∧ (p2.toInt = 1) ∧ r9 = 0 | 3 => (0 = p1.toInt) ∧ (p2.toInt = 2) ∧ r9 = 0 | 4 => (0 = p1.toInt) ∧ (p2.toInt < 0 ∨ 2 < p2.toInt) ∧ (p2.toInt < 10) ∧ r9 = (-1) | 5 => (0 = p1.toInt) ∧ (p2.toInt < 0 ∨ 2 < p2.toInt) ∧ (10 ≤ p2.toInt) ∧ r9 = (-1) | _ => False) := by
  refine fun sz => k_enter (cc := cX6_fewest) (maxL := 5) (ret := some (.int)) (Qc := fun A => va_Qi (fun (r9 : Int32) (u9 : (Nat × (Nat → Nat))) => match u9.1 with | 0 => (¬ 0 = p1.toInt) ∧ r9 = (-1) | 1 => (0 = p1.toInt) ∧ (p2.toInt = 0) ∧ r9 = 0 | 2 => (0 = p1.toInt) ∧ (p2.toInt = 1) ∧ r9 = 0 | 3 => (0 = p1.toInt) ∧ (p2.toInt = 2) ∧ r9 = 0 | 4 => (0 = p1.toInt) ∧ (p2.toInt < 0 ∨ 2 < p2.toInt) ∧ (p2.toInt < 10) ∧ r9 = (-1) | 5 => (0 = p1.toInt) ∧ (p2.toInt < 0 ∨ 2 < p2.toInt) ∧ (10 ≤ p2.toInt) ∧ r9 = (-1) | _ => False) (fun u => k_B (dC, dI) vwCl (tyy cI cJ cZ cM) A ((fun (u9 : (Nat × (Nat → Nat))) => match u9.1 with | 0 => [(p0, .inr (6, [.ref (p3 0), .int 0, .ref (p3 1), .ref (p3 14), .ref (p3 27), .ref (p3 28), .ref (p3 29), .ref (p3 30), .ref (p3 54), .ref (u9.2 2), .int 1, .int 1, .int 999, .ref (p3 61), .ref (p3 62), .ref (p3 63), .ref (p3 60)])), ((p3 28), .inr (0, [.int 0, .int 0, .int 0, .int 0])), ((p3 1), .inr (5, [.ref (p3 2), .ref (p3 3), .ref (p3 4), .ref (p3 5), .ref (p3 6), .ref (p3 7), .ref (p3 8), .ref (p3 9), .ref (p3 10), .ref (p3 11), .ref (p3 12), .ref (p3 13), .int 0, .int 0, .int 0, .int 0, .int 0, .int 100, .int 0, .int 0])), ((p3 12), .inl (cI, 3, .inl (fun _ => 0))), ((p3 11), .inl (cI, 3, .inl (fun _ => 0))), ((u9.2 0), .inr (0, [.int 0, .int 0, .int 0, .int 0])), ((u9.2 1), .inr (0, [.int 0, .int 0, .int 0, .int 0])), ((u9.2 2), .inr (4, [.ref (u9.2 3), .ref (u9.2 0), .ref (u9.2 1), .ref (p3 1), .int 1, .int 1])), ((u9.2 3), .inl (cI, 9216, .inl (upd (fun k => if 0 ≤ k ∧ k < 9 then 2147483647 else 0) 0 0)))] | 1 => [(p0, .inr (6, [.ref (p3 0), .int 0, .ref (p3 1), .ref (p3 14), .ref (p3 27), .ref (p3 28), .ref (p3 29), .ref (p3 30), .ref (p3 54), .ref (u9.2 3), .int 1, .int 1, .int 999, .ref (p3 61), .ref (p3 62), .ref (p3 63), .ref (p3 60)])), ((p3 28), .inr (0, [.int 0, .int 0, .int 0, .int 0])), ((p3 1), .inr (5, [.ref (p3 2), .ref (p3 3), .ref (p3 4), .ref (p3 5), .ref (p3 6), .ref (p3 7), .ref (p3 8), .ref (p3 9), .ref (p3 10), .ref (p3 11), .ref (p3 12), .ref (p3 13), .int 0, .int 0, .int 0, .int 0, .int 0, .int 100, .int 0, .int 0])), ((p3 12), .inl (cI, 3, .inl (fun _ => 0))), ((p3 11), .inl (cI, 3, .inl (fun _ => 0))), ((u9.2 0), .inr (0, [.int 0, .int 0, .int 0, .int 0])), ((u9.2 1), .inr (0, [.int 0, .int 0, .int 0, .int 0])), ((u9.2 2), .inl (cI, 9216, .inl (upd (fun k => if 0 ≤ k ∧ k < 9 then 2147483647 else 0) 0 0))), ((u9.2 3), .inr (4, [.ref (u9.2 2), .ref (u9.2 0), .ref (u9.2 1), .ref (p3 1), .int 1, .int 1]))] | 2 => [(p0, .inr (6, [.ref (p3 0), .int 0, .ref (p3 1), .ref (p3 14), .ref (p3 27), .ref (p3 28), .ref (p3 29), .ref (p3 30), .ref (p3 54), .ref (u9.2 2), .int 1, .int 1, .int 999, .ref (p3 61), .ref (p3 62), .ref (p3 63), .ref (p3 60)])), ((p3 28), .inr (0, [.int 0, .int 0, .int 0, .int 0])), ((p3 1), .inr (5, [.ref (p3 2), .ref (p3 3), .ref (p3 4), .ref (p3 5), .ref (p3 6), .ref (p3 7), .ref (p3 8), .ref (p3 9), .ref (p3 10), .ref (p3 11), .ref (p3 12), .ref (p3 13), .int 0, .int 0, .int 0, .int 0, .int 0, .int 100, .int 0, .int 0])), ((p3 12), .inl (cI, 3, .inl (fun _ => 0))), ((p3 11), .inl (cI, 3, .inl (fun _ => 0))), ((u9.2 0), .inr (0, [.int 0, .int 0, .int 0, .int 0])), ((u9.2 1), .inr (0, [.int 0, .int 0, .int 0, .int 0])), ((u9.2 2), .inr (4, [.ref (u9.2 3), .ref (u9.2 0), .ref (u9.2 1), .ref (p3 1), .int 1, .int 1])), ((u9.2 3), .inl (cI, 9216, .inl (upd (fun k => if 0 ≤ k ∧ k < 9 then 2147483647 else 0) 0 0)))] | 3 => [(p0, .inr (6, [.ref (p3 0), .int 0, .ref (p3 1), .ref (p3 14), .ref (p3 27), .ref (p3 28), .ref (p3 29), .ref (p3 30), .ref (p3 54), .ref (u9.2 3), .int 1, .int 1, .int 999, .ref (p3 61), .ref (p3 62), .ref (p3 63), .ref (p3 60)])), ((p3 28), .inr (0, [.int 0, .int 0, .int 0, .int 0])), ((p3 1), .inr (5, [.ref (p3 2), .ref (p3 3), .ref (p3 4), .ref (p3 5), .ref (p3 6), .ref (p3 7), .ref (p3 8), .ref (p3 9), .ref (p3 10), .ref (p3 11), .ref (p3 12), .ref (p3 13), .int 0, .int 0, .int 0, .int 0, .int 0, .int 100, .int 0, .int 0])), ((p3 12), .inl (cI, 3, .inl (fun _ => 0))), ((p3 11), .inl (cI, 3, .inl (fun _ => 0))), ((u9.2 0), .inr (0, [.int 0, .int 0, .int 0, .int 0])), ((u9.2 1), .inr (0, [.int 0, .int 0, .int 0, .int 0])), ((u9.2 2), .inl (cI, 9216, .inl (upd (fun k => if 0 ≤ k ∧ k < 9 then 2147483647 else 0) 0 0))), ((u9.2 3), .inr (4, [.ref (u9.2 2), .ref (u9.2 0), .ref (u9.2 1), .ref (p3 1), .int 1, .int 1]))] | 4 => [(p0, .inr (6, [.ref (p3 0), .int 0, .ref (p3 1), .ref (p3 14), .ref (p3 27), .ref (p3 28), .ref (p3 29), .ref (p3 30), .ref (p3 54), .ref (u9.2 2), .int 1, .int 1, .int 999, .ref (p3 61), .ref (p3 62), .ref (p3 63), .ref (p3 60)])), ((p3 28), .inr (0, [.int 0, .int 0, .int 0, .int 0])), ((p3 1), .inr (5, [.ref (p3 2), .ref (p3 3), .ref (p3 4), .ref (p3 5), .ref (p3 6), .ref (p3 7), .ref (p3 8), .ref (p3 9), .ref (p3 10), .ref (p3 11), .ref (p3 12), .ref (p3 13), .int 0, .int 0, .int 0, .int 0, .int 0, .int 100, .int 0, .int 0])), ((p3 12), .inl (cI, 3, .inl (fun _ => 0))), ((p3 11), .inl (cI, 3, .inl (fun _ => 0))), ((u9.2 0), .inr (0, [.int 0, .int 0, .int 0, .int 0])), ((u9.2 1), .inr (0, [.int 0, .int 0, .int 0, .int 0])), ((u9.2 2), .inr (4, [.ref (u9.2 3), .ref (u9.2 0), .ref (u9.2 1), .ref (p3 1), .int 1, .int 1])), ((u9.2 3), .inl (cI, 9216, .inl (upd (fun k => if 0 ≤ k ∧ k < 9 then 2147483647 else 0) 0 0)))] | 5 => [(p0, .inr (6, [.ref (p3 0), .int 0, .ref (p3 1), .ref (p3 14), .ref (p3 27), .ref (p3 28), .ref (p3 29), .ref (p3 30), .ref (p3 54), .ref (u9.2 3), .int 1, .int 1, .int 999, .ref (p3 61), .ref (p3 62), .ref (p3 63), .ref (p3 60)])), ((p3 28), .inr (0, [.int 0, .int 0, .int 0, .int 0])), ((p3 1), .inr (5, [.ref (p3 2), .ref (p3 3), .ref (p3 4), .ref (p3 5), .ref (p3 6), .ref (p3 7), .ref (p3 8), .ref (p3 9), .ref (p3 10), .ref (p3 11), .ref (p3 12), .ref (p3 13), .int 0, .int 0, .int 0, .int 0, .int 0, .int 100, .int 0, .int 0])), ((p3 12), .inl (cI, 3, .inl (fun _ => 0))), ((p3 11), .inl (cI, 3, .inl (fun _ => 0))), ((u9.2 0), .inr (0, [.int 0, .int 0, .int 0, .int 0])), ((u9.2 1), .inr (0, [.int 0, .int 0, .int 0, .int 0])), ((u9.2 2), .inl (cI, 9216, .inl (upd (fun k => if 0 ≤ k ∧ k < 9 then 2147483647 else 0) 0 0))), ((u9.2 3), .inr (4, [.ref (u9.2 2), .ref (u9.2 0), .ref (u9.2 1), .ref (p3 1), .int 1, .int 1]))] | _ => []) u)) A) sz (by decide +kernel) rfl (Nat.le_of_ble_eq_true rfl) (fun p e s m args below meth c A ls H locs B hP hD hS hl => ?_)
  obtain ⟨hx, hb, hml, hown, hts, hr, hlk, hnm, hK, hA, hN, hC⟩ := id B
  have hown : s.vm.findClass RX6 = some m.cls := hown
  have hl : lv_has ls 5 [(0, .ref p0), (1, .int p1), (2, .int p2)] := hl
  have w_0 : (Cond.fieldLink RX6 16 "WishSea" "live" "LWishSea$Shore;").before args s = true := hts _ (List.mem_of_getElem? (i := 1) rfl)
  have w_1 : (Cond.fieldLink RX6 35 "WishSea" "now" "LWishSea$Moment;").before args s = true := hts _ (List.mem_of_getElem? (i := 2) rfl)
  have hinX6 : ∀ w ∈ u_ws RX6 TX6 17, w ∈ wsX6_fewest := fun _ h => List.mem_cons_of_mem _ (List.mem_append_left _ (List.mem_append_left _ (List.mem_append_left _ (List.mem_append_right _ h))))
  refine lv_aload_n hx hb dX6_fewest_0 rfl (lv_at hl 0 rfl) ?_
  refine k_cr (wc := [(p0, .inr (6, [.ref (p3 0), .int 0, .ref (p3 1), .ref (p3 14), .ref (p3 27), .ref (p3 28), .ref (p3 29), .ref (p3 30), .ref (p3 54), .null, .int 1, .int 1, .int 999, .ref (p3 61), .ref (p3 62), .ref (p3 63), .ref (p3 60)]))]) (wr := [((p3 28), .inr (0, [.int 0, .int 0, .int 0, .int 0])), ((p3 1), .inr (5, [.ref (p3 2), .ref (p3 3), .ref (p3 4), .ref (p3 5), .ref (p3 6), .ref (p3 7), .ref (p3 8), .ref (p3 9), .ref (p3 10), .ref (p3 11), .ref (p3 12), .ref (p3 13), .int 0, .int 0, .int 0, .int 0, .int 0, .int 100, .int 0, .int 0])), ((p3 12), .inl (cI, 3, .inl (fun _ => 0))), ((p3 11), .inl (cI, 3, .inl (fun _ => 0)))]) (fun hPc hDc hFc => va_runV (As := []) (rest := []) ⟨hx, hb, hml, hown, hts⟩ (c_X6_theRungs_v0 l dC dI cI cJ cZ cM p0 p3 H.size) (cwV 0 hts gX6_fewest_X6_theRungs rfl rfl rfl (by decide +kernel) ⟨(Nat.le_of_ble_eq_true rfl), (Nat.le_of_ble_eq_true rfl)⟩) (k_pV hPc hDc hK hN hC hS hFc hP (q0 := 0) (ci := 6) rfl rfl) rfl rfl hl.1 rfl (lv_room (Nat.le_of_ble_eq_true rfl)) dX6_fewest_1 ⟨(Nat.le_of_ble_eq_true rfl), (Nat.le_of_ble_eq_true rfl)⟩) hP hD hS hA [0] [1, 2, 3, 4] rfl rfl rfl rfl (by decide) (fun _ => rfl) 4 9230 rfl rfl (fun r_1 u_2 H locs hw hP hD hS => ?_)
  obtain rfl : r_1 = (u_2 0) := hw
  have hP : va_P (dC, dI) vwCl [((p3 28), .inr (0, [.int 0, .int 0, .int 0, .int 0])), ((p3 1), .inr (5, [.ref (p3 2), .ref (p3 3), .ref (p3 4), .ref (p3 5), .ref (p3 6), .ref (p3 7), .ref (p3 8), .ref (p3 9), .ref (p3 10), .ref (p3 11), .ref (p3 12), .ref (p3 13), .int 0, .int 0, .int 0, .int 0, .int 0, .int 100, .int 0, .int 0])), ((p3 12), .inl (cI, 3, .inl (fun _ => 0))), ((p3 11), .inl (cI, 3, .inl (fun _ => 0))), (p0, .inr (6, [.ref (p3 0), .int 0, .ref (p3 1), .ref (p3 14), .ref (p3 27), .ref (p3 28), .ref (p3 29), .ref (p3 30), .ref (p3 54), .ref (u_2 0), .int 1, .int 1, .int 999, .ref (p3 61), .ref (p3 62), .ref (p3 63), .ref (p3 60)])), ((u_2 0), .inr (4, [.ref (u_2 1), .ref (u_2 2), .ref (u_2 3), .ref (p3 1), .int 0, .int 0])), ((u_2 1), .inl (cI, 9216, .inl (fun _ => 0))), ((u_2 2), .inr (0, [.int 0, .int 0, .int 0, .int 0])), ((u_2 3), .inr (0, [.int 0, .int 0, .int 0, .int 0]))] H := hP
  have hD : va_D A [((p3 28), .inr (0, [.int 0, .int 0, .int 0, .int 0])), ((p3 1), .inr (5, [.ref (p3 2), .ref (p3 3), .ref (p3 4), .ref (p3 5), .ref (p3 6), .ref (p3 7), .ref (p3 8), .ref (p3 9), .ref (p3 10), .ref (p3 11), .ref (p3 12), .ref (p3 13), .int 0, .int 0, .int 0, .int 0, .int 0, .int 100, .int 0, .int 0])), ((p3 12), .inl (cI, 3, .inl (fun _ => 0))), ((p3 11), .inl (cI, 3, .inl (fun _ => 0))), (p0, .inr (6, [.ref (p3 0), .int 0, .ref (p3 1), .ref (p3 14), .ref (p3 27), .ref (p3 28), .ref (p3 29), .ref (p3 30), .ref (p3 54), .ref (u_2 0), .int 1, .int 1, .int 999, .ref (p3 61), .ref (p3 62), .ref (p3 63), .ref (p3 60)])), ((u_2 0), .inr (4, [.ref (u_2 1), .ref (u_2 2), .ref (u_2 3), .ref (p3 1), .int 0, .int 0])), ((u_2 1), .inl (cI, 9216, .inl (fun _ => 0))), ((u_2 2), .inr (0, [.int 0, .int 0, .int 0, .int 0])), ((u_2 3), .inr (0, [.int 0, .int 0, .int 0, .int 0]))] := hD
  refine lv_aload_n hx hb dX6_fewest_4 rfl (lv_at hl 0 rfl) ?_
  refine k_get (D := (dC, dI)) (ci := 6) (v := .ref (p3 1)) (C := RX6) (T := TX6) (N := 17) hx hb hts hinX6 hown hK hP 4 rfl rfl 2 (by decide) w_0 rfl rfl dX6_fewest_5 ?_
  refine lv_aload_n hx hb dX6_fewest_8 rfl (lv_at hl 0 rfl) ?_
  refine k_get (D := (dC, dI)) (ci := 6) (v := .ref (p3 28)) (C := RX6) (T := TX6) (N := 17) hx hb hts hinX6 hown hK hP 4 rfl rfl 5 (by decide) w_1 rfl rfl dX6_fewest_9 ?_
  refine k_cr (wc := [((u_2 0), .inr (4, [.ref (u_2 1), .ref (u_2 2), .ref (u_2 3), .ref (p3 1), .int 0, .int 0])), ((p3 28), .inr (0, [.int 0, .int 0, .int 0, .int 0])), ((u_2 2), .inr (0, [.int 0, .int 0, .int 0, .int 0])), ((p3 1), .inr (5, [.ref (p3 2), .ref (p3 3), .ref (p3 4), .ref (p3 5), .ref (p3 6), .ref (p3 7), .ref (p3 8), .ref (p3 9), .ref (p3 10), .ref (p3 11), .ref (p3 12), .ref (p3 13), .int 0, .int 0, .int 0, .int 0, .int 0, .int 100, .int 0, .int 0])), ((u_2 1), .inl (cI, 9216, .inl (fun _ => 0))), ((u_2 3), .inr (0, [.int 0, .int 0, .int 0, .int 0])), ((p3 12), .inl (cI, 3, .inl (fun _ => 0))), ((p3 11), .inl (cI, 3, .inl (fun _ => 0)))]) (wr := [(p0, .inr (6, [.ref (p3 0), .int 0, .ref (p3 1), .ref (p3 14), .ref (p3 27), .ref (p3 28), .ref (p3 29), .ref (p3 30), .ref (p3 54), .ref (u_2 0), .int 1, .int 1, .int 999, .ref (p3 61), .ref (p3 62), .ref (p3 63), .ref (p3 60)]))]) (fun hPc hDc hFc => va_runV (As := [.ref (p3 1), .ref (p3 28)]) (rest := []) ⟨hx, hb, hml, hown, hts⟩ (c_X4_climb_v0 l dC dI cI cJ cZ cM u_2 p3 H.size) (cwV 2 hts gX6_fewest_X4_climb rfl rfl rfl (by decide +kernel) ⟨(Nat.le_of_ble_eq_true rfl), (Nat.le_of_ble_eq_true rfl)⟩) (k_pV hPc hDc hK hN hC hS hFc hP (q0 := 5) (ci := 4) rfl rfl) rfl rfl hl.1 rfl (lv_room (Nat.le_of_ble_eq_true rfl)) dX6_fewest_12 ⟨(Nat.le_of_ble_eq_true rfl), (Nat.le_of_ble_eq_true rfl)⟩) hP hD hS hA [5, 0, 7, 1, 6, 8, 2, 3] [4] rfl rfl rfl rfl (by decide) (fun _ => rfl) 4 9230 rfl rfl (fun r_3 u_4 H locs hw hP hD hS => ?_)
  obtain rfl : r_3 = (u_2 0) := hw
  have hP : va_P (dC, dI) vwCl [(p0, .inr (6, [.ref (p3 0), .int 0, .ref (p3 1), .ref (p3 14), .ref (p3 27), .ref (p3 28), .ref (p3 29), .ref (p3 30), .ref (p3 54), .ref (u_2 0), .int 1, .int 1, .int 999, .ref (p3 61), .ref (p3 62), .ref (p3 63), .ref (p3 60)])), ((u_2 0), .inr (4, [.ref (u_2 1), .ref (u_2 2), .ref (u_2 3), .ref (p3 1), .int 1, .int 1])), ((p3 28), .inr (0, [.int 0, .int 0, .int 0, .int 0])), ((u_2 2), .inr (0, [.int 0, .int 0, .int 0, .int 0])), ((p3 1), .inr (5, [.ref (p3 2), .ref (p3 3), .ref (p3 4), .ref (p3 5), .ref (p3 6), .ref (p3 7), .ref (p3 8), .ref (p3 9), .ref (p3 10), .ref (p3 11), .ref (p3 12), .ref (p3 13), .int 0, .int 0, .int 0, .int 0, .int 0, .int 100, .int 0, .int 0])), ((u_2 1), .inl (cI, 9216, .inl (upd (fun k => if 0 ≤ k ∧ k < 9 then 2147483647 else 0) 0 0))), ((u_2 3), .inr (0, [.int 0, .int 0, .int 0, .int 0])), ((p3 12), .inl (cI, 3, .inl (fun _ => 0))), ((p3 11), .inl (cI, 3, .inl (fun _ => 0)))] H := hP
  have hD : va_D A [(p0, .inr (6, [.ref (p3 0), .int 0, .ref (p3 1), .ref (p3 14), .ref (p3 27), .ref (p3 28), .ref (p3 29), .ref (p3 30), .ref (p3 54), .ref (u_2 0), .int 1, .int 1, .int 999, .ref (p3 61), .ref (p3 62), .ref (p3 63), .ref (p3 60)])), ((u_2 0), .inr (4, [.ref (u_2 1), .ref (u_2 2), .ref (u_2 3), .ref (p3 1), .int 1, .int 1])), ((p3 28), .inr (0, [.int 0, .int 0, .int 0, .int 0])), ((u_2 2), .inr (0, [.int 0, .int 0, .int 0, .int 0])), ((p3 1), .inr (5, [.ref (p3 2), .ref (p3 3), .ref (p3 4), .ref (p3 5), .ref (p3 6), .ref (p3 7), .ref (p3 8), .ref (p3 9), .ref (p3 10), .ref (p3 11), .ref (p3 12), .ref (p3 13), .int 0, .int 0, .int 0, .int 0, .int 0, .int 100, .int 0, .int 0])), ((u_2 1), .inl (cI, 9216, .inl (upd (fun k => if 0 ≤ k ∧ k < 9 then 2147483647 else 0) 0 0))), ((u_2 3), .inr (0, [.int 0, .int 0, .int 0, .int 0])), ((p3 12), .inl (cI, 3, .inl (fun _ => 0))), ((p3 11), .inl (cI, 3, .inl (fun _ => 0)))] := hD
  refine lv_astore_n (lv' := [(3, .ref (u_2 0)), (0, .ref p0), (1, .int p1), (2, .int p2)]) hx hb dX6_fewest_15 rfl hl (by decide) rfl (fun ls hl => ?_)
  refine lv_aload_n hx hb dX6_fewest_16 rfl (lv_at hl 0 rfl) ?_
  refine lv_iload_n hx hb dX6_fewest_17 rfl (lv_at hl 2 rfl) ?_
  refine k_ci (wc := [((u_2 0), .inr (4, [.ref (u_2 1), .ref (u_2 2), .ref (u_2 3), .ref (p3 1), .int 1, .int 1])), ((u_2 1), .inl (cI, 9216, .inl (upd (fun k => if 0 ≤ k ∧ k < 9 then 2147483647 else 0) 0 0)))]) (wr := [(p0, .inr (6, [.ref (p3 0), .int 0, .ref (p3 1), .ref (p3 14), .ref (p3 27), .ref (p3 28), .ref (p3 29), .ref (p3 30), .ref (p3 54), .ref (u_2 0), .int 1, .int 1, .int 999, .ref (p3 61), .ref (p3 62), .ref (p3 63), .ref (p3 60)])), ((p3 28), .inr (0, [.int 0, .int 0, .int 0, .int 0])), ((u_2 2), .inr (0, [.int 0, .int 0, .int 0, .int 0])), ((p3 1), .inr (5, [.ref (p3 2), .ref (p3 3), .ref (p3 4), .ref (p3 5), .ref (p3 6), .ref (p3 7), .ref (p3 8), .ref (p3 9), .ref (p3 10), .ref (p3 11), .ref (p3 12), .ref (p3 13), .int 0, .int 0, .int 0, .int 0, .int 0, .int 100, .int 0, .int 0])), ((u_2 3), .inr (0, [.int 0, .int 0, .int 0, .int 0])), ((p3 12), .inl (cI, 3, .inl (fun _ => 0))), ((p3 11), .inl (cI, 3, .inl (fun _ => 0)))]) (fun hPc hDc hFc => va_runV (As := [.int p1]) (rest := []) ⟨hx, hb, hml, hown, hts⟩ (c_X4_fewestWith_v0 l dC dI cI cJ cZ cM u_2 p1 p3 H.size) (cwV 1 hts gX6_fewest_X4_fewestWith rfl rfl rfl (by decide +kernel) ⟨(Nat.le_of_ble_eq_true rfl), (Nat.le_of_ble_eq_true rfl)⟩) (k_pV hPc hDc hK hN hC hS hFc hP (q0 := 1) (ci := 4) rfl rfl) rfl rfl hl.1 rfl (lv_room (Nat.le_of_ble_eq_true rfl)) dX6_fewest_18 ⟨(Nat.le_of_ble_eq_true rfl), (Nat.le_of_ble_eq_true rfl)⟩) hP hD hS hA [1, 5] [0, 2, 3, 4, 6, 7, 8] rfl rfl rfl rfl (by decide) (fun _ => rfl) 4 9230 rfl rfl (fun r_5 u_6 H locs hw hP hD hS => ?_)
  obtain ⟨k_u_6, u_u_6⟩ := u_6
  rcases k_u_6 with _ | _ | k_u_6
  · obtain ⟨c_7, rfl⟩ : (¬ 0 = p1.toInt) ∧ r_5 = (-1) := hw
    have hP : va_P (dC, dI) vwCl [(p0, .inr (6, [.ref (p3 0), .int 0, .ref (p3 1), .ref (p3 14), .ref (p3 27), .ref (p3 28), .ref (p3 29), .ref (p3 30), .ref (p3 54), .ref (u_2 0), .int 1, .int 1, .int 999, .ref (p3 61), .ref (p3 62), .ref (p3 63), .ref (p3 60)])), ((p3 28), .inr (0, [.int 0, .int 0, .int 0, .int 0])), ((u_2 2), .inr (0, [.int 0, .int 0, .int 0, .int 0])), ((p3 1), .inr (5, [.ref (p3 2), .ref (p3 3), .ref (p3 4), .ref (p3 5), .ref (p3 6), .ref (p3 7), .ref (p3 8), .ref (p3 9), .ref (p3 10), .ref (p3 11), .ref (p3 12), .ref (p3 13), .int 0, .int 0, .int 0, .int 0, .int 0, .int 100, .int 0, .int 0])), ((u_2 3), .inr (0, [.int 0, .int 0, .int 0, .int 0])), ((p3 12), .inl (cI, 3, .inl (fun _ => 0))), ((p3 11), .inl (cI, 3, .inl (fun _ => 0))), ((u_2 0), .inr (4, [.ref (u_2 1), .ref (u_2 2), .ref (u_2 3), .ref (p3 1), .int 1, .int 1])), ((u_2 1), .inl (cI, 9216, .inl (upd (fun k => if 0 ≤ k ∧ k < 9 then 2147483647 else 0) 0 0)))] H := hP
    have hD : va_D A [(p0, .inr (6, [.ref (p3 0), .int 0, .ref (p3 1), .ref (p3 14), .ref (p3 27), .ref (p3 28), .ref (p3 29), .ref (p3 30), .ref (p3 54), .ref (u_2 0), .int 1, .int 1, .int 999, .ref (p3 61), .ref (p3 62), .ref (p3 63), .ref (p3 60)])), ((p3 28), .inr (0, [.int 0, .int 0, .int 0, .int 0])), ((u_2 2), .inr (0, [.int 0, .int 0, .int 0, .int 0])), ((p3 1), .inr (5, [.ref (p3 2), .ref (p3 3), .ref (p3 4), .ref (p3 5), .ref (p3 6), .ref (p3 7), .ref (p3 8), .ref (p3 9), .ref (p3 10), .ref (p3 11), .ref (p3 12), .ref (p3 13), .int 0, .int 0, .int 0, .int 0, .int 0, .int 100, .int 0, .int 0])), ((u_2 3), .inr (0, [.int 0, .int 0, .int 0, .int 0])), ((p3 12), .inl (cI, 3, .inl (fun _ => 0))), ((p3 11), .inl (cI, 3, .inl (fun _ => 0))), ((u_2 0), .inr (4, [.ref (u_2 1), .ref (u_2 2), .ref (u_2 3), .ref (p3 1), .int 1, .int 1])), ((u_2 1), .inl (cI, 9216, .inl (upd (fun k => if 0 ≤ k ∧ k < 9 then 2147483647 else 0) 0 0)))] := hD
    refine lv_istore (lv' := [(4, .int (-1)), (3, .ref (u_2 0)), (0, .ref p0), (1, .int p1), (2, .int p2)]) hx hb dX6_fewest_21 hl (by decide) rfl (fun ls hl => ?_)
    refine lv_iload hx hb dX6_fewest_23 (lv_at hl 0 rfl) ?_
    refine lv_if_ge (tgt := 30) hx hb dX6_fewest_25 (by decide) (fun q9 => absurd q9 (by decide +kernel)) (fun _ => ?_)
    refine lv_iconst (v := (-1)) hx hb dX6_fewest_28 (by decide +kernel) ?_
    exact k_ri B hP hD hS dX6_fewest_29 (0, (fun k9 => match k9 with | 0 => (u_2 2) | 1 => (u_2 3) | 2 => (u_2 0) | 3 => (u_2 1) | _ => 0)) [0, 1, 3, 5, 6, 2, 4, 7, 8] rfl rfl rfl (Nat.le_of_ble_eq_true rfl) (Nat.le_of_ble_eq_true rfl) ⟨c_7, rfl⟩
  · obtain ⟨c_8, rfl⟩ : (0 = p1.toInt) ∧ r_5 = 0 := hw
    have hP : va_P (dC, dI) vwCl [(p0, .inr (6, [.ref (p3 0), .int 0, .ref (p3 1), .ref (p3 14), .ref (p3 27), .ref (p3 28), .ref (p3 29), .ref (p3 30), .ref (p3 54), .ref (u_2 0), .int 1, .int 1, .int 999, .ref (p3 61), .ref (p3 62), .ref (p3 63), .ref (p3 60)])), ((p3 28), .inr (0, [.int 0, .int 0, .int 0, .int 0])), ((u_2 2), .inr (0, [.int 0, .int 0, .int 0, .int 0])), ((p3 1), .inr (5, [.ref (p3 2), .ref (p3 3), .ref (p3 4), .ref (p3 5), .ref (p3 6), .ref (p3 7), .ref (p3 8), .ref (p3 9), .ref (p3 10), .ref (p3 11), .ref (p3 12), .ref (p3 13), .int 0, .int 0, .int 0, .int 0, .int 0, .int 100, .int 0, .int 0])), ((u_2 3), .inr (0, [.int 0, .int 0, .int 0, .int 0])), ((p3 12), .inl (cI, 3, .inl (fun _ => 0))), ((p3 11), .inl (cI, 3, .inl (fun _ => 0))), ((u_2 0), .inr (4, [.ref (u_2 1), .ref (u_2 2), .ref (u_2 3), .ref (p3 1), .int 1, .int 1])), ((u_2 1), .inl (cI, 9216, .inl (upd (fun k => if 0 ≤ k ∧ k < 9 then 2147483647 else 0) 0 0)))] H := hP
    have hD : va_D A [(p0, .inr (6, [.ref (p3 0), .int 0, .ref (p3 1), .ref (p3 14), .ref (p3 27), .ref (p3 28), .ref (p3 29), .ref (p3 30), .ref (p3 54), .ref (u_2 0), .int 1, .int 1, .int 999, .ref (p3 61), .ref (p3 62), .ref (p3 63), .ref (p3 60)])), ((p3 28), .inr (0, [.int 0, .int 0, .int 0, .int 0])), ((u_2 2), .inr (0, [.int 0, .int 0, .int 0, .int 0])), ((p3 1), .inr (5, [.ref (p3 2), .ref (p3 3), .ref (p3 4), .ref (p3 5), .ref (p3 6), .ref (p3 7), .ref (p3 8), .ref (p3 9), .ref (p3 10), .ref (p3 11), .ref (p3 12), .ref (p3 13), .int 0, .int 0, .int 0, .int 0, .int 0, .int 100, .int 0, .int 0])), ((u_2 3), .inr (0, [.int 0, .int 0, .int 0, .int 0])), ((p3 12), .inl (cI, 3, .inl (fun _ => 0))), ((p3 11), .inl (cI, 3, .inl (fun _ => 0))), ((u_2 0), .inr (4, [.ref (u_2 1), .ref (u_2 2), .ref (u_2 3), .ref (p3 1), .int 1, .int 1])), ((u_2 1), .inl (cI, 9216, .inl (upd (fun k => if 0 ≤ k ∧ k < 9 then 2147483647 else 0) 0 0)))] := hD
    refine lv_istore (lv' := [(4, .int 0), (3, .ref (u_2 0)), (0, .ref p0), (1, .int p1), (2, .int p2)]) hx hb dX6_fewest_21 hl (by decide) rfl (fun ls hl => ?_)
    refine lv_iload hx hb dX6_fewest_23 (lv_at hl 0 rfl) ?_
    refine lv_if_ge (tgt := 30) hx hb dX6_fewest_25 (by decide) (fun _ => ?_) (fun q9 => absurd q9 (by decide +kernel))
    refine lv_iload_n hx hb dX6_fewest_30 rfl (lv_at hl 4 rfl) ?_
    rcases k_sw3 p2 with c_9 | c_9 | c_9 | c_9
    · have c_9 : p2.toInt = 0 := c_9
      refine lv_tableIn (off := 25) (tgt := 56) hx hb dX6_fewest_31 (by rw [c_9]; decide) (by rw [c_9]; decide) (by rw [c_9]; decide +kernel) (by decide +kernel) ?_
      refine lv_aload_n hx hb dX6_fewest_56 rfl (lv_at hl 1 rfl) ?_
      refine lv_iload hx hb dX6_fewest_57 (lv_at hl 0 rfl) ?_
      refine k_ci (wc := [((u_2 0), .inr (4, [.ref (u_2 1), .ref (u_2 2), .ref (u_2 3), .ref (p3 1), .int 1, .int 1]))]) (wr := [(p0, .inr (6, [.ref (p3 0), .int 0, .ref (p3 1), .ref (p3 14), .ref (p3 27), .ref (p3 28), .ref (p3 29), .ref (p3 30), .ref (p3 54), .ref (u_2 0), .int 1, .int 1, .int 999, .ref (p3 61), .ref (p3 62), .ref (p3 63), .ref (p3 60)])), ((p3 28), .inr (0, [.int 0, .int 0, .int 0, .int 0])), ((u_2 2), .inr (0, [.int 0, .int 0, .int 0, .int 0])), ((p3 1), .inr (5, [.ref (p3 2), .ref (p3 3), .ref (p3 4), .ref (p3 5), .ref (p3 6), .ref (p3 7), .ref (p3 8), .ref (p3 9), .ref (p3 10), .ref (p3 11), .ref (p3 12), .ref (p3 13), .int 0, .int 0, .int 0, .int 0, .int 0, .int 100, .int 0, .int 0])), ((u_2 3), .inr (0, [.int 0, .int 0, .int 0, .int 0])), ((p3 12), .inl (cI, 3, .inl (fun _ => 0))), ((p3 11), .inl (cI, 3, .inl (fun _ => 0))), ((u_2 1), .inl (cI, 9216, .inl (upd (fun k => if 0 ≤ k ∧ k < 9 then 2147483647 else 0) 0 0)))]) (fun hPc hDc hFc => va_runV (As := [.int 0]) (rest := []) ⟨hx, hb, hml, hown, hts⟩ (c_X4_wishesOf_v0 l dC dI cI cJ cZ cM u_2 p3 H.size) (cwV 1 hts gX6_fewest_X4_wishesOf rfl rfl rfl (by decide +kernel) ⟨(Nat.le_of_ble_eq_true rfl), (Nat.le_of_ble_eq_true rfl)⟩) (k_pV hPc hDc hK hN hC hS hFc hP (q0 := 7) (ci := 4) rfl rfl) rfl rfl hl.1 rfl (lv_room (Nat.le_of_ble_eq_true rfl)) dX6_fewest_59 ⟨(Nat.le_of_ble_eq_true rfl), (Nat.le_of_ble_eq_true rfl)⟩) hP hD hS hA [7] [0, 1, 2, 3, 4, 5, 6, 8] rfl rfl rfl rfl (by decide) (fun _ => rfl) 4 9230 rfl rfl (fun r_10 u_11 H locs hw hP hD hS => ?_)
      obtain rfl : r_10 = 0 := hw
      have hP : va_P (dC, dI) vwCl [(p0, .inr (6, [.ref (p3 0), .int 0, .ref (p3 1), .ref (p3 14), .ref (p3 27), .ref (p3 28), .ref (p3 29), .ref (p3 30), .ref (p3 54), .ref (u_2 0), .int 1, .int 1, .int 999, .ref (p3 61), .ref (p3 62), .ref (p3 63), .ref (p3 60)])), ((p3 28), .inr (0, [.int 0, .int 0, .int 0, .int 0])), ((u_2 2), .inr (0, [.int 0, .int 0, .int 0, .int 0])), ((p3 1), .inr (5, [.ref (p3 2), .ref (p3 3), .ref (p3 4), .ref (p3 5), .ref (p3 6), .ref (p3 7), .ref (p3 8), .ref (p3 9), .ref (p3 10), .ref (p3 11), .ref (p3 12), .ref (p3 13), .int 0, .int 0, .int 0, .int 0, .int 0, .int 100, .int 0, .int 0])), ((u_2 3), .inr (0, [.int 0, .int 0, .int 0, .int 0])), ((p3 12), .inl (cI, 3, .inl (fun _ => 0))), ((p3 11), .inl (cI, 3, .inl (fun _ => 0))), ((u_2 1), .inl (cI, 9216, .inl (upd (fun k => if 0 ≤ k ∧ k < 9 then 2147483647 else 0) 0 0))), ((u_2 0), .inr (4, [.ref (u_2 1), .ref (u_2 2), .ref (u_2 3), .ref (p3 1), .int 1, .int 1]))] H := hP
      have hD : va_D A [(p0, .inr (6, [.ref (p3 0), .int 0, .ref (p3 1), .ref (p3 14), .ref (p3 27), .ref (p3 28), .ref (p3 29), .ref (p3 30), .ref (p3 54), .ref (u_2 0), .int 1, .int 1, .int 999, .ref (p3 61), .ref (p3 62), .ref (p3 63), .ref (p3 60)])), ((p3 28), .inr (0, [.int 0, .int 0, .int 0, .int 0])), ((u_2 2), .inr (0, [.int 0, .int 0, .int 0, .int 0])), ((p3 1), .inr (5, [.ref (p3 2), .ref (p3 3), .ref (p3 4), .ref (p3 5), .ref (p3 6), .ref (p3 7), .ref (p3 8), .ref (p3 9), .ref (p3 10), .ref (p3 11), .ref (p3 12), .ref (p3 13), .int 0, .int 0, .int 0, .int 0, .int 0, .int 100, .int 0, .int 0])), ((u_2 3), .inr (0, [.int 0, .int 0, .int 0, .int 0])), ((p3 12), .inl (cI, 3, .inl (fun _ => 0))), ((p3 11), .inl (cI, 3, .inl (fun _ => 0))), ((u_2 1), .inl (cI, 9216, .inl (upd (fun k => if 0 ≤ k ∧ k < 9 then 2147483647 else 0) 0 0))), ((u_2 0), .inr (4, [.ref (u_2 1), .ref (u_2 2), .ref (u_2 3), .ref (p3 1), .int 1, .int 1]))] := hD
      exact k_ri B hP hD hS dX6_fewest_62 (1, (fun k9 => match k9 with | 0 => (u_2 2) | 1 => (u_2 3) | 2 => (u_2 1) | 3 => (u_2 0) | _ => 0)) [0, 1, 3, 5, 6, 2, 4, 7, 8] rfl rfl rfl (Nat.le_of_ble_eq_true rfl) (Nat.le_of_ble_eq_true rfl) ⟨c_8, c_9, rfl⟩
    · have c_9 : p2.toInt = 1 := c_9
      refine lv_tableIn (off := 32) (tgt := 63) hx hb dX6_fewest_31 (by rw [c_9]; decide) (by rw [c_9]; decide) (by rw [c_9]; decide +kernel) (by decide +kernel) ?_
      refine lv_aload_n hx hb dX6_fewest_63 rfl (lv_at hl 1 rfl) ?_
      refine lv_iload hx hb dX6_fewest_64 (lv_at hl 0 rfl) ?_
      refine k_ci (wc := [((u_2 0), .inr (4, [.ref (u_2 1), .ref (u_2 2), .ref (u_2 3), .ref (p3 1), .int 1, .int 1])), ((u_2 1), .inl (cI, 9216, .inl (upd (fun k => if 0 ≤ k ∧ k < 9 then 2147483647 else 0) 0 0)))]) (wr := [(p0, .inr (6, [.ref (p3 0), .int 0, .ref (p3 1), .ref (p3 14), .ref (p3 27), .ref (p3 28), .ref (p3 29), .ref (p3 30), .ref (p3 54), .ref (u_2 0), .int 1, .int 1, .int 999, .ref (p3 61), .ref (p3 62), .ref (p3 63), .ref (p3 60)])), ((p3 28), .inr (0, [.int 0, .int 0, .int 0, .int 0])), ((u_2 2), .inr (0, [.int 0, .int 0, .int 0, .int 0])), ((p3 1), .inr (5, [.ref (p3 2), .ref (p3 3), .ref (p3 4), .ref (p3 5), .ref (p3 6), .ref (p3 7), .ref (p3 8), .ref (p3 9), .ref (p3 10), .ref (p3 11), .ref (p3 12), .ref (p3 13), .int 0, .int 0, .int 0, .int 0, .int 0, .int 100, .int 0, .int 0])), ((u_2 3), .inr (0, [.int 0, .int 0, .int 0, .int 0])), ((p3 12), .inl (cI, 3, .inl (fun _ => 0))), ((p3 11), .inl (cI, 3, .inl (fun _ => 0)))]) (fun hPc hDc hFc => va_runV (As := [.int 0]) (rest := []) ⟨hx, hb, hml, hown, hts⟩ (c_X4_seaOf_v0 l dC dI cI cJ cZ cM u_2 p3 H.size) (cwV 1 hts gX6_fewest_X4_seaOf rfl rfl rfl (by decide +kernel) ⟨(Nat.le_of_ble_eq_true rfl), (Nat.le_of_ble_eq_true rfl)⟩) (k_pV hPc hDc hK hN hC hS hFc hP (q0 := 7) (ci := 4) rfl rfl) rfl rfl hl.1 rfl (lv_room (Nat.le_of_ble_eq_true rfl)) dX6_fewest_66 ⟨(Nat.le_of_ble_eq_true rfl), (Nat.le_of_ble_eq_true rfl)⟩) hP hD hS hA [7, 8] [0, 1, 2, 3, 4, 5, 6] rfl rfl rfl rfl (by decide) (fun _ => rfl) 4 9230 rfl rfl (fun r_12 u_13 H locs hw hP hD hS => ?_)
      obtain rfl : r_12 = 0 := hw
      have hP : va_P (dC, dI) vwCl [(p0, .inr (6, [.ref (p3 0), .int 0, .ref (p3 1), .ref (p3 14), .ref (p3 27), .ref (p3 28), .ref (p3 29), .ref (p3 30), .ref (p3 54), .ref (u_2 0), .int 1, .int 1, .int 999, .ref (p3 61), .ref (p3 62), .ref (p3 63), .ref (p3 60)])), ((p3 28), .inr (0, [.int 0, .int 0, .int 0, .int 0])), ((u_2 2), .inr (0, [.int 0, .int 0, .int 0, .int 0])), ((p3 1), .inr (5, [.ref (p3 2), .ref (p3 3), .ref (p3 4), .ref (p3 5), .ref (p3 6), .ref (p3 7), .ref (p3 8), .ref (p3 9), .ref (p3 10), .ref (p3 11), .ref (p3 12), .ref (p3 13), .int 0, .int 0, .int 0, .int 0, .int 0, .int 100, .int 0, .int 0])), ((u_2 3), .inr (0, [.int 0, .int 0, .int 0, .int 0])), ((p3 12), .inl (cI, 3, .inl (fun _ => 0))), ((p3 11), .inl (cI, 3, .inl (fun _ => 0))), ((u_2 0), .inr (4, [.ref (u_2 1), .ref (u_2 2), .ref (u_2 3), .ref (p3 1), .int 1, .int 1])), ((u_2 1), .inl (cI, 9216, .inl (upd (fun k => if 0 ≤ k ∧ k < 9 then 2147483647 else 0) 0 0)))] H := hP
      have hD : va_D A [(p0, .inr (6, [.ref (p3 0), .int 0, .ref (p3 1), .ref (p3 14), .ref (p3 27), .ref (p3 28), .ref (p3 29), .ref (p3 30), .ref (p3 54), .ref (u_2 0), .int 1, .int 1, .int 999, .ref (p3 61), .ref (p3 62), .ref (p3 63), .ref (p3 60)])), ((p3 28), .inr (0, [.int 0, .int 0, .int 0, .int 0])), ((u_2 2), .inr (0, [.int 0, .int 0, .int 0, .int 0])), ((p3 1), .inr (5, [.ref (p3 2), .ref (p3 3), .ref (p3 4), .ref (p3 5), .ref (p3 6), .ref (p3 7), .ref (p3 8), .ref (p3 9), .ref (p3 10), .ref (p3 11), .ref (p3 12), .ref (p3 13), .int 0, .int 0, .int 0, .int 0, .int 0, .int 100, .int 0, .int 0])), ((u_2 3), .inr (0, [.int 0, .int 0, .int 0, .int 0])), ((p3 12), .inl (cI, 3, .inl (fun _ => 0))), ((p3 11), .inl (cI, 3, .inl (fun _ => 0))), ((u_2 0), .inr (4, [.ref (u_2 1), .ref (u_2 2), .ref (u_2 3), .ref (p3 1), .int 1, .int 1])), ((u_2 1), .inl (cI, 9216, .inl (upd (fun k => if 0 ≤ k ∧ k < 9 then 2147483647 else 0) 0 0)))] := hD
      exact k_ri B hP hD hS dX6_fewest_69 (2, (fun k9 => match k9 with | 0 => (u_2 2) | 1 => (u_2 3) | 2 => (u_2 0) | 3 => (u_2 1) | _ => 0)) [0, 1, 3, 5, 6, 2, 4, 7, 8] rfl rfl rfl (Nat.le_of_ble_eq_true rfl) (Nat.le_of_ble_eq_true rfl) ⟨c_8, c_9, rfl⟩
    · have c_9 : p2.toInt = 2 := c_9
      refine lv_tableIn (off := 39) (tgt := 70) hx hb dX6_fewest_31 (by rw [c_9]; decide) (by rw [c_9]; decide) (by rw [c_9]; decide +kernel) (by decide +kernel) ?_
      refine lv_aload_n hx hb dX6_fewest_70 rfl (lv_at hl 1 rfl) ?_
      refine lv_iload hx hb dX6_fewest_71 (lv_at hl 0 rfl) ?_
      refine k_ci (wc := [((u_2 0), .inr (4, [.ref (u_2 1), .ref (u_2 2), .ref (u_2 3), .ref (p3 1), .int 1, .int 1]))]) (wr := [(p0, .inr (6, [.ref (p3 0), .int 0, .ref (p3 1), .ref (p3 14), .ref (p3 27), .ref (p3 28), .ref (p3 29), .ref (p3 30), .ref (p3 54), .ref (u_2 0), .int 1, .int 1, .int 999, .ref (p3 61), .ref (p3 62), .ref (p3 63), .ref (p3 60)])), ((p3 28), .inr (0, [.int 0, .int 0, .int 0, .int 0])), ((u_2 2), .inr (0, [.int 0, .int 0, .int 0, .int 0])), ((p3 1), .inr (5, [.ref (p3 2), .ref (p3 3), .ref (p3 4), .ref (p3 5), .ref (p3 6), .ref (p3 7), .ref (p3 8), .ref (p3 9), .ref (p3 10), .ref (p3 11), .ref (p3 12), .ref (p3 13), .int 0, .int 0, .int 0, .int 0, .int 0, .int 100, .int 0, .int 0])), ((u_2 3), .inr (0, [.int 0, .int 0, .int 0, .int 0])), ((p3 12), .inl (cI, 3, .inl (fun _ => 0))), ((p3 11), .inl (cI, 3, .inl (fun _ => 0))), ((u_2 1), .inl (cI, 9216, .inl (upd (fun k => if 0 ≤ k ∧ k < 9 then 2147483647 else 0) 0 0)))]) (fun hPc hDc hFc => va_runV (As := [.int 0]) (rest := []) ⟨hx, hb, hml, hown, hts⟩ (c_X4_setOf_v0 l dC dI cI cJ cZ cM u_2 p3 H.size) (cwV 1 hts gX6_fewest_X4_setOf rfl rfl rfl (by decide +kernel) ⟨(Nat.le_of_ble_eq_true rfl), (Nat.le_of_ble_eq_true rfl)⟩) (k_pV hPc hDc hK hN hC hS hFc hP (q0 := 7) (ci := 4) rfl rfl) rfl rfl hl.1 rfl (lv_room (Nat.le_of_ble_eq_true rfl)) dX6_fewest_73 ⟨(Nat.le_of_ble_eq_true rfl), (Nat.le_of_ble_eq_true rfl)⟩) hP hD hS hA [7] [0, 1, 2, 3, 4, 5, 6, 8] rfl rfl rfl rfl (by decide) (fun _ => rfl) 4 9230 rfl rfl (fun r_14 u_15 H locs hw hP hD hS => ?_)
      obtain rfl : r_14 = 0 := hw
      have hP : va_P (dC, dI) vwCl [(p0, .inr (6, [.ref (p3 0), .int 0, .ref (p3 1), .ref (p3 14), .ref (p3 27), .ref (p3 28), .ref (p3 29), .ref (p3 30), .ref (p3 54), .ref (u_2 0), .int 1, .int 1, .int 999, .ref (p3 61), .ref (p3 62), .ref (p3 63), .ref (p3 60)])), ((p3 28), .inr (0, [.int 0, .int 0, .int 0, .int 0])), ((u_2 2), .inr (0, [.int 0, .int 0, .int 0, .int 0])), ((p3 1), .inr (5, [.ref (p3 2), .ref (p3 3), .ref (p3 4), .ref (p3 5), .ref (p3 6), .ref (p3 7), .ref (p3 8), .ref (p3 9), .ref (p3 10), .ref (p3 11), .ref (p3 12), .ref (p3 13), .int 0, .int 0, .int 0, .int 0, .int 0, .int 100, .int 0, .int 0])), ((u_2 3), .inr (0, [.int 0, .int 0, .int 0, .int 0])), ((p3 12), .inl (cI, 3, .inl (fun _ => 0))), ((p3 11), .inl (cI, 3, .inl (fun _ => 0))), ((u_2 1), .inl (cI, 9216, .inl (upd (fun k => if 0 ≤ k ∧ k < 9 then 2147483647 else 0) 0 0))), ((u_2 0), .inr (4, [.ref (u_2 1), .ref (u_2 2), .ref (u_2 3), .ref (p3 1), .int 1, .int 1]))] H := hP
      have hD : va_D A [(p0, .inr (6, [.ref (p3 0), .int 0, .ref (p3 1), .ref (p3 14), .ref (p3 27), .ref (p3 28), .ref (p3 29), .ref (p3 30), .ref (p3 54), .ref (u_2 0), .int 1, .int 1, .int 999, .ref (p3 61), .ref (p3 62), .ref (p3 63), .ref (p3 60)])), ((p3 28), .inr (0, [.int 0, .int 0, .int 0, .int 0])), ((u_2 2), .inr (0, [.int 0, .int 0, .int 0, .int 0])), ((p3 1), .inr (5, [.ref (p3 2), .ref (p3 3), .ref (p3 4), .ref (p3 5), .ref (p3 6), .ref (p3 7), .ref (p3 8), .ref (p3 9), .ref (p3 10), .ref (p3 11), .ref (p3 12), .ref (p3 13), .int 0, .int 0, .int 0, .int 0, .int 0, .int 100, .int 0, .int 0])), ((u_2 3), .inr (0, [.int 0, .int 0, .int 0, .int 0])), ((p3 12), .inl (cI, 3, .inl (fun _ => 0))), ((p3 11), .inl (cI, 3, .inl (fun _ => 0))), ((u_2 1), .inl (cI, 9216, .inl (upd (fun k => if 0 ≤ k ∧ k < 9 then 2147483647 else 0) 0 0))), ((u_2 0), .inr (4, [.ref (u_2 1), .ref (u_2 2), .ref (u_2 3), .ref (p3 1), .int 1, .int 1]))] := hD
      exact k_ri B hP hD hS dX6_fewest_76 (3, (fun k9 => match k9 with | 0 => (u_2 2) | 1 => (u_2 3) | 2 => (u_2 1) | 3 => (u_2 0) | _ => 0)) [0, 1, 3, 5, 6, 2, 4, 7, 8] rfl rfl rfl (Nat.le_of_ble_eq_true rfl) (Nat.le_of_ble_eq_true rfl) ⟨c_8, c_9, rfl⟩
    · refine lv_tableOut (tgt := 77) hx hb dX6_fewest_31 c_9 (by decide +kernel) ?_
      refine lv_iload_n hx hb dX6_fewest_77 rfl (lv_at hl 4 rfl) ?_
      refine lv_bipush (v := 10) hx hb dX6_fewest_78 (by decide +kernel) ?_
      refine lv_icmp_lt (tgt := 96) hx hb dX6_fewest_80 (by decide) (fun c_16 => ?_) (fun c_16 => ?_)
      · have c_16 : p2.toInt < 10 := k_ltT rfl (by decide +kernel) c_16
        refine lv_iconst (v := (-1)) hx hb dX6_fewest_96 (by decide +kernel) ?_
        exact k_ri B hP hD hS dX6_fewest_97 (4, (fun k9 => match k9 with | 0 => (u_2 2) | 1 => (u_2 3) | 2 => (u_2 0) | 3 => (u_2 1) | _ => 0)) [0, 1, 3, 5, 6, 2, 4, 7, 8] rfl rfl rfl (Nat.le_of_ble_eq_true rfl) (Nat.le_of_ble_eq_true rfl) ⟨c_8, c_9, c_16, rfl⟩
      · have c_16 : 10 ≤ p2.toInt := k_ltF rfl (by decide +kernel) c_16
        refine lv_aload_n hx hb dX6_fewest_83 rfl (lv_at hl 1 rfl) ?_
        refine lv_iload hx hb dX6_fewest_84 (lv_at hl 0 rfl) ?_
        refine lv_iload_n hx hb dX6_fewest_86 rfl (lv_at hl 4 rfl) ?_
        refine lv_bipush (v := 10) hx hb dX6_fewest_87 (by decide +kernel) ?_
        refine lv_isub hx hb dX6_fewest_89 ?_
        refine k_ci (wc := [((u_2 0), .inr (4, [.ref (u_2 1), .ref (u_2 2), .ref (u_2 3), .ref (p3 1), .int 1, .int 1]))]) (wr := [(p0, .inr (6, [.ref (p3 0), .int 0, .ref (p3 1), .ref (p3 14), .ref (p3 27), .ref (p3 28), .ref (p3 29), .ref (p3 30), .ref (p3 54), .ref (u_2 0), .int 1, .int 1, .int 999, .ref (p3 61), .ref (p3 62), .ref (p3 63), .ref (p3 60)])), ((p3 28), .inr (0, [.int 0, .int 0, .int 0, .int 0])), ((u_2 2), .inr (0, [.int 0, .int 0, .int 0, .int 0])), ((p3 1), .inr (5, [.ref (p3 2), .ref (p3 3), .ref (p3 4), .ref (p3 5), .ref (p3 6), .ref (p3 7), .ref (p3 8), .ref (p3 9), .ref (p3 10), .ref (p3 11), .ref (p3 12), .ref (p3 13), .int 0, .int 0, .int 0, .int 0, .int 0, .int 100, .int 0, .int 0])), ((u_2 3), .inr (0, [.int 0, .int 0, .int 0, .int 0])), ((p3 12), .inl (cI, 3, .inl (fun _ => 0))), ((p3 11), .inl (cI, 3, .inl (fun _ => 0))), ((u_2 1), .inl (cI, 9216, .inl (upd (fun k => if 0 ≤ k ∧ k < 9 then 2147483647 else 0) 0 0)))]) (fun hPc hDc hFc => va_runV (As := [.int 0, .int (p2 - 10)]) (rest := []) ⟨hx, hb, hml, hown, hts⟩ (c_X4_wishOnTheWay_v0 l dC dI cI cJ cZ cM u_2 (p2 - 10) p3 H.size) (cwV 2 hts gX6_fewest_X4_wishOnTheWay rfl rfl rfl (by decide +kernel) ⟨(Nat.le_of_ble_eq_true rfl), (Nat.le_of_ble_eq_true rfl)⟩) (k_pV hPc hDc hK hN hC hS hFc hP (q0 := 7) (ci := 4) rfl rfl) rfl rfl hl.1 rfl (lv_room (Nat.le_of_ble_eq_true rfl)) dX6_fewest_90 ⟨(Nat.le_of_ble_eq_true rfl), (Nat.le_of_ble_eq_true rfl)⟩) hP hD hS hA [7] [0, 1, 2, 3, 4, 5, 6, 8] rfl rfl rfl rfl (by decide) (fun _ => rfl) 4 9230 rfl rfl (fun r_17 u_18 H locs hw hP hD hS => ?_)
        obtain rfl : r_17 = (-1) := hw
        have hP : va_P (dC, dI) vwCl [(p0, .inr (6, [.ref (p3 0), .int 0, .ref (p3 1), .ref (p3 14), .ref (p3 27), .ref (p3 28), .ref (p3 29), .ref (p3 30), .ref (p3 54), .ref (u_2 0), .int 1, .int 1, .int 999, .ref (p3 61), .ref (p3 62), .ref (p3 63), .ref (p3 60)])), ((p3 28), .inr (0, [.int 0, .int 0, .int 0, .int 0])), ((u_2 2), .inr (0, [.int 0, .int 0, .int 0, .int 0])), ((p3 1), .inr (5, [.ref (p3 2), .ref (p3 3), .ref (p3 4), .ref (p3 5), .ref (p3 6), .ref (p3 7), .ref (p3 8), .ref (p3 9), .ref (p3 10), .ref (p3 11), .ref (p3 12), .ref (p3 13), .int 0, .int 0, .int 0, .int 0, .int 0, .int 100, .int 0, .int 0])), ((u_2 3), .inr (0, [.int 0, .int 0, .int 0, .int 0])), ((p3 12), .inl (cI, 3, .inl (fun _ => 0))), ((p3 11), .inl (cI, 3, .inl (fun _ => 0))), ((u_2 1), .inl (cI, 9216, .inl (upd (fun k => if 0 ≤ k ∧ k < 9 then 2147483647 else 0) 0 0))), ((u_2 0), .inr (4, [.ref (u_2 1), .ref (u_2 2), .ref (u_2 3), .ref (p3 1), .int 1, .int 1]))] H := hP
        have hD : va_D A [(p0, .inr (6, [.ref (p3 0), .int 0, .ref (p3 1), .ref (p3 14), .ref (p3 27), .ref (p3 28), .ref (p3 29), .ref (p3 30), .ref (p3 54), .ref (u_2 0), .int 1, .int 1, .int 999, .ref (p3 61), .ref (p3 62), .ref (p3 63), .ref (p3 60)])), ((p3 28), .inr (0, [.int 0, .int 0, .int 0, .int 0])), ((u_2 2), .inr (0, [.int 0, .int 0, .int 0, .int 0])), ((p3 1), .inr (5, [.ref (p3 2), .ref (p3 3), .ref (p3 4), .ref (p3 5), .ref (p3 6), .ref (p3 7), .ref (p3 8), .ref (p3 9), .ref (p3 10), .ref (p3 11), .ref (p3 12), .ref (p3 13), .int 0, .int 0, .int 0, .int 0, .int 0, .int 100, .int 0, .int 0])), ((u_2 3), .inr (0, [.int 0, .int 0, .int 0, .int 0])), ((p3 12), .inl (cI, 3, .inl (fun _ => 0))), ((p3 11), .inl (cI, 3, .inl (fun _ => 0))), ((u_2 1), .inl (cI, 9216, .inl (upd (fun k => if 0 ≤ k ∧ k < 9 then 2147483647 else 0) 0 0))), ((u_2 0), .inr (4, [.ref (u_2 1), .ref (u_2 2), .ref (u_2 3), .ref (p3 1), .int 1, .int 1]))] := hD
        refine lv_goto (tgt := 97) hx hb dX6_fewest_93 (by decide) ?_
        exact k_ri B hP hD hS dX6_fewest_97 (5, (fun k9 => match k9 with | 0 => (u_2 2) | 1 => (u_2 3) | 2 => (u_2 1) | 3 => (u_2 0) | _ => 0)) [0, 1, 3, 5, 6, 2, 4, 7, 8] rfl rfl rfl (Nat.le_of_ble_eq_true rfl) (Nat.le_of_ble_eq_true rfl) ⟨c_8, c_9, c_16, rfl⟩
  · exact False.elim hw
set_option maxHeartbeats 4000000 in
set_option maxRecDepth 100000 in
theorem c_X7_is_v16 (l : Launch) (dC : Nat → ClassId) (dI : Nat → Nat → Nat) (cI cJ cZ cM : ClassId) (p0 : Int32)   : k_Mi l yX7_is wsX7_is ({ frames := 1, cells := 0, slots := 0, locals := 40 }) (dC, dI) vwCl (tyy cI cJ cZ cM) [] [.int p0, .int 0, .int 0] 0 0 (fun (u9 : (Nat × (Nat → Nat))) => []) (fun (r9 : Int32) (u9 : (Nat × (Nat → Nat))) => match u9.1 with | 0 => (p0.toInt < 0) ∧ r9 = 0 | 1 => (0 ≤ p0.toInt) ∧ (0 < p0.toInt) ∧ r9 = 0 | 2 => (0 ≤ p0.toInt) ∧ (p0.toInt ≤ 0) ∧ r9 = 1 | _ => False) := by
  refine fun sz => k_enter (cc := cX7_is) (maxL := 3) (ret := some (.boolean)) (Qc := fun A => va_Qi (fun (r9 : Int32) (u9 : (Nat × (Nat → Nat))) => match u9.1 with | 0 => (p0.toInt < 0) ∧ r9 = 0 | 1 => (0 ≤ p0.toInt) ∧ (0 < p0.toInt) ∧ r9 = 0 | 2 => (0 ≤ p0.toInt) ∧ (p0.toInt ≤ 0) ∧ r9 = 1 | _ => False) (fun u => k_B (dC, dI) vwCl (tyy cI cJ cZ cM) A ((fun (u9 : (Nat × (Nat → Nat))) => []) u)) A) sz (by decide +kernel) rfl (Nat.le_of_ble_eq_true rfl) (fun p e s m args below meth c A ls H locs B hP hD hS hl => ?_)
  obtain ⟨hx, hb, hml, hown, hts, hr, hlk, hnm, hK, hA, hN, hC⟩ := id B
  have hown : s.vm.findClass RX7 = some m.cls := hown
  have hl : lv_has ls 3 [(0, .int p0), (1, .int 0), (2, .int 0)] := hl
  refine lv_iload_n hx hb dX7_is_0 rfl (lv_at hl 0 rfl) ?_
  refine lv_iload_n hx hb dX7_is_1 rfl (lv_at hl 1 rfl) ?_
  refine lv_icmp_lt (tgt := 14) hx hb dX7_is_2 (by decide) (fun c_1 => ?_) (fun c_1 => ?_)
  · have c_1 : p0.toInt < 0 := k_ltT rfl (by decide +kernel) c_1
    refine lv_iconst (v := 0) hx hb dX7_is_14 (by decide +kernel) ?_
    exact k_ri B hP hD hS dX7_is_15 (0, (fun _ => 0)) [] rfl rfl rfl (Nat.le_of_ble_eq_true rfl) (Nat.le_of_ble_eq_true rfl) ⟨c_1, rfl⟩
  · have c_1 : 0 ≤ p0.toInt := k_ltF rfl (by decide +kernel) c_1
    refine lv_iload_n hx hb dX7_is_5 rfl (lv_at hl 0 rfl) ?_
    refine lv_iload_n hx hb dX7_is_6 rfl (lv_at hl 2 rfl) ?_
    refine lv_icmp_gt (tgt := 14) hx hb dX7_is_7 (by decide) (fun c_2 => ?_) (fun c_2 => ?_)
    · have c_2 : 0 < p0.toInt := k_ltT (by decide +kernel) rfl c_2
      refine lv_iconst (v := 0) hx hb dX7_is_14 (by decide +kernel) ?_
      exact k_ri B hP hD hS dX7_is_15 (1, (fun _ => 0)) [] rfl rfl rfl (Nat.le_of_ble_eq_true rfl) (Nat.le_of_ble_eq_true rfl) ⟨c_1, c_2, rfl⟩
    · have c_2 : p0.toInt ≤ 0 := k_ltF (by decide +kernel) rfl c_2
      refine lv_iconst (v := 1) hx hb dX7_is_10 (by decide +kernel) ?_
      refine lv_goto (tgt := 15) hx hb dX7_is_11 (by decide) ?_
      exact k_ri B hP hD hS dX7_is_15 (2, (fun _ => 0)) [] rfl rfl rfl (Nat.le_of_ble_eq_true rfl) (Nat.le_of_ble_eq_true rfl) ⟨c_1, c_2, rfl⟩
set_option maxHeartbeats 4000000 in
set_option maxRecDepth 100000 in
theorem c_X7_finds_v0 (l : Launch) (dC : Nat → ClassId) (dI : Nat → Nat → Nat) (cI cJ cZ cM : ClassId) (p0 : Nat) (p1 : Int32) (p2 : Nat → Nat) (b_0 : 0 ≤ p1.toInt) (t_0 : p1.toInt ≤ 0)  : k_Mv l yX7_finds wsX7_finds ({ frames := 3, cells := 0, slots := 0, locals := 88 }) (dC, dI) vwCl (tyy cI cJ cZ cM) [(p0, .inr (7, oM p2 i7 j7)), ((p2 49), .inl (cI, 22, .inl (fun _ => 0))), ((p2 50), .inl (cI, 22, .inl (fun _ => 0))), ((p2 72), .inl (cI, 9216, .inl (fun _ => 0))), ((p2 14), .inl (cI, 2, .inl (fun _ => 0))), ((p2 18), .inl (cI, 2, .inl (fun _ => 0)))] [.ref p0, .int p1] 0 0 (fun (u9 : Unit) => [(p0, .inr (7, oM p2 (upd (upd i7 75 0) 76 0) j7)), ((p2 49), .inl (cI, 22, .inl (fun _ => 0))), ((p2 50), .inl (cI, 22, .inl (fun _ => 0))), ((p2 72), .inl (cI, 9216, .inl (upd (fun _ => (-1)) 0 0))), ((p2 14), .inl (cI, 2, .inl (fun _ => 0))), ((p2 18), .inl (cI, 2, .inl (fun _ => 0)))]) (fun (u9 : Unit) => True) := by
  refine fun sz => k_enter (cc := cX7_finds) (maxL := 5) (ret := none) (Qc := fun A => va_Qv (fun (u9 : Unit) => True) (fun u => k_B (dC, dI) vwCl (tyy cI cJ cZ cM) A ((fun (u9 : Unit) => [(p0, .inr (7, oM p2 (upd (upd i7 75 0) 76 0) j7)), ((p2 49), .inl (cI, 22, .inl (fun _ => 0))), ((p2 50), .inl (cI, 22, .inl (fun _ => 0))), ((p2 72), .inl (cI, 9216, .inl (upd (fun _ => (-1)) 0 0))), ((p2 14), .inl (cI, 2, .inl (fun _ => 0))), ((p2 18), .inl (cI, 2, .inl (fun _ => 0)))]) u)) A) sz (by decide +kernel) rfl (Nat.le_of_ble_eq_true rfl) (fun p e s m args below meth c A ls H locs B hP hD hS hl => ?_)
  obtain ⟨hx, hb, hml, hown, hts, hr, hlk, hnm, hK, hA, hN, hC⟩ := id B
  have hown : s.vm.findClass RX7 = some m.cls := hown
  have hl : lv_has ls 5 [(0, .ref p0), (1, .int p1)] := hl
  have w_0 : (Cond.fieldLink RX7 240 "WishSeaModel" "foundRung" "I").before args s = true := hts _ (List.mem_of_getElem? (i := 1) rfl)
  have w_1 : (Cond.fieldLink RX7 54 "WishSeaModel" "things" "[I").before args s = true := hts _ (List.mem_of_getElem? (i := 2) rfl)
  have w_2 : (Cond.fieldLink RX7 51 "WishSeaModel" "bank" "I").before args s = true := hts _ (List.mem_of_getElem? (i := 3) rfl)
  have w_3 : (Cond.fieldLink RX7 231 "WishSeaModel" "rungSea" "[I").before args s = true := hts _ (List.mem_of_getElem? (i := 4) rfl)
  have w_4 : (Cond.fieldLink RX7 243 "WishSeaModel" "foundSet" "I").before args s = true := hts _ (List.mem_of_getElem? (i := 5) rfl)
  have hinX7 : ∀ w ∈ u_ws RX7 TX7 92, w ∈ wsX7_finds := fun _ h => List.mem_cons_of_mem _ (List.mem_append_right _ h)
  rcases (show p1.toInt = 0 by omega) with c_1
  obtain rfl : p1 = 0 := k_eqL (by decide +kernel) c_1
  refine lv_aload_n hx hb dX7_finds_0 rfl (lv_at hl 0 rfl) ?_
  refine k_cv (wc := [(p0, .inr (7, oM p2 i7 j7)), ((p2 49), .inl (cI, 22, .inl (fun _ => 0))), ((p2 50), .inl (cI, 22, .inl (fun _ => 0))), ((p2 72), .inl (cI, 9216, .inl (fun _ => 0))), ((p2 14), .inl (cI, 2, .inl (fun _ => 0))), ((p2 18), .inl (cI, 2, .inl (fun _ => 0)))]) (wr := []) (fun hPc hDc hFc => va_runV (As := []) (rest := []) ⟨hx, hb, hml, hown, hts⟩ (c_X7_climbs_v0 l dC dI cI cJ cZ cM p0 p2 H.size) (cwV 0 hts gX7_finds_X7_climbs rfl rfl rfl (by decide +kernel) ⟨(Nat.le_of_ble_eq_true rfl), (Nat.le_of_ble_eq_true rfl)⟩) (k_pV hPc hDc hK hN hC hS hFc hP (q0 := 0) (ci := 7) rfl rfl) rfl rfl hl.1 rfl (lv_room (Nat.le_of_ble_eq_true rfl)) dX7_finds_1 ⟨(Nat.le_of_ble_eq_true rfl), (Nat.le_of_ble_eq_true rfl)⟩) hP hD hS hA [0, 1, 2, 3, 4, 5] [] rfl rfl rfl rfl (by decide) (fun _ => rfl) 0 0 rfl rfl (fun u_3 H locs hw hP hD hS => ?_)
  have hP : va_P (dC, dI) vwCl [(p0, .inr (7, oM p2 i7 j7)), ((p2 49), .inl (cI, 22, .inl (fun _ => 0))), ((p2 50), .inl (cI, 22, .inl (fun _ => 0))), ((p2 72), .inl (cI, 9216, .inl (upd (fun _ => (-1)) 0 0))), ((p2 14), .inl (cI, 2, .inl (fun _ => 0))), ((p2 18), .inl (cI, 2, .inl (fun _ => 0)))] H := hP
  have hD : va_D A [(p0, .inr (7, oM p2 i7 j7)), ((p2 49), .inl (cI, 22, .inl (fun _ => 0))), ((p2 50), .inl (cI, 22, .inl (fun _ => 0))), ((p2 72), .inl (cI, 9216, .inl (upd (fun _ => (-1)) 0 0))), ((p2 14), .inl (cI, 2, .inl (fun _ => 0))), ((p2 18), .inl (cI, 2, .inl (fun _ => 0)))] := hD
  refine lv_aload_n hx hb dX7_finds_4 rfl (lv_at hl 0 rfl) ?_
  refine lv_iconst (v := (-1)) hx hb dX7_finds_5 (by decide +kernel) ?_
  refine k_put (D := (dC, dI)) (ci := 7) (v := .int (-1)) (C := RX7) (T := TX7) (N := 92) (ws' := [(p0, .inr (7, oM p2 (upd i7 75 (-1)) j7)), ((p2 49), .inl (cI, 22, .inl (fun _ => 0))), ((p2 50), .inl (cI, 22, .inl (fun _ => 0))), ((p2 72), .inl (cI, 9216, .inl (upd (fun _ => (-1)) 0 0))), ((p2 14), .inl (cI, 2, .inl (fun _ => 0))), ((p2 18), .inl (cI, 2, .inl (fun _ => 0)))]) hx hb hts hinX7 tyX7 tyX7_ok nmX7 hown hK hP hD hS 0 rfl rfl 75 (by decide) w_0 rfl rfl rfl rfl (Nat.le_of_ble_eq_true rfl) rfl dX7_finds_6 (fun H locs hP hD hS => ?_)
  refine lv_iconst (v := 0) hx hb dX7_finds_9 (by decide +kernel) ?_
  refine lv_istore_n (lv' := [(2, .int 0), (0, .ref p0), (1, .int 0)]) hx hb dX7_finds_10 rfl hl (by decide) rfl (fun ls hl => ?_)
  refine lv_iload_n hx hb dX7_finds_11 rfl (lv_at hl 0 rfl) ?_
  refine lv_bipush (v := 8) hx hb dX7_finds_12 (by decide +kernel) ?_
  refine lv_icmp_gt (tgt := 129) hx hb dX7_finds_14 (by decide) (fun q9 => absurd q9 (by decide +kernel)) (fun _ => ?_)
  refine lv_aload_n hx hb dX7_finds_17 rfl (lv_at hl 1 rfl) ?_
  refine k_get (D := (dC, dI)) (ci := 7) (v := .int (-1)) (C := RX7) (T := TX7) (N := 92) hx hb hts hinX7 hown hK hP 0 rfl rfl 75 (by decide) w_0 rfl rfl dX7_finds_18 ?_
  refine lv_iconst (v := (-1)) hx hb dX7_finds_21 (by decide +kernel) ?_
  refine lv_icmp_ne (tgt := 129) hx hb dX7_finds_22 (by decide) (fun q9 => absurd q9 (by decide +kernel)) (fun _ => ?_)
  refine lv_iconst (v := 0) hx hb dX7_finds_25 (by decide +kernel) ?_
  refine lv_istore_n (lv' := [(3, .int 0), (2, .int 0), (0, .ref p0), (1, .int 0)]) hx hb dX7_finds_26 rfl hl (by decide) rfl (fun ls hl => ?_)
  refine lv_iload_n hx hb dX7_finds_27 rfl (lv_at hl 0 rfl) ?_
  refine lv_iconst (v := 1) hx hb dX7_finds_28 (by decide +kernel) ?_
  refine lv_aload_n hx hb dX7_finds_29 rfl (lv_at hl 2 rfl) ?_
  refine k_get (D := (dC, dI)) (ci := 7) (v := .ref (p2 14)) (C := RX7) (T := TX7) (N := 92) hx hb hts hinX7 hown hK hP 0 rfl rfl 14 (by decide) w_1 rfl rfl dX7_finds_30 ?_
  refine lv_aload_n hx hb dX7_finds_33 rfl (lv_at hl 2 rfl) ?_
  refine k_get (D := (dC, dI)) (ci := 7) (v := .int 0) (C := RX7) (T := TX7) (N := 92) hx hb hts hinX7 hown hK hP 0 rfl rfl 13 (by decide) w_2 rfl rfl dX7_finds_34 ?_
  refine k_iald (v := 0) hx hb hK hP 4 0 0 rfl rfl rfl (Nat.le_of_ble_eq_true rfl) (Nat.le_of_ble_eq_true rfl) rfl dX7_finds_37 ?_
  refine lv_ishl hx hb dX7_finds_38 ?_
  refine k_int (v := 1) (by decide +kernel) ?_
  refine lv_icmp_ge (tgt := 123) hx hb dX7_finds_39 (by decide) (fun q9 => absurd q9 (by decide +kernel)) (fun _ => ?_)
  refine lv_aload_n hx hb dX7_finds_42 rfl (lv_at hl 2 rfl) ?_
  refine k_get (D := (dC, dI)) (ci := 7) (v := .ref (p2 72)) (C := RX7) (T := TX7) (N := 92) hx hb hts hinX7 hown hK hP 0 rfl rfl 72 (by decide) w_3 rfl rfl dX7_finds_43 ?_
  refine lv_sipush (v := 1024) hx hb dX7_finds_46 (by decide +kernel) ?_
  refine lv_iload_n hx hb dX7_finds_49 rfl (lv_at hl 1 rfl) ?_
  refine lv_imul hx hb dX7_finds_50 ?_
  refine k_int (v := 0) (by decide +kernel) ?_
  refine lv_iload_n hx hb dX7_finds_51 rfl (lv_at hl 0 rfl) ?_
  refine lv_iadd hx hb dX7_finds_52 ?_
  refine k_int (v := 0) (by decide +kernel) ?_
  refine k_iald (v := 0) hx hb hK hP 3 0 0 rfl rfl rfl (Nat.le_of_ble_eq_true rfl) (Nat.le_of_ble_eq_true rfl) rfl dX7_finds_53 ?_
  refine lv_istore (lv' := [(4, .int 0), (3, .int 0), (2, .int 0), (0, .ref p0), (1, .int 0)]) hx hb dX7_finds_54 hl (by decide) rfl (fun ls hl => ?_)
  refine lv_iload hx hb dX7_finds_56 (lv_at hl 0 rfl) ?_
  refine lv_iconst (v := (-1)) hx hb dX7_finds_58 (by decide +kernel) ?_
  refine lv_icmp_eq (tgt := 117) hx hb dX7_finds_59 (by decide) (fun q9 => absurd q9 (by decide +kernel)) (fun _ => ?_)
  refine lv_iload_n hx hb dX7_finds_62 rfl (lv_at hl 4 rfl) ?_
  refine lv_iconst (v := (-1)) hx hb dX7_finds_63 (by decide +kernel) ?_
  refine lv_icmp_ne (tgt := 79) hx hb dX7_finds_64 (by decide) (fun _ => ?_) (fun q9 => absurd q9 (by decide +kernel))
  refine lv_iload_n hx hb dX7_finds_79 rfl (lv_at hl 4 rfl) ?_
  refine lv_iload_n hx hb dX7_finds_80 rfl (lv_at hl 1 rfl) ?_
  refine lv_iconst (v := (-1)) hx hb dX7_finds_81 (by decide +kernel) ?_
  refine lv_ixor hx hb dX7_finds_82 ?_
  refine k_int (v := (-1)) (by decide +kernel) ?_
  refine lv_iand hx hb dX7_finds_83 ?_
  refine k_int (v := 0) (by decide +kernel) ?_
  refine lv_if_ne (tgt := 117) hx hb dX7_finds_84 (by decide) (fun q9 => absurd q9 (by decide +kernel)) (fun _ => ?_)
  refine lv_aload_n hx hb dX7_finds_87 rfl (lv_at hl 3 rfl) ?_
  refine k_get (D := (dC, dI)) (ci := 7) (v := .int (-1)) (C := RX7) (T := TX7) (N := 92) hx hb hts hinX7 hown hK hP 0 rfl rfl 75 (by decide) w_0 rfl rfl dX7_finds_88 ?_
  refine lv_iconst (v := (-1)) hx hb dX7_finds_91 (by decide +kernel) ?_
  refine lv_icmp_eq (tgt := 107) hx hb dX7_finds_92 (by decide) (fun _ => ?_) (fun q9 => absurd q9 (by decide +kernel))
  refine lv_aload_n hx hb dX7_finds_107 rfl (lv_at hl 3 rfl) ?_
  refine lv_iload_n hx hb dX7_finds_108 rfl (lv_at hl 2 rfl) ?_
  refine k_put (D := (dC, dI)) (ci := 7) (v := .int 0) (C := RX7) (T := TX7) (N := 92) (ws' := [(p0, .inr (7, oM p2 (upd i7 75 0) j7)), ((p2 49), .inl (cI, 22, .inl (fun _ => 0))), ((p2 50), .inl (cI, 22, .inl (fun _ => 0))), ((p2 72), .inl (cI, 9216, .inl (upd (fun _ => (-1)) 0 0))), ((p2 14), .inl (cI, 2, .inl (fun _ => 0))), ((p2 18), .inl (cI, 2, .inl (fun _ => 0)))]) hx hb hts hinX7 tyX7 tyX7_ok nmX7 hown hK hP hD hS 0 rfl rfl 75 (by decide) w_0 rfl rfl rfl rfl (Nat.le_of_ble_eq_true rfl) rfl dX7_finds_109 (fun H locs hP hD hS => ?_)
  refine lv_aload_n hx hb dX7_finds_112 rfl (lv_at hl 3 rfl) ?_
  refine lv_iload_n hx hb dX7_finds_113 rfl (lv_at hl 1 rfl) ?_
  refine k_put (D := (dC, dI)) (ci := 7) (v := .int 0) (C := RX7) (T := TX7) (N := 92) (ws' := [(p0, .inr (7, oM p2 (upd (upd i7 75 0) 76 0) j7)), ((p2 49), .inl (cI, 22, .inl (fun _ => 0))), ((p2 50), .inl (cI, 22, .inl (fun _ => 0))), ((p2 72), .inl (cI, 9216, .inl (upd (fun _ => (-1)) 0 0))), ((p2 14), .inl (cI, 2, .inl (fun _ => 0))), ((p2 18), .inl (cI, 2, .inl (fun _ => 0)))]) hx hb hts hinX7 tyX7 tyX7_ok nmX7 hown hK hP hD hS 0 rfl rfl 76 (by decide) w_4 rfl rfl rfl rfl (Nat.le_of_ble_eq_true rfl) rfl dX7_finds_114 (fun H locs hP hD hS => ?_)
  refine lv_iinc (v := 1) (lv' := [(3, .int 1), (4, .int 0), (2, .int 0), (0, .ref p0), (1, .int 0)]) hx hb dX7_finds_117 hl (k := 1) rfl (by decide +kernel) (by decide) rfl (fun ls hl => ?_)
  refine lv_goto (tgt := 27) hx hb dX7_finds_120 (by decide) ?_
  refine lv_iload_n hx hb dX7_finds_27 rfl (lv_at hl 0 rfl) ?_
  refine lv_iconst (v := 1) hx hb dX7_finds_28 (by decide +kernel) ?_
  refine lv_aload_n hx hb dX7_finds_29 rfl (lv_at hl 3 rfl) ?_
  refine k_get (D := (dC, dI)) (ci := 7) (v := .ref (p2 14)) (C := RX7) (T := TX7) (N := 92) hx hb hts hinX7 hown hK hP 0 rfl rfl 14 (by decide) w_1 rfl rfl dX7_finds_30 ?_
  refine lv_aload_n hx hb dX7_finds_33 rfl (lv_at hl 3 rfl) ?_
  refine k_get (D := (dC, dI)) (ci := 7) (v := .int 0) (C := RX7) (T := TX7) (N := 92) hx hb hts hinX7 hown hK hP 0 rfl rfl 13 (by decide) w_2 rfl rfl dX7_finds_34 ?_
  refine k_iald (v := 0) hx hb hK hP 4 0 0 rfl rfl rfl (Nat.le_of_ble_eq_true rfl) (Nat.le_of_ble_eq_true rfl) rfl dX7_finds_37 ?_
  refine lv_ishl hx hb dX7_finds_38 ?_
  refine k_int (v := 1) (by decide +kernel) ?_
  refine lv_icmp_ge (tgt := 123) hx hb dX7_finds_39 (by decide) (fun _ => ?_) (fun q9 => absurd q9 (by decide +kernel))
  refine lv_iinc (v := 1) (lv' := [(2, .int 1), (3, .int 1), (4, .int 0), (0, .ref p0), (1, .int 0)]) hx hb dX7_finds_123 hl (k := 2) rfl (by decide +kernel) (by decide) rfl (fun ls hl => ?_)
  refine lv_goto (tgt := 11) hx hb dX7_finds_126 (by decide) ?_
  refine lv_iload_n hx hb dX7_finds_11 rfl (lv_at hl 0 rfl) ?_
  refine lv_bipush (v := 8) hx hb dX7_finds_12 (by decide +kernel) ?_
  refine lv_icmp_gt (tgt := 129) hx hb dX7_finds_14 (by decide) (fun q9 => absurd q9 (by decide +kernel)) (fun _ => ?_)
  refine lv_aload_n hx hb dX7_finds_17 rfl (lv_at hl 3 rfl) ?_
  refine k_get (D := (dC, dI)) (ci := 7) (v := .int 0) (C := RX7) (T := TX7) (N := 92) hx hb hts hinX7 hown hK hP 0 rfl rfl 75 (by decide) w_0 rfl rfl dX7_finds_18 ?_
  refine lv_iconst (v := (-1)) hx hb dX7_finds_21 (by decide +kernel) ?_
  refine lv_icmp_ne (tgt := 129) hx hb dX7_finds_22 (by decide) (fun _ => ?_) (fun q9 => absurd q9 (by decide +kernel))
  exact k_rv B hP hD hS dX7_finds_129 () [0, 1, 2, 3, 4, 5] rfl rfl (Nat.le_of_ble_eq_true rfl) (Nat.le_of_ble_eq_true rfl) trivial
set_option maxHeartbeats 4000000 in
set_option maxRecDepth 100000 in
theorem c_X7_is_v17 (l : Launch) (dC : Nat → ClassId) (dI : Nat → Nat → Nat) (cI cJ cZ cM : ClassId) (p0 : Int32)   : k_Mi l yX7_is wsX7_is ({ frames := 1, cells := 0, slots := 0, locals := 40 }) (dC, dI) vwCl (tyy cI cJ cZ cM) [] [.int p0, .int 10, .int 9] 0 0 (fun (u9 : Unit) => []) (fun (r9 : Int32) (u9 : Unit) => r9 = 0) := by
  refine fun sz => k_enter (cc := cX7_is) (maxL := 3) (ret := some (.boolean)) (Qc := fun A => va_Qi (fun (r9 : Int32) (u9 : Unit) => r9 = 0) (fun u => k_B (dC, dI) vwCl (tyy cI cJ cZ cM) A ((fun (u9 : Unit) => []) u)) A) sz (by decide +kernel) rfl (Nat.le_of_ble_eq_true rfl) (fun p e s m args below meth c A ls H locs B hP hD hS hl => ?_)
  obtain ⟨hx, hb, hml, hown, hts, hr, hlk, hnm, hK, hA, hN, hC⟩ := id B
  have hown : s.vm.findClass RX7 = some m.cls := hown
  have hl : lv_has ls 3 [(0, .int p0), (1, .int 10), (2, .int 9)] := hl
  refine lv_iload_n hx hb dX7_is_0 rfl (lv_at hl 0 rfl) ?_
  refine lv_iload_n hx hb dX7_is_1 rfl (lv_at hl 1 rfl) ?_
  refine lv_icmp_lt (tgt := 14) hx hb dX7_is_2 (by decide) (fun c_1 => ?_) (fun c_1 => ?_)
  · have c_1 : p0.toInt < 10 := k_ltT rfl (by decide +kernel) c_1
    refine lv_iconst (v := 0) hx hb dX7_is_14 (by decide +kernel) ?_
    exact k_ri B hP hD hS dX7_is_15 () [] rfl rfl rfl (Nat.le_of_ble_eq_true rfl) (Nat.le_of_ble_eq_true rfl) rfl
  · have c_1 : 10 ≤ p0.toInt := k_ltF rfl (by decide +kernel) c_1
    refine lv_iload_n hx hb dX7_is_5 rfl (lv_at hl 0 rfl) ?_
    refine lv_iload_n hx hb dX7_is_6 rfl (lv_at hl 2 rfl) ?_
    refine lv_icmp_gt (tgt := 14) hx hb dX7_is_7 (by decide) (fun c_2 => ?_) (fun c_2 => ?_)
    · have c_2 : 9 < p0.toInt := k_ltT (by decide +kernel) rfl c_2
      refine lv_iconst (v := 0) hx hb dX7_is_14 (by decide +kernel) ?_
      exact k_ri B hP hD hS dX7_is_15 () [] rfl rfl rfl (Nat.le_of_ble_eq_true rfl) (Nat.le_of_ble_eq_true rfl) rfl
    · have c_2 : p0.toInt ≤ 9 := k_ltF (by decide +kernel) rfl c_2
      exfalso; omega
set_option maxHeartbeats 4000000 in
set_option maxRecDepth 100000 in
theorem c_X7_foundSea_v0 (l : Launch) (dC : Nat → ClassId) (dI : Nat → Nat → Nat) (cI cJ cZ cM : ClassId) (p0 : Nat) (p1 : Nat → Nat)   : k_Mi l yX7_foundSea wsX7_foundSea ({ frames := 1, cells := 0, slots := 0, locals := 40 }) (dC, dI) vwCl (tyy cI cJ cZ cM) [(p0, .inr (7, oM p1 (upd (upd i7 75 0) 76 0) j7)), ((p1 72), .inl (cI, 9216, .inl (upd (fun _ => (-1)) 0 0)))] [.ref p0] 0 0 (fun (u9 : Unit) => [(p0, .inr (7, oM p1 (upd (upd i7 75 0) 76 0) j7)), ((p1 72), .inl (cI, 9216, .inl (upd (fun _ => (-1)) 0 0)))]) (fun (r9 : Int32) (u9 : Unit) => r9 = 0) := by
  refine fun sz => k_enter (cc := cX7_foundSea) (maxL := 1) (ret := some (.int)) (Qc := fun A => va_Qi (fun (r9 : Int32) (u9 : Unit) => r9 = 0) (fun u => k_B (dC, dI) vwCl (tyy cI cJ cZ cM) A ((fun (u9 : Unit) => [(p0, .inr (7, oM p1 (upd (upd i7 75 0) 76 0) j7)), ((p1 72), .inl (cI, 9216, .inl (upd (fun _ => (-1)) 0 0)))]) u)) A) sz (by decide +kernel) rfl (Nat.le_of_ble_eq_true rfl) (fun p e s m args below meth c A ls H locs B hP hD hS hl => ?_)
  obtain ⟨hx, hb, hml, hown, hts, hr, hlk, hnm, hK, hA, hN, hC⟩ := id B
  have hown : s.vm.findClass RX7 = some m.cls := hown
  have hl : lv_has ls 1 [(0, .ref p0)] := hl
  have w_0 : (Cond.fieldLink RX7 231 "WishSeaModel" "rungSea" "[I").before args s = true := hts _ (List.mem_of_getElem? (i := 1) rfl)
  have w_1 : (Cond.fieldLink RX7 240 "WishSeaModel" "foundRung" "I").before args s = true := hts _ (List.mem_of_getElem? (i := 2) rfl)
  have w_2 : (Cond.fieldLink RX7 243 "WishSeaModel" "foundSet" "I").before args s = true := hts _ (List.mem_of_getElem? (i := 3) rfl)
  have hinX7 : ∀ w ∈ u_ws RX7 TX7 92, w ∈ wsX7_foundSea := fun _ h => List.mem_cons_of_mem _ (List.mem_append_right _ h)
  refine lv_aload_n hx hb dX7_foundSea_0 rfl (lv_at hl 0 rfl) ?_
  refine k_get (D := (dC, dI)) (ci := 7) (v := .ref (p1 72)) (C := RX7) (T := TX7) (N := 92) hx hb hts hinX7 hown hK hP 0 rfl rfl 72 (by decide) w_0 rfl rfl dX7_foundSea_1 ?_
  refine lv_sipush (v := 1024) hx hb dX7_foundSea_4 (by decide +kernel) ?_
  refine lv_aload_n hx hb dX7_foundSea_7 rfl (lv_at hl 0 rfl) ?_
  refine k_get (D := (dC, dI)) (ci := 7) (v := .int 0) (C := RX7) (T := TX7) (N := 92) hx hb hts hinX7 hown hK hP 0 rfl rfl 75 (by decide) w_1 rfl rfl dX7_foundSea_8 ?_
  refine lv_imul hx hb dX7_foundSea_11 ?_
  refine k_int (v := 0) (by decide +kernel) ?_
  refine lv_aload_n hx hb dX7_foundSea_12 rfl (lv_at hl 0 rfl) ?_
  refine k_get (D := (dC, dI)) (ci := 7) (v := .int 0) (C := RX7) (T := TX7) (N := 92) hx hb hts hinX7 hown hK hP 0 rfl rfl 76 (by decide) w_2 rfl rfl dX7_foundSea_13 ?_
  refine lv_iadd hx hb dX7_foundSea_16 ?_
  refine k_int (v := 0) (by decide +kernel) ?_
  refine k_iald (v := 0) hx hb hK hP 1 0 0 rfl rfl rfl (Nat.le_of_ble_eq_true rfl) (Nat.le_of_ble_eq_true rfl) rfl dX7_foundSea_17 ?_
  exact k_ri B hP hD hS dX7_foundSea_18 () [0, 1] rfl rfl rfl (Nat.le_of_ble_eq_true rfl) (Nat.le_of_ble_eq_true rfl) rfl
set_option maxHeartbeats 4000000 in
set_option maxRecDepth 100000 in
theorem c_X7_fewest_v0 (l : Launch) (dC : Nat → ClassId) (dI : Nat → Nat → Nat) (cI cJ cZ cM : ClassId) (p0 : Nat) (p1 : Int32) (p2 : Int32) (p3 : Nat → Nat)   : k_Mi l yX7_fewest wsX7_fewest ({ frames := 4, cells := 0, slots := 0, locals := 112 }) (dC, dI) vwCl (tyy cI cJ cZ cM) [(p0, .inr (7, oM p3 i7 j7)), ((p3 14), .inl (cI, 2, .inl (fun _ => 0))), ((p3 49), .inl (cI, 22, .inl (fun _ => 0))), ((p3 50), .inl (cI, 22, .inl (fun _ => 0))), ((p3 72), .inl (cI, 9216, .inl (fun _ => 0))), ((p3 18), .inl (cI, 2, .inl (fun _ => 0)))] [.ref p0, .int p1, .int p2] 0 0 (fun (u9 : (Nat × (Nat → Nat))) => match u9.1 with | 0 => [(p0, .inr (7, oM p3 i7 j7)), ((p3 14), .inl (cI, 2, .inl (fun _ => 0))), ((p3 49), .inl (cI, 22, .inl (fun _ => 0))), ((p3 50), .inl (cI, 22, .inl (fun _ => 0))), ((p3 72), .inl (cI, 9216, .inl (fun _ => 0))), ((p3 18), .inl (cI, 2, .inl (fun _ => 0)))] | 1 => [(p0, .inr (7, oM p3 i7 j7)), ((p3 14), .inl (cI, 2, .inl (fun _ => 0))), ((p3 49), .inl (cI, 22, .inl (fun _ => 0))), ((p3 50), .inl (cI, 22, .inl (fun _ => 0))), ((p3 72), .inl (cI, 9216, .inl (fun _ => 0))), ((p3 18), .inl (cI, 2, .inl (fun _ => 0)))] | 2 => [(p0, .inr (7, oM p3 (upd (upd i7 75 0) 76 0) j7)), ((p3 14), .inl (cI, 2, .inl (fun _ => 0))), ((p3 49), .inl (cI, 22, .inl (fun _ => 0))), ((p3 50), .inl (cI, 22, .inl (fun _ => 0))), ((p3 72), .inl (cI, 9216, .inl (upd (fun _ => (-1)) 0 0))), ((p3 18), .inl (cI, 2, .inl (fun _ => 0)))] | 3 => [(p0, .inr (7, oM p3 (upd (upd i7 75 0) 76 0) j7)), ((p3 14), .inl (cI, 2, .inl (fun _ => 0))), ((p3 49), .inl (cI, 22, .inl (fun _ => 0))), ((p3 50), .inl (cI, 22, .inl (fun _ => 0))), ((p3 72), .inl (cI, 9216, .inl (upd (fun _ => (-1)) 0 0))), ((p3 18), .inl (cI, 2, .inl (fun _ => 0)))] | 4 => [(p0, .inr (7, oM p3 (upd (upd i7 75 0) 76 0) j7)), ((p3 14), .inl (cI, 2, .inl (fun _ => 0))), ((p3 49), .inl (cI, 22, .inl (fun _ => 0))), ((p3 50), .inl (cI, 22, .inl (fun _ => 0))), ((p3 72), .inl (cI, 9216, .inl (upd (fun _ => (-1)) 0 0))), ((p3 18), .inl (cI, 2, .inl (fun _ => 0)))] | 5 => [(p0, .inr (7, oM p3 (upd (upd i7 75 0) 76 0) j7)), ((p3 14), .inl (cI, 2, .inl (fun _ => 0))), ((p3 49), .inl (cI, 22, .inl (fun _ => 0))), ((p3 50), .inl (cI, 22, .inl (fun _ => 0))), ((p3 72), .inl (cI, 9216, .inl (upd (fun _ => (-1)) 0 0))), ((p3 18), .inl (cI, 2, .inl (fun _ => 0)))] | _ => []) (fun (r9 : Int32) (u9 : (Nat × (Nat → Nat))) => match u9.1 with | 0 => (p1.toInt < 0) ∧ r9 = (-1) | 1 => (0 ≤ p1.toInt) ∧ (0 < p1.toInt) ∧ r9 = (-1) | 2 => (0 ≤ p1.toInt) ∧ (p1.toInt ≤ 0) ∧ (¬ p2.toInt = 0) ∧ (¬ p2.toInt = 1) ∧ (¬ p2.toInt = 2) ∧ r9 = (-1) | 3 => (0 ≤ p1.toInt) ∧ (p1.toInt ≤ 0) ∧ (¬ p2.toInt = 0) ∧ (¬ p2.toInt = 1) ∧ (p2.toInt = 2) ∧ r9 = 0 | 4 => (0 ≤ p1.toInt) ∧ (p1.toInt ≤ 0) ∧ (¬ p2.toInt = 0) ∧ (p2.toInt = 1) ∧ r9 = 0 | 5 => (0 ≤ p1.toInt) ∧ (p1.toInt ≤ 0) ∧ (p2.toInt = 0) ∧ r9 = 0 | _ => False) := by
  refine fun sz => k_enter (cc := cX7_fewest) (maxL := 3) (ret := some (.int)) (Qc := fun A => va_Qi (fun (r9 : Int32) (u9 : (Nat × (Nat → Nat))) => match u9.1 with | 0 => (p1.toInt < 0) ∧ r9 = (-1) | 1 => (0 ≤ p1.toInt) ∧ (0 < p1.toInt) ∧ r9 = (-1) | 2 => (0 ≤ p1.toInt) ∧ (p1.toInt ≤ 0) ∧ (¬ p2.toInt = 0) ∧ (¬ p2.toInt = 1) ∧ (¬ p2.toInt = 2) ∧ r9 = (-1) | 3 => (0 ≤ p1.toInt) ∧ (p1.toInt ≤ 0) ∧ (¬ p2.toInt = 0) ∧ (¬ p2.toInt = 1) ∧ (p2.toInt = 2) ∧ r9 = 0 | 4 => (0 ≤ p1.toInt) ∧ (p1.toInt ≤ 0) ∧ (¬ p2.toInt = 0) ∧ (p2.toInt = 1) ∧ r9 = 0 | 5 => (0 ≤ p1.toInt) ∧ (p1.toInt ≤ 0) ∧ (p2.toInt = 0) ∧ r9 = 0 | _ => False) (fun u => k_B (dC, dI) vwCl (tyy cI cJ cZ cM) A ((fun (u9 : (Nat × (Nat → Nat))) => match u9.1 with | 0 => [(p0, .inr (7, oM p3 i7 j7)), ((p3 14), .inl (cI, 2, .inl (fun _ => 0))), ((p3 49), .inl (cI, 22, .inl (fun _ => 0))), ((p3 50), .inl (cI, 22, .inl (fun _ => 0))), ((p3 72), .inl (cI, 9216, .inl (fun _ => 0))), ((p3 18), .inl (cI, 2, .inl (fun _ => 0)))] | 1 => [(p0, .inr (7, oM p3 i7 j7)), ((p3 14), .inl (cI, 2, .inl (fun _ => 0))), ((p3 49), .inl (cI, 22, .inl (fun _ => 0))), ((p3 50), .inl (cI, 22, .inl (fun _ => 0))), ((p3 72), .inl (cI, 9216, .inl (fun _ => 0))), ((p3 18), .inl (cI, 2, .inl (fun _ => 0)))] | 2 => [(p0, .inr (7, oM p3 (upd (upd i7 75 0) 76 0) j7)), ((p3 14), .inl (cI, 2, .inl (fun _ => 0))), ((p3 49), .inl (cI, 22, .inl (fun _ => 0))), ((p3 50), .inl (cI, 22, .inl (fun _ => 0))), ((p3 72), .inl (cI, 9216, .inl (upd (fun _ => (-1)) 0 0))), ((p3 18), .inl (cI, 2, .inl (fun _ => 0)))] | 3 => [(p0, .inr (7, oM p3 (upd (upd i7 75 0) 76 0) j7)), ((p3 14), .inl (cI, 2, .inl (fun _ => 0))), ((p3 49), .inl (cI, 22, .inl (fun _ => 0))), ((p3 50), .inl (cI, 22, .inl (fun _ => 0))), ((p3 72), .inl (cI, 9216, .inl (upd (fun _ => (-1)) 0 0))), ((p3 18), .inl (cI, 2, .inl (fun _ => 0)))] | 4 => [(p0, .inr (7, oM p3 (upd (upd i7 75 0) 76 0) j7)), ((p3 14), .inl (cI, 2, .inl (fun _ => 0))), ((p3 49), .inl (cI, 22, .inl (fun _ => 0))), ((p3 50), .inl (cI, 22, .inl (fun _ => 0))), ((p3 72), .inl (cI, 9216, .inl (upd (fun _ => (-1)) 0 0))), ((p3 18), .inl (cI, 2, .inl (fun _ => 0)))] | 5 => [(p0, .inr (7, oM p3 (upd (upd i7 75 0) 76 0) j7)), ((p3 14), .inl (cI, 2, .inl (fun _ => 0))), ((p3 49), .inl (cI, 22, .inl (fun _ => 0))), ((p3 50), .inl (cI, 22, .inl (fun _ => 0))), ((p3 72), .inl (cI, 9216, .inl (upd (fun _ => (-1)) 0 0))), ((p3 18), .inl (cI, 2, .inl (fun _ => 0)))] | _ => []) u)) A) sz (by decide +kernel) rfl (Nat.le_of_ble_eq_true rfl) (fun p e s m args below meth c A ls H locs B hP hD hS hl => ?_)
  obtain ⟨hx, hb, hml, hown, hts, hr, hlk, hnm, hK, hA, hN, hC⟩ := id B
  have hown : s.vm.findClass RX7 = some m.cls := hown
  have hl : lv_has ls 3 [(0, .ref p0), (1, .int p1), (2, .int p2)] := hl
  have w_0 : (Cond.fieldLink RX7 54 "WishSeaModel" "things" "[I").before args s = true := hts _ (List.mem_of_getElem? (i := 1) rfl)
  have w_1 : (Cond.fieldLink RX7 51 "WishSeaModel" "bank" "I").before args s = true := hts _ (List.mem_of_getElem? (i := 2) rfl)
  have w_2 : (Cond.fieldLink RX7 240 "WishSeaModel" "foundRung" "I").before args s = true := hts _ (List.mem_of_getElem? (i := 3) rfl)
  have w_3 : (Cond.fieldLink RX7 243 "WishSeaModel" "foundSet" "I").before args s = true := hts _ (List.mem_of_getElem? (i := 4) rfl)
  have hinX7 : ∀ w ∈ u_ws RX7 TX7 92, w ∈ wsX7_fewest := fun _ h => List.mem_cons_of_mem _ (List.mem_append_right _ h)
  refine lv_iload_n hx hb dX7_fewest_0 rfl (lv_at hl 1 rfl) ?_
  refine lv_iconst (v := 0) hx hb dX7_fewest_1 (by decide +kernel) ?_
  refine lv_iconst (v := 1) hx hb dX7_fewest_2 (by decide +kernel) ?_
  refine lv_aload_n hx hb dX7_fewest_3 rfl (lv_at hl 0 rfl) ?_
  refine k_get (D := (dC, dI)) (ci := 7) (v := .ref (p3 14)) (C := RX7) (T := TX7) (N := 92) hx hb hts hinX7 hown hK hP 0 rfl rfl 14 (by decide) w_0 rfl rfl dX7_fewest_4 ?_
  refine lv_aload_n hx hb dX7_fewest_7 rfl (lv_at hl 0 rfl) ?_
  refine k_get (D := (dC, dI)) (ci := 7) (v := .int 0) (C := RX7) (T := TX7) (N := 92) hx hb hts hinX7 hown hK hP 0 rfl rfl 13 (by decide) w_1 rfl rfl dX7_fewest_8 ?_
  refine k_iald (v := 0) hx hb hK hP 1 0 0 rfl rfl rfl (Nat.le_of_ble_eq_true rfl) (Nat.le_of_ble_eq_true rfl) rfl dX7_fewest_11 ?_
  refine lv_ishl hx hb dX7_fewest_12 ?_
  refine k_int (v := 1) (by decide +kernel) ?_
  refine lv_iconst (v := 1) hx hb dX7_fewest_13 (by decide +kernel) ?_
  refine lv_isub hx hb dX7_fewest_14 ?_
  refine k_int (v := 0) (by decide +kernel) ?_
  refine k_ci (wc := []) (wr := [(p0, .inr (7, oM p3 i7 j7)), ((p3 14), .inl (cI, 2, .inl (fun _ => 0))), ((p3 49), .inl (cI, 22, .inl (fun _ => 0))), ((p3 50), .inl (cI, 22, .inl (fun _ => 0))), ((p3 72), .inl (cI, 9216, .inl (fun _ => 0))), ((p3 18), .inl (cI, 2, .inl (fun _ => 0)))]) (fun hPc hDc hFc => va_runS (As := [.int p1, .int 0, .int 0]) (rest := []) ⟨hx, hb, hml, hown, hts⟩ (c_X7_is_v16 l dC dI cI cJ cZ cM p1 H.size) (va_cwS 3 hts gX7_fewest_X7_is rfl rfl rfl (by decide +kernel) ⟨(Nat.le_of_ble_eq_true rfl), (Nat.le_of_ble_eq_true rfl)⟩) (k_pS hPc hDc hK hN hC hS hFc) rfl rfl hl.1 rfl (lv_room (Nat.le_of_ble_eq_true rfl)) dX7_fewest_15 ⟨(Nat.le_of_ble_eq_true rfl), (Nat.le_of_ble_eq_true rfl)⟩) hP hD hS hA [] [0, 1, 2, 3, 4, 5] rfl rfl rfl rfl (by decide) (fun _ => rfl) 0 0 rfl rfl (fun r_1 u_2 H locs hw hP hD hS => ?_)
  obtain ⟨k_u_2, u_u_2⟩ := u_2
  rcases k_u_2 with _ | _ | _ | k_u_2
  · obtain ⟨c_3, rfl⟩ : (p1.toInt < 0) ∧ r_1 = 0 := hw
    have hP : va_P (dC, dI) vwCl [(p0, .inr (7, oM p3 i7 j7)), ((p3 14), .inl (cI, 2, .inl (fun _ => 0))), ((p3 49), .inl (cI, 22, .inl (fun _ => 0))), ((p3 50), .inl (cI, 22, .inl (fun _ => 0))), ((p3 72), .inl (cI, 9216, .inl (fun _ => 0))), ((p3 18), .inl (cI, 2, .inl (fun _ => 0)))] H := hP
    have hD : va_D A [(p0, .inr (7, oM p3 i7 j7)), ((p3 14), .inl (cI, 2, .inl (fun _ => 0))), ((p3 49), .inl (cI, 22, .inl (fun _ => 0))), ((p3 50), .inl (cI, 22, .inl (fun _ => 0))), ((p3 72), .inl (cI, 9216, .inl (fun _ => 0))), ((p3 18), .inl (cI, 2, .inl (fun _ => 0)))] := hD
    refine lv_if_ne (tgt := 23) hx hb dX7_fewest_18 (by decide) (fun q9 => absurd q9 (by decide +kernel)) (fun _ => ?_)
    refine lv_iconst (v := (-1)) hx hb dX7_fewest_21 (by decide +kernel) ?_
    exact k_ri B hP hD hS dX7_fewest_22 (0, (fun _ => 0)) [0, 1, 2, 3, 4, 5] rfl rfl rfl (Nat.le_of_ble_eq_true rfl) (Nat.le_of_ble_eq_true rfl) ⟨c_3, rfl⟩
  · obtain ⟨c_4, c_5, rfl⟩ : (0 ≤ p1.toInt) ∧ (0 < p1.toInt) ∧ r_1 = 0 := hw
    have hP : va_P (dC, dI) vwCl [(p0, .inr (7, oM p3 i7 j7)), ((p3 14), .inl (cI, 2, .inl (fun _ => 0))), ((p3 49), .inl (cI, 22, .inl (fun _ => 0))), ((p3 50), .inl (cI, 22, .inl (fun _ => 0))), ((p3 72), .inl (cI, 9216, .inl (fun _ => 0))), ((p3 18), .inl (cI, 2, .inl (fun _ => 0)))] H := hP
    have hD : va_D A [(p0, .inr (7, oM p3 i7 j7)), ((p3 14), .inl (cI, 2, .inl (fun _ => 0))), ((p3 49), .inl (cI, 22, .inl (fun _ => 0))), ((p3 50), .inl (cI, 22, .inl (fun _ => 0))), ((p3 72), .inl (cI, 9216, .inl (fun _ => 0))), ((p3 18), .inl (cI, 2, .inl (fun _ => 0)))] := hD
    refine lv_if_ne (tgt := 23) hx hb dX7_fewest_18 (by decide) (fun q9 => absurd q9 (by decide +kernel)) (fun _ => ?_)
    refine lv_iconst (v := (-1)) hx hb dX7_fewest_21 (by decide +kernel) ?_
    exact k_ri B hP hD hS dX7_fewest_22 (1, (fun _ => 0)) [0, 1, 2, 3, 4, 5] rfl rfl rfl (Nat.le_of_ble_eq_true rfl) (Nat.le_of_ble_eq_true rfl) ⟨c_4, c_5, rfl⟩
  · obtain ⟨c_6, c_7, rfl⟩ : (0 ≤ p1.toInt) ∧ (p1.toInt ≤ 0) ∧ r_1 = 1 := hw
    have hP : va_P (dC, dI) vwCl [(p0, .inr (7, oM p3 i7 j7)), ((p3 14), .inl (cI, 2, .inl (fun _ => 0))), ((p3 49), .inl (cI, 22, .inl (fun _ => 0))), ((p3 50), .inl (cI, 22, .inl (fun _ => 0))), ((p3 72), .inl (cI, 9216, .inl (fun _ => 0))), ((p3 18), .inl (cI, 2, .inl (fun _ => 0)))] H := hP
    have hD : va_D A [(p0, .inr (7, oM p3 i7 j7)), ((p3 14), .inl (cI, 2, .inl (fun _ => 0))), ((p3 49), .inl (cI, 22, .inl (fun _ => 0))), ((p3 50), .inl (cI, 22, .inl (fun _ => 0))), ((p3 72), .inl (cI, 9216, .inl (fun _ => 0))), ((p3 18), .inl (cI, 2, .inl (fun _ => 0)))] := hD
    refine lv_if_ne (tgt := 23) hx hb dX7_fewest_18 (by decide) (fun _ => ?_) (fun q9 => absurd q9 (by decide +kernel))
    refine lv_aload_n hx hb dX7_fewest_23 rfl (lv_at hl 0 rfl) ?_
    refine lv_iload_n hx hb dX7_fewest_24 rfl (lv_at hl 1 rfl) ?_
    refine k_cv (wc := [(p0, .inr (7, oM p3 i7 j7)), ((p3 49), .inl (cI, 22, .inl (fun _ => 0))), ((p3 50), .inl (cI, 22, .inl (fun _ => 0))), ((p3 72), .inl (cI, 9216, .inl (fun _ => 0))), ((p3 14), .inl (cI, 2, .inl (fun _ => 0))), ((p3 18), .inl (cI, 2, .inl (fun _ => 0)))]) (wr := []) (fun hPc hDc hFc => va_runV (As := [.int p1]) (rest := []) ⟨hx, hb, hml, hown, hts⟩ (c_X7_finds_v0 l dC dI cI cJ cZ cM p0 p1 p3 (by omega) (by omega) H.size) (cwV 1 hts gX7_fewest_X7_finds rfl rfl rfl (by decide +kernel) ⟨(Nat.le_of_ble_eq_true rfl), (Nat.le_of_ble_eq_true rfl)⟩) (k_pV hPc hDc hK hN hC hS hFc hP (q0 := 0) (ci := 7) rfl rfl) rfl rfl hl.1 rfl (lv_room (Nat.le_of_ble_eq_true rfl)) dX7_fewest_25 ⟨(Nat.le_of_ble_eq_true rfl), (Nat.le_of_ble_eq_true rfl)⟩) hP hD hS hA [0, 2, 3, 4, 1, 5] [] rfl rfl rfl rfl (by decide) (fun _ => rfl) 0 0 rfl rfl (fun u_9 H locs hw hP hD hS => ?_)
    have hP : va_P (dC, dI) vwCl [(p0, .inr (7, oM p3 (upd (upd i7 75 0) 76 0) j7)), ((p3 49), .inl (cI, 22, .inl (fun _ => 0))), ((p3 50), .inl (cI, 22, .inl (fun _ => 0))), ((p3 72), .inl (cI, 9216, .inl (upd (fun _ => (-1)) 0 0))), ((p3 14), .inl (cI, 2, .inl (fun _ => 0))), ((p3 18), .inl (cI, 2, .inl (fun _ => 0)))] H := hP
    have hD : va_D A [(p0, .inr (7, oM p3 (upd (upd i7 75 0) 76 0) j7)), ((p3 49), .inl (cI, 22, .inl (fun _ => 0))), ((p3 50), .inl (cI, 22, .inl (fun _ => 0))), ((p3 72), .inl (cI, 9216, .inl (upd (fun _ => (-1)) 0 0))), ((p3 14), .inl (cI, 2, .inl (fun _ => 0))), ((p3 18), .inl (cI, 2, .inl (fun _ => 0)))] := hD
    refine lv_aload_n hx hb dX7_fewest_28 rfl (lv_at hl 0 rfl) ?_
    refine k_get (D := (dC, dI)) (ci := 7) (v := .int 0) (C := RX7) (T := TX7) (N := 92) hx hb hts hinX7 hown hK hP 0 rfl rfl 75 (by decide) w_2 rfl rfl dX7_fewest_29 ?_
    refine lv_iconst (v := (-1)) hx hb dX7_fewest_32 (by decide +kernel) ?_
    refine lv_icmp_ne (tgt := 38) hx hb dX7_fewest_33 (by decide) (fun _ => ?_) (fun q9 => absurd q9 (by decide +kernel))
    refine lv_iload_n hx hb dX7_fewest_38 rfl (lv_at hl 2 rfl) ?_
    refine lv_if_ne (tgt := 49) hx hb dX7_fewest_39 (by decide) (fun c_10 => ?_) (fun c_10 => ?_)
    · have c_10 : ¬ p2.toInt = 0 := k_eqF rfl (by decide +kernel) c_10
      refine lv_iload_n hx hb dX7_fewest_49 rfl (lv_at hl 2 rfl) ?_
      refine lv_iconst (v := 1) hx hb dX7_fewest_50 (by decide +kernel) ?_
      refine lv_icmp_ne (tgt := 61) hx hb dX7_fewest_51 (by decide) (fun c_11 => ?_) (fun c_11 => ?_)
      · have c_11 : ¬ p2.toInt = 1 := k_eqF rfl (by decide +kernel) c_11
        refine lv_iload_n hx hb dX7_fewest_61 rfl (lv_at hl 2 rfl) ?_
        refine lv_iconst (v := 2) hx hb dX7_fewest_62 (by decide +kernel) ?_
        refine lv_icmp_ne (tgt := 73) hx hb dX7_fewest_63 (by decide) (fun c_12 => ?_) (fun c_12 => ?_)
        · have c_12 : ¬ p2.toInt = 2 := k_eqF rfl (by decide +kernel) c_12
          refine lv_iload_n hx hb dX7_fewest_73 rfl (lv_at hl 2 rfl) ?_
          refine lv_bipush (v := 10) hx hb dX7_fewest_74 (by decide +kernel) ?_
          refine lv_bipush (v := 9) hx hb dX7_fewest_76 (by decide +kernel) ?_
          refine lv_aload_n hx hb dX7_fewest_78 rfl (lv_at hl 0 rfl) ?_
          refine k_get (D := (dC, dI)) (ci := 7) (v := .int 0) (C := RX7) (T := TX7) (N := 92) hx hb hts hinX7 hown hK hP 0 rfl rfl 75 (by decide) w_2 rfl rfl dX7_fewest_79 ?_
          refine lv_iadd hx hb dX7_fewest_82 ?_
          refine k_int (v := 9) (by decide +kernel) ?_
          refine k_ci (wc := []) (wr := [(p0, .inr (7, oM p3 (upd (upd i7 75 0) 76 0) j7)), ((p3 49), .inl (cI, 22, .inl (fun _ => 0))), ((p3 50), .inl (cI, 22, .inl (fun _ => 0))), ((p3 72), .inl (cI, 9216, .inl (upd (fun _ => (-1)) 0 0))), ((p3 14), .inl (cI, 2, .inl (fun _ => 0))), ((p3 18), .inl (cI, 2, .inl (fun _ => 0)))]) (fun hPc hDc hFc => va_runS (As := [.int p2, .int 10, .int 9]) (rest := []) ⟨hx, hb, hml, hown, hts⟩ (c_X7_is_v17 l dC dI cI cJ cZ cM p2 H.size) (va_cwS 3 hts gX7_fewest_X7_is rfl rfl rfl (by decide +kernel) ⟨(Nat.le_of_ble_eq_true rfl), (Nat.le_of_ble_eq_true rfl)⟩) (k_pS hPc hDc hK hN hC hS hFc) rfl rfl hl.1 rfl (lv_room (Nat.le_of_ble_eq_true rfl)) dX7_fewest_83 ⟨(Nat.le_of_ble_eq_true rfl), (Nat.le_of_ble_eq_true rfl)⟩) hP hD hS hA [] [0, 1, 2, 3, 4, 5] rfl rfl rfl rfl (by decide) (fun _ => rfl) 0 0 rfl rfl (fun r_13 u_14 H locs hw hP hD hS => ?_)
          obtain rfl : r_13 = 0 := hw
          have hP : va_P (dC, dI) vwCl [(p0, .inr (7, oM p3 (upd (upd i7 75 0) 76 0) j7)), ((p3 49), .inl (cI, 22, .inl (fun _ => 0))), ((p3 50), .inl (cI, 22, .inl (fun _ => 0))), ((p3 72), .inl (cI, 9216, .inl (upd (fun _ => (-1)) 0 0))), ((p3 14), .inl (cI, 2, .inl (fun _ => 0))), ((p3 18), .inl (cI, 2, .inl (fun _ => 0)))] H := hP
          have hD : va_D A [(p0, .inr (7, oM p3 (upd (upd i7 75 0) 76 0) j7)), ((p3 49), .inl (cI, 22, .inl (fun _ => 0))), ((p3 50), .inl (cI, 22, .inl (fun _ => 0))), ((p3 72), .inl (cI, 9216, .inl (upd (fun _ => (-1)) 0 0))), ((p3 14), .inl (cI, 2, .inl (fun _ => 0))), ((p3 18), .inl (cI, 2, .inl (fun _ => 0)))] := hD
          refine lv_if_eq (tgt := 100) hx hb dX7_fewest_86 (by decide) (fun _ => ?_) (fun q9 => absurd q9 (by decide +kernel))
          refine lv_iconst (v := (-1)) hx hb dX7_fewest_100 (by decide +kernel) ?_
          exact k_ri B hP hD hS dX7_fewest_101 (2, (fun _ => 0)) [0, 4, 1, 2, 3, 5] rfl rfl rfl (Nat.le_of_ble_eq_true rfl) (Nat.le_of_ble_eq_true rfl) ⟨c_6, c_7, c_10, c_11, c_12, rfl⟩
        · have c_12 : p2.toInt = 2 := k_eqT rfl (by decide +kernel) c_12
          refine lv_aload_n hx hb dX7_fewest_66 rfl (lv_at hl 0 rfl) ?_
          refine k_get (D := (dC, dI)) (ci := 7) (v := .int 0) (C := RX7) (T := TX7) (N := 92) hx hb hts hinX7 hown hK hP 0 rfl rfl 76 (by decide) w_3 rfl rfl dX7_fewest_67 ?_
          refine lv_goto (tgt := 101) hx hb dX7_fewest_70 (by decide) ?_
          exact k_ri B hP hD hS dX7_fewest_101 (3, (fun _ => 0)) [0, 4, 1, 2, 3, 5] rfl rfl rfl (Nat.le_of_ble_eq_true rfl) (Nat.le_of_ble_eq_true rfl) ⟨c_6, c_7, c_10, c_11, c_12, rfl⟩
      · have c_11 : p2.toInt = 1 := k_eqT rfl (by decide +kernel) c_11
        refine lv_aload_n hx hb dX7_fewest_54 rfl (lv_at hl 0 rfl) ?_
        refine k_ci (wc := [(p0, .inr (7, oM p3 (upd (upd i7 75 0) 76 0) j7)), ((p3 72), .inl (cI, 9216, .inl (upd (fun _ => (-1)) 0 0)))]) (wr := [((p3 49), .inl (cI, 22, .inl (fun _ => 0))), ((p3 50), .inl (cI, 22, .inl (fun _ => 0))), ((p3 14), .inl (cI, 2, .inl (fun _ => 0))), ((p3 18), .inl (cI, 2, .inl (fun _ => 0)))]) (fun hPc hDc hFc => va_runV (As := []) (rest := []) ⟨hx, hb, hml, hown, hts⟩ (c_X7_foundSea_v0 l dC dI cI cJ cZ cM p0 p3 H.size) (cwV 0 hts gX7_fewest_X7_foundSea rfl rfl rfl (by decide +kernel) ⟨(Nat.le_of_ble_eq_true rfl), (Nat.le_of_ble_eq_true rfl)⟩) (k_pV hPc hDc hK hN hC hS hFc hP (q0 := 0) (ci := 7) rfl rfl) rfl rfl hl.1 rfl (lv_room (Nat.le_of_ble_eq_true rfl)) dX7_fewest_55 ⟨(Nat.le_of_ble_eq_true rfl), (Nat.le_of_ble_eq_true rfl)⟩) hP hD hS hA [0, 3] [1, 2, 4, 5] rfl rfl rfl rfl (by decide) (fun _ => rfl) 0 0 rfl rfl (fun r_15 u_16 H locs hw hP hD hS => ?_)
        obtain rfl : r_15 = 0 := hw
        have hP : va_P (dC, dI) vwCl [((p3 49), .inl (cI, 22, .inl (fun _ => 0))), ((p3 50), .inl (cI, 22, .inl (fun _ => 0))), ((p3 14), .inl (cI, 2, .inl (fun _ => 0))), ((p3 18), .inl (cI, 2, .inl (fun _ => 0))), (p0, .inr (7, oM p3 (upd (upd i7 75 0) 76 0) j7)), ((p3 72), .inl (cI, 9216, .inl (upd (fun _ => (-1)) 0 0)))] H := hP
        have hD : va_D A [((p3 49), .inl (cI, 22, .inl (fun _ => 0))), ((p3 50), .inl (cI, 22, .inl (fun _ => 0))), ((p3 14), .inl (cI, 2, .inl (fun _ => 0))), ((p3 18), .inl (cI, 2, .inl (fun _ => 0))), (p0, .inr (7, oM p3 (upd (upd i7 75 0) 76 0) j7)), ((p3 72), .inl (cI, 9216, .inl (upd (fun _ => (-1)) 0 0)))] := hD
        refine lv_goto (tgt := 101) hx hb dX7_fewest_58 (by decide) ?_
        exact k_ri B hP hD hS dX7_fewest_101 (4, (fun _ => 0)) [4, 2, 0, 1, 5, 3] rfl rfl rfl (Nat.le_of_ble_eq_true rfl) (Nat.le_of_ble_eq_true rfl) ⟨c_6, c_7, c_10, c_11, rfl⟩
    · have c_10 : p2.toInt = 0 := k_eqT rfl (by decide +kernel) c_10
      refine lv_aload_n hx hb dX7_fewest_42 rfl (lv_at hl 0 rfl) ?_
      refine k_get (D := (dC, dI)) (ci := 7) (v := .int 0) (C := RX7) (T := TX7) (N := 92) hx hb hts hinX7 hown hK hP 0 rfl rfl 75 (by decide) w_2 rfl rfl dX7_fewest_43 ?_
      refine lv_goto (tgt := 101) hx hb dX7_fewest_46 (by decide) ?_
      exact k_ri B hP hD hS dX7_fewest_101 (5, (fun _ => 0)) [0, 4, 1, 2, 3, 5] rfl rfl rfl (Nat.le_of_ble_eq_true rfl) (Nat.le_of_ble_eq_true rfl) ⟨c_6, c_7, c_10, rfl⟩
  · exact False.elim hw
set_option maxHeartbeats 4000000 in
set_option maxRecDepth 100000 in
theorem c_X7_fewest_v1 (l : Launch) (dC : Nat → ClassId) (dI : Nat → Nat → Nat) (cI cJ cZ cM : ClassId) (p0 : Nat) (p1 : Int32) (p2 : Int32) (p3 : Nat → Nat) (b_0 : 0 ≤ p2.toInt) (t_0 : p2.toInt ≤ 0)  : k_Mi l yX7_fewest wsX7_fewest ({ frames := 4, cells := 0, slots := 0, locals := 112 }) (dC, dI) vwCl (tyy cI cJ cZ cM) [(p0, .inr (7, oM p3 i7 j7)), ((p3 14), .inl (cI, 2, .inl (fun _ => 0))), ((p3 49), .inl (cI, 22, .inl (fun _ => 0))), ((p3 50), .inl (cI, 22, .inl (fun _ => 0))), ((p3 72), .inl (cI, 9216, .inl (fun _ => 0))), ((p3 18), .inl (cI, 2, .inl (fun _ => 0)))] [.ref p0, .int p1, .int p2] 0 0 (fun (u9 : (Nat × (Nat → Nat))) => match u9.1 with | 0 => [(p0, .inr (7, oM p3 i7 j7)), ((p3 14), .inl (cI, 2, .inl (fun _ => 0))), ((p3 49), .inl (cI, 22, .inl (fun _ => 0))), ((p3 50), .inl (cI, 22, .inl (fun _ => 0))), ((p3 72), .inl (cI, 9216, .inl (fun _ => 0))), ((p3 18), .inl (cI, 2, .inl (fun _ => 0)))] | 1 => [(p0, .inr (7, oM p3 i7 j7)), ((p3 14), .inl (cI, 2, .inl (fun _ => 0))), ((p3 49), .inl (cI, 22, .inl (fun _ => 0))), ((p3 50), .inl (cI, 22, .inl (fun _ => 0))), ((p3 72), .inl (cI, 9216, .inl (fun _ => 0))), ((p3 18), .inl (cI, 2, .inl (fun _ => 0)))] | 2 => [(p0, .inr (7, oM p3 (upd (upd i7 75 0) 76 0) j7)), ((p3 14), .inl (cI, 2, .inl (fun _ => 0))), ((p3 49), .inl (cI, 22, .inl (fun _ => 0))), ((p3 50), .inl (cI, 22, .inl (fun _ => 0))), ((p3 72), .inl (cI, 9216, .inl (upd (fun _ => (-1)) 0 0))), ((p3 18), .inl (cI, 2, .inl (fun _ => 0)))] | _ => []) (fun (r9 : Int32) (u9 : (Nat × (Nat → Nat))) => match u9.1 with | 0 => (p2.toInt = 0) ∧ (p1.toInt < 0) ∧ r9 = (-1) | 1 => (p2.toInt = 0) ∧ (0 ≤ p1.toInt) ∧ (0 < p1.toInt) ∧ r9 = (-1) | 2 => (p2.toInt = 0) ∧ (0 ≤ p1.toInt) ∧ (p1.toInt ≤ 0) ∧ r9 = 0 | _ => False) := by
  refine fun sz => k_enter (cc := cX7_fewest) (maxL := 3) (ret := some (.int)) (Qc := fun A => va_Qi (fun (r9 : Int32) (u9 : (Nat × (Nat → Nat))) => match u9.1 with | 0 => (p2.toInt = 0) ∧ (p1.toInt < 0) ∧ r9 = (-1) | 1 => (p2.toInt = 0) ∧ (0 ≤ p1.toInt) ∧ (0 < p1.toInt) ∧ r9 = (-1) | 2 => (p2.toInt = 0) ∧ (0 ≤ p1.toInt) ∧ (p1.toInt ≤ 0) ∧ r9 = 0 | _ => False) (fun u => k_B (dC, dI) vwCl (tyy cI cJ cZ cM) A ((fun (u9 : (Nat × (Nat → Nat))) => match u9.1 with | 0 => [(p0, .inr (7, oM p3 i7 j7)), ((p3 14), .inl (cI, 2, .inl (fun _ => 0))), ((p3 49), .inl (cI, 22, .inl (fun _ => 0))), ((p3 50), .inl (cI, 22, .inl (fun _ => 0))), ((p3 72), .inl (cI, 9216, .inl (fun _ => 0))), ((p3 18), .inl (cI, 2, .inl (fun _ => 0)))] | 1 => [(p0, .inr (7, oM p3 i7 j7)), ((p3 14), .inl (cI, 2, .inl (fun _ => 0))), ((p3 49), .inl (cI, 22, .inl (fun _ => 0))), ((p3 50), .inl (cI, 22, .inl (fun _ => 0))), ((p3 72), .inl (cI, 9216, .inl (fun _ => 0))), ((p3 18), .inl (cI, 2, .inl (fun _ => 0)))] | 2 => [(p0, .inr (7, oM p3 (upd (upd i7 75 0) 76 0) j7)), ((p3 14), .inl (cI, 2, .inl (fun _ => 0))), ((p3 49), .inl (cI, 22, .inl (fun _ => 0))), ((p3 50), .inl (cI, 22, .inl (fun _ => 0))), ((p3 72), .inl (cI, 9216, .inl (upd (fun _ => (-1)) 0 0))), ((p3 18), .inl (cI, 2, .inl (fun _ => 0)))] | _ => []) u)) A) sz (by decide +kernel) rfl (Nat.le_of_ble_eq_true rfl) (fun p e s m args below meth c A ls H locs B hP hD hS hl => ?_)
  obtain ⟨hx, hb, hml, hown, hts, hr, hlk, hnm, hK, hA, hN, hC⟩ := id B
  have hown : s.vm.findClass RX7 = some m.cls := hown
  have hl : lv_has ls 3 [(0, .ref p0), (1, .int p1), (2, .int p2)] := hl
  have w_0 : (Cond.fieldLink RX7 54 "WishSeaModel" "things" "[I").before args s = true := hts _ (List.mem_of_getElem? (i := 1) rfl)
  have w_1 : (Cond.fieldLink RX7 51 "WishSeaModel" "bank" "I").before args s = true := hts _ (List.mem_of_getElem? (i := 2) rfl)
  have w_2 : (Cond.fieldLink RX7 240 "WishSeaModel" "foundRung" "I").before args s = true := hts _ (List.mem_of_getElem? (i := 3) rfl)
  have hinX7 : ∀ w ∈ u_ws RX7 TX7 92, w ∈ wsX7_fewest := fun _ h => List.mem_cons_of_mem _ (List.mem_append_right _ h)
  rcases (show p2.toInt = 0 by omega) with c_1
  obtain rfl : p2 = 0 := k_eqL (by decide +kernel) c_1
  refine lv_iload_n hx hb dX7_fewest_0 rfl (lv_at hl 1 rfl) ?_
  refine lv_iconst (v := 0) hx hb dX7_fewest_1 (by decide +kernel) ?_
  refine lv_iconst (v := 1) hx hb dX7_fewest_2 (by decide +kernel) ?_
  refine lv_aload_n hx hb dX7_fewest_3 rfl (lv_at hl 0 rfl) ?_
  refine k_get (D := (dC, dI)) (ci := 7) (v := .ref (p3 14)) (C := RX7) (T := TX7) (N := 92) hx hb hts hinX7 hown hK hP 0 rfl rfl 14 (by decide) w_0 rfl rfl dX7_fewest_4 ?_
  refine lv_aload_n hx hb dX7_fewest_7 rfl (lv_at hl 0 rfl) ?_
  refine k_get (D := (dC, dI)) (ci := 7) (v := .int 0) (C := RX7) (T := TX7) (N := 92) hx hb hts hinX7 hown hK hP 0 rfl rfl 13 (by decide) w_1 rfl rfl dX7_fewest_8 ?_
  refine k_iald (v := 0) hx hb hK hP 1 0 0 rfl rfl rfl (Nat.le_of_ble_eq_true rfl) (Nat.le_of_ble_eq_true rfl) rfl dX7_fewest_11 ?_
  refine lv_ishl hx hb dX7_fewest_12 ?_
  refine k_int (v := 1) (by decide +kernel) ?_
  refine lv_iconst (v := 1) hx hb dX7_fewest_13 (by decide +kernel) ?_
  refine lv_isub hx hb dX7_fewest_14 ?_
  refine k_int (v := 0) (by decide +kernel) ?_
  refine k_ci (wc := []) (wr := [(p0, .inr (7, oM p3 i7 j7)), ((p3 14), .inl (cI, 2, .inl (fun _ => 0))), ((p3 49), .inl (cI, 22, .inl (fun _ => 0))), ((p3 50), .inl (cI, 22, .inl (fun _ => 0))), ((p3 72), .inl (cI, 9216, .inl (fun _ => 0))), ((p3 18), .inl (cI, 2, .inl (fun _ => 0)))]) (fun hPc hDc hFc => va_runS (As := [.int p1, .int 0, .int 0]) (rest := []) ⟨hx, hb, hml, hown, hts⟩ (c_X7_is_v16 l dC dI cI cJ cZ cM p1 H.size) (va_cwS 3 hts gX7_fewest_X7_is rfl rfl rfl (by decide +kernel) ⟨(Nat.le_of_ble_eq_true rfl), (Nat.le_of_ble_eq_true rfl)⟩) (k_pS hPc hDc hK hN hC hS hFc) rfl rfl hl.1 rfl (lv_room (Nat.le_of_ble_eq_true rfl)) dX7_fewest_15 ⟨(Nat.le_of_ble_eq_true rfl), (Nat.le_of_ble_eq_true rfl)⟩) hP hD hS hA [] [0, 1, 2, 3, 4, 5] rfl rfl rfl rfl (by decide) (fun _ => rfl) 0 0 rfl rfl (fun r_2 u_3 H locs hw hP hD hS => ?_)
  obtain ⟨k_u_3, u_u_3⟩ := u_3
  rcases k_u_3 with _ | _ | _ | k_u_3
  · obtain ⟨c_4, rfl⟩ : (p1.toInt < 0) ∧ r_2 = 0 := hw
    have hP : va_P (dC, dI) vwCl [(p0, .inr (7, oM p3 i7 j7)), ((p3 14), .inl (cI, 2, .inl (fun _ => 0))), ((p3 49), .inl (cI, 22, .inl (fun _ => 0))), ((p3 50), .inl (cI, 22, .inl (fun _ => 0))), ((p3 72), .inl (cI, 9216, .inl (fun _ => 0))), ((p3 18), .inl (cI, 2, .inl (fun _ => 0)))] H := hP
    have hD : va_D A [(p0, .inr (7, oM p3 i7 j7)), ((p3 14), .inl (cI, 2, .inl (fun _ => 0))), ((p3 49), .inl (cI, 22, .inl (fun _ => 0))), ((p3 50), .inl (cI, 22, .inl (fun _ => 0))), ((p3 72), .inl (cI, 9216, .inl (fun _ => 0))), ((p3 18), .inl (cI, 2, .inl (fun _ => 0)))] := hD
    refine lv_if_ne (tgt := 23) hx hb dX7_fewest_18 (by decide) (fun q9 => absurd q9 (by decide +kernel)) (fun _ => ?_)
    refine lv_iconst (v := (-1)) hx hb dX7_fewest_21 (by decide +kernel) ?_
    exact k_ri B hP hD hS dX7_fewest_22 (0, (fun _ => 0)) [0, 1, 2, 3, 4, 5] rfl rfl rfl (Nat.le_of_ble_eq_true rfl) (Nat.le_of_ble_eq_true rfl) ⟨c_1, c_4, rfl⟩
  · obtain ⟨c_5, c_6, rfl⟩ : (0 ≤ p1.toInt) ∧ (0 < p1.toInt) ∧ r_2 = 0 := hw
    have hP : va_P (dC, dI) vwCl [(p0, .inr (7, oM p3 i7 j7)), ((p3 14), .inl (cI, 2, .inl (fun _ => 0))), ((p3 49), .inl (cI, 22, .inl (fun _ => 0))), ((p3 50), .inl (cI, 22, .inl (fun _ => 0))), ((p3 72), .inl (cI, 9216, .inl (fun _ => 0))), ((p3 18), .inl (cI, 2, .inl (fun _ => 0)))] H := hP
    have hD : va_D A [(p0, .inr (7, oM p3 i7 j7)), ((p3 14), .inl (cI, 2, .inl (fun _ => 0))), ((p3 49), .inl (cI, 22, .inl (fun _ => 0))), ((p3 50), .inl (cI, 22, .inl (fun _ => 0))), ((p3 72), .inl (cI, 9216, .inl (fun _ => 0))), ((p3 18), .inl (cI, 2, .inl (fun _ => 0)))] := hD
    refine lv_if_ne (tgt := 23) hx hb dX7_fewest_18 (by decide) (fun q9 => absurd q9 (by decide +kernel)) (fun _ => ?_)
    refine lv_iconst (v := (-1)) hx hb dX7_fewest_21 (by decide +kernel) ?_
    exact k_ri B hP hD hS dX7_fewest_22 (1, (fun _ => 0)) [0, 1, 2, 3, 4, 5] rfl rfl rfl (Nat.le_of_ble_eq_true rfl) (Nat.le_of_ble_eq_true rfl) ⟨c_1, c_5, c_6, rfl⟩
  · obtain ⟨c_7, c_8, rfl⟩ : (0 ≤ p1.toInt) ∧ (p1.toInt ≤ 0) ∧ r_2 = 1 := hw
    have hP : va_P (dC, dI) vwCl [(p0, .inr (7, oM p3 i7 j7)), ((p3 14), .inl (cI, 2, .inl (fun _ => 0))), ((p3 49), .inl (cI, 22, .inl (fun _ => 0))), ((p3 50), .inl (cI, 22, .inl (fun _ => 0))), ((p3 72), .inl (cI, 9216, .inl (fun _ => 0))), ((p3 18), .inl (cI, 2, .inl (fun _ => 0)))] H := hP
    have hD : va_D A [(p0, .inr (7, oM p3 i7 j7)), ((p3 14), .inl (cI, 2, .inl (fun _ => 0))), ((p3 49), .inl (cI, 22, .inl (fun _ => 0))), ((p3 50), .inl (cI, 22, .inl (fun _ => 0))), ((p3 72), .inl (cI, 9216, .inl (fun _ => 0))), ((p3 18), .inl (cI, 2, .inl (fun _ => 0)))] := hD
    refine lv_if_ne (tgt := 23) hx hb dX7_fewest_18 (by decide) (fun _ => ?_) (fun q9 => absurd q9 (by decide +kernel))
    refine lv_aload_n hx hb dX7_fewest_23 rfl (lv_at hl 0 rfl) ?_
    refine lv_iload_n hx hb dX7_fewest_24 rfl (lv_at hl 1 rfl) ?_
    refine k_cv (wc := [(p0, .inr (7, oM p3 i7 j7)), ((p3 49), .inl (cI, 22, .inl (fun _ => 0))), ((p3 50), .inl (cI, 22, .inl (fun _ => 0))), ((p3 72), .inl (cI, 9216, .inl (fun _ => 0))), ((p3 14), .inl (cI, 2, .inl (fun _ => 0))), ((p3 18), .inl (cI, 2, .inl (fun _ => 0)))]) (wr := []) (fun hPc hDc hFc => va_runV (As := [.int p1]) (rest := []) ⟨hx, hb, hml, hown, hts⟩ (c_X7_finds_v0 l dC dI cI cJ cZ cM p0 p1 p3 (by omega) (by omega) H.size) (cwV 1 hts gX7_fewest_X7_finds rfl rfl rfl (by decide +kernel) ⟨(Nat.le_of_ble_eq_true rfl), (Nat.le_of_ble_eq_true rfl)⟩) (k_pV hPc hDc hK hN hC hS hFc hP (q0 := 0) (ci := 7) rfl rfl) rfl rfl hl.1 rfl (lv_room (Nat.le_of_ble_eq_true rfl)) dX7_fewest_25 ⟨(Nat.le_of_ble_eq_true rfl), (Nat.le_of_ble_eq_true rfl)⟩) hP hD hS hA [0, 2, 3, 4, 1, 5] [] rfl rfl rfl rfl (by decide) (fun _ => rfl) 0 0 rfl rfl (fun u_10 H locs hw hP hD hS => ?_)
    have hP : va_P (dC, dI) vwCl [(p0, .inr (7, oM p3 (upd (upd i7 75 0) 76 0) j7)), ((p3 49), .inl (cI, 22, .inl (fun _ => 0))), ((p3 50), .inl (cI, 22, .inl (fun _ => 0))), ((p3 72), .inl (cI, 9216, .inl (upd (fun _ => (-1)) 0 0))), ((p3 14), .inl (cI, 2, .inl (fun _ => 0))), ((p3 18), .inl (cI, 2, .inl (fun _ => 0)))] H := hP
    have hD : va_D A [(p0, .inr (7, oM p3 (upd (upd i7 75 0) 76 0) j7)), ((p3 49), .inl (cI, 22, .inl (fun _ => 0))), ((p3 50), .inl (cI, 22, .inl (fun _ => 0))), ((p3 72), .inl (cI, 9216, .inl (upd (fun _ => (-1)) 0 0))), ((p3 14), .inl (cI, 2, .inl (fun _ => 0))), ((p3 18), .inl (cI, 2, .inl (fun _ => 0)))] := hD
    refine lv_aload_n hx hb dX7_fewest_28 rfl (lv_at hl 0 rfl) ?_
    refine k_get (D := (dC, dI)) (ci := 7) (v := .int 0) (C := RX7) (T := TX7) (N := 92) hx hb hts hinX7 hown hK hP 0 rfl rfl 75 (by decide) w_2 rfl rfl dX7_fewest_29 ?_
    refine lv_iconst (v := (-1)) hx hb dX7_fewest_32 (by decide +kernel) ?_
    refine lv_icmp_ne (tgt := 38) hx hb dX7_fewest_33 (by decide) (fun _ => ?_) (fun q9 => absurd q9 (by decide +kernel))
    refine lv_iload_n hx hb dX7_fewest_38 rfl (lv_at hl 2 rfl) ?_
    refine lv_if_ne (tgt := 49) hx hb dX7_fewest_39 (by decide) (fun q9 => absurd q9 (by decide +kernel)) (fun _ => ?_)
    refine lv_aload_n hx hb dX7_fewest_42 rfl (lv_at hl 0 rfl) ?_
    refine k_get (D := (dC, dI)) (ci := 7) (v := .int 0) (C := RX7) (T := TX7) (N := 92) hx hb hts hinX7 hown hK hP 0 rfl rfl 75 (by decide) w_2 rfl rfl dX7_fewest_43 ?_
    refine lv_goto (tgt := 101) hx hb dX7_fewest_46 (by decide) ?_
    exact k_ri B hP hD hS dX7_fewest_101 (2, (fun _ => 0)) [0, 4, 1, 2, 3, 5] rfl rfl rfl (Nat.le_of_ble_eq_true rfl) (Nat.le_of_ble_eq_true rfl) ⟨c_1, c_7, c_8, rfl⟩
  · exact False.elim hw
set_option maxHeartbeats 4000000 in
set_option maxRecDepth 100000 in
theorem c_X7_fewest_v2 (l : Launch) (dC : Nat → ClassId) (dI : Nat → Nat → Nat) (cI cJ cZ cM : ClassId) (p0 : Nat) (p1 : Int32) (p2 : Int32) (p3 : Nat → Nat) (b_0 : 1 ≤ p2.toInt) (t_0 : p2.toInt ≤ 1)  : k_Mi l yX7_fewest wsX7_fewest ({ frames := 4, cells := 0, slots := 0, locals := 112 }) (dC, dI) vwCl (tyy cI cJ cZ cM) [(p0, .inr (7, oM p3 i7 j7)), ((p3 14), .inl (cI, 2, .inl (fun _ => 0))), ((p3 49), .inl (cI, 22, .inl (fun _ => 0))), ((p3 50), .inl (cI, 22, .inl (fun _ => 0))), ((p3 72), .inl (cI, 9216, .inl (fun _ => 0))), ((p3 18), .inl (cI, 2, .inl (fun _ => 0)))] [.ref p0, .int p1, .int p2] 0 0 (fun (u9 : (Nat × (Nat → Nat))) => match u9.1 with | 0 => [(p0, .inr (7, oM p3 i7 j7)), ((p3 14), .inl (cI, 2, .inl (fun _ => 0))), ((p3 49), .inl (cI, 22, .inl (fun _ => 0))), ((p3 50), .inl (cI, 22, .inl (fun _ => 0))), ((p3 72), .inl (cI, 9216, .inl (fun _ => 0))), ((p3 18), .inl (cI, 2, .inl (fun _ => 0)))] | 1 => [(p0, .inr (7, oM p3 i7 j7)), ((p3 14), .inl (cI, 2, .inl (fun _ => 0))), ((p3 49), .inl (cI, 22, .inl (fun _ => 0))), ((p3 50), .inl (cI, 22, .inl (fun _ => 0))), ((p3 72), .inl (cI, 9216, .inl (fun _ => 0))), ((p3 18), .inl (cI, 2, .inl (fun _ => 0)))] | 2 => [(p0, .inr (7, oM p3 (upd (upd i7 75 0) 76 0) j7)), ((p3 14), .inl (cI, 2, .inl (fun _ => 0))), ((p3 49), .inl (cI, 22, .inl (fun _ => 0))), ((p3 50), .inl (cI, 22, .inl (fun _ => 0))), ((p3 72), .inl (cI, 9216, .inl (upd (fun _ => (-1)) 0 0))), ((p3 18), .inl (cI, 2, .inl (fun _ => 0)))] | _ => []) (fun (r9 : Int32) (u9 : (Nat × (Nat → Nat))) => match u9.1 with | 0 => (p2.toInt = 1) ∧ (p1.toInt < 0) ∧ r9 = (-1) | 1 => (p2.toInt = 1) ∧ (0 ≤ p1.toInt) ∧ (0 < p1.toInt) ∧ r9 = (-1) | 2 => (p2.toInt = 1) ∧ (0 ≤ p1.toInt) ∧ (p1.toInt ≤ 0) ∧ r9 = 0 | _ => False) := by
  refine fun sz => k_enter (cc := cX7_fewest) (maxL := 3) (ret := some (.int)) (Qc := fun A => va_Qi (fun (r9 : Int32) (u9 : (Nat × (Nat → Nat))) => match u9.1 with | 0 => (p2.toInt = 1) ∧ (p1.toInt < 0) ∧ r9 = (-1) | 1 => (p2.toInt = 1) ∧ (0 ≤ p1.toInt) ∧ (0 < p1.toInt) ∧ r9 = (-1) | 2 => (p2.toInt = 1) ∧ (0 ≤ p1.toInt) ∧ (p1.toInt ≤ 0) ∧ r9 = 0 | _ => False) (fun u => k_B (dC, dI) vwCl (tyy cI cJ cZ cM) A ((fun (u9 : (Nat × (Nat → Nat))) => match u9.1 with | 0 => [(p0, .inr (7, oM p3 i7 j7)), ((p3 14), .inl (cI, 2, .inl (fun _ => 0))), ((p3 49), .inl (cI, 22, .inl (fun _ => 0))), ((p3 50), .inl (cI, 22, .inl (fun _ => 0))), ((p3 72), .inl (cI, 9216, .inl (fun _ => 0))), ((p3 18), .inl (cI, 2, .inl (fun _ => 0)))] | 1 => [(p0, .inr (7, oM p3 i7 j7)), ((p3 14), .inl (cI, 2, .inl (fun _ => 0))), ((p3 49), .inl (cI, 22, .inl (fun _ => 0))), ((p3 50), .inl (cI, 22, .inl (fun _ => 0))), ((p3 72), .inl (cI, 9216, .inl (fun _ => 0))), ((p3 18), .inl (cI, 2, .inl (fun _ => 0)))] | 2 => [(p0, .inr (7, oM p3 (upd (upd i7 75 0) 76 0) j7)), ((p3 14), .inl (cI, 2, .inl (fun _ => 0))), ((p3 49), .inl (cI, 22, .inl (fun _ => 0))), ((p3 50), .inl (cI, 22, .inl (fun _ => 0))), ((p3 72), .inl (cI, 9216, .inl (upd (fun _ => (-1)) 0 0))), ((p3 18), .inl (cI, 2, .inl (fun _ => 0)))] | _ => []) u)) A) sz (by decide +kernel) rfl (Nat.le_of_ble_eq_true rfl) (fun p e s m args below meth c A ls H locs B hP hD hS hl => ?_)
  obtain ⟨hx, hb, hml, hown, hts, hr, hlk, hnm, hK, hA, hN, hC⟩ := id B
  have hown : s.vm.findClass RX7 = some m.cls := hown
  have hl : lv_has ls 3 [(0, .ref p0), (1, .int p1), (2, .int p2)] := hl
  have w_0 : (Cond.fieldLink RX7 54 "WishSeaModel" "things" "[I").before args s = true := hts _ (List.mem_of_getElem? (i := 1) rfl)
  have w_1 : (Cond.fieldLink RX7 51 "WishSeaModel" "bank" "I").before args s = true := hts _ (List.mem_of_getElem? (i := 2) rfl)
  have w_2 : (Cond.fieldLink RX7 240 "WishSeaModel" "foundRung" "I").before args s = true := hts _ (List.mem_of_getElem? (i := 3) rfl)
  have hinX7 : ∀ w ∈ u_ws RX7 TX7 92, w ∈ wsX7_fewest := fun _ h => List.mem_cons_of_mem _ (List.mem_append_right _ h)
  rcases (show p2.toInt = 1 by omega) with c_1
  obtain rfl : p2 = 1 := k_eqL (by decide +kernel) c_1
  refine lv_iload_n hx hb dX7_fewest_0 rfl (lv_at hl 1 rfl) ?_
  refine lv_iconst (v := 0) hx hb dX7_fewest_1 (by decide +kernel) ?_
  refine lv_iconst (v := 1) hx hb dX7_fewest_2 (by decide +kernel) ?_
  refine lv_aload_n hx hb dX7_fewest_3 rfl (lv_at hl 0 rfl) ?_
  refine k_get (D := (dC, dI)) (ci := 7) (v := .ref (p3 14)) (C := RX7) (T := TX7) (N := 92) hx hb hts hinX7 hown hK hP 0 rfl rfl 14 (by decide) w_0 rfl rfl dX7_fewest_4 ?_
  refine lv_aload_n hx hb dX7_fewest_7 rfl (lv_at hl 0 rfl) ?_
  refine k_get (D := (dC, dI)) (ci := 7) (v := .int 0) (C := RX7) (T := TX7) (N := 92) hx hb hts hinX7 hown hK hP 0 rfl rfl 13 (by decide) w_1 rfl rfl dX7_fewest_8 ?_
  refine k_iald (v := 0) hx hb hK hP 1 0 0 rfl rfl rfl (Nat.le_of_ble_eq_true rfl) (Nat.le_of_ble_eq_true rfl) rfl dX7_fewest_11 ?_
  refine lv_ishl hx hb dX7_fewest_12 ?_
  refine k_int (v := 1) (by decide +kernel) ?_
  refine lv_iconst (v := 1) hx hb dX7_fewest_13 (by decide +kernel) ?_
  refine lv_isub hx hb dX7_fewest_14 ?_
  refine k_int (v := 0) (by decide +kernel) ?_
  refine k_ci (wc := []) (wr := [(p0, .inr (7, oM p3 i7 j7)), ((p3 14), .inl (cI, 2, .inl (fun _ => 0))), ((p3 49), .inl (cI, 22, .inl (fun _ => 0))), ((p3 50), .inl (cI, 22, .inl (fun _ => 0))), ((p3 72), .inl (cI, 9216, .inl (fun _ => 0))), ((p3 18), .inl (cI, 2, .inl (fun _ => 0)))]) (fun hPc hDc hFc => va_runS (As := [.int p1, .int 0, .int 0]) (rest := []) ⟨hx, hb, hml, hown, hts⟩ (c_X7_is_v16 l dC dI cI cJ cZ cM p1 H.size) (va_cwS 3 hts gX7_fewest_X7_is rfl rfl rfl (by decide +kernel) ⟨(Nat.le_of_ble_eq_true rfl), (Nat.le_of_ble_eq_true rfl)⟩) (k_pS hPc hDc hK hN hC hS hFc) rfl rfl hl.1 rfl (lv_room (Nat.le_of_ble_eq_true rfl)) dX7_fewest_15 ⟨(Nat.le_of_ble_eq_true rfl), (Nat.le_of_ble_eq_true rfl)⟩) hP hD hS hA [] [0, 1, 2, 3, 4, 5] rfl rfl rfl rfl (by decide) (fun _ => rfl) 0 0 rfl rfl (fun r_2 u_3 H locs hw hP hD hS => ?_)
  obtain ⟨k_u_3, u_u_3⟩ := u_3
  rcases k_u_3 with _ | _ | _ | k_u_3
  · obtain ⟨c_4, rfl⟩ : (p1.toInt < 0) ∧ r_2 = 0 := hw
    have hP : va_P (dC, dI) vwCl [(p0, .inr (7, oM p3 i7 j7)), ((p3 14), .inl (cI, 2, .inl (fun _ => 0))), ((p3 49), .inl (cI, 22, .inl (fun _ => 0))), ((p3 50), .inl (cI, 22, .inl (fun _ => 0))), ((p3 72), .inl (cI, 9216, .inl (fun _ => 0))), ((p3 18), .inl (cI, 2, .inl (fun _ => 0)))] H := hP
    have hD : va_D A [(p0, .inr (7, oM p3 i7 j7)), ((p3 14), .inl (cI, 2, .inl (fun _ => 0))), ((p3 49), .inl (cI, 22, .inl (fun _ => 0))), ((p3 50), .inl (cI, 22, .inl (fun _ => 0))), ((p3 72), .inl (cI, 9216, .inl (fun _ => 0))), ((p3 18), .inl (cI, 2, .inl (fun _ => 0)))] := hD
    refine lv_if_ne (tgt := 23) hx hb dX7_fewest_18 (by decide) (fun q9 => absurd q9 (by decide +kernel)) (fun _ => ?_)
    refine lv_iconst (v := (-1)) hx hb dX7_fewest_21 (by decide +kernel) ?_
    exact k_ri B hP hD hS dX7_fewest_22 (0, (fun _ => 0)) [0, 1, 2, 3, 4, 5] rfl rfl rfl (Nat.le_of_ble_eq_true rfl) (Nat.le_of_ble_eq_true rfl) ⟨c_1, c_4, rfl⟩
  · obtain ⟨c_5, c_6, rfl⟩ : (0 ≤ p1.toInt) ∧ (0 < p1.toInt) ∧ r_2 = 0 := hw
    have hP : va_P (dC, dI) vwCl [(p0, .inr (7, oM p3 i7 j7)), ((p3 14), .inl (cI, 2, .inl (fun _ => 0))), ((p3 49), .inl (cI, 22, .inl (fun _ => 0))), ((p3 50), .inl (cI, 22, .inl (fun _ => 0))), ((p3 72), .inl (cI, 9216, .inl (fun _ => 0))), ((p3 18), .inl (cI, 2, .inl (fun _ => 0)))] H := hP
    have hD : va_D A [(p0, .inr (7, oM p3 i7 j7)), ((p3 14), .inl (cI, 2, .inl (fun _ => 0))), ((p3 49), .inl (cI, 22, .inl (fun _ => 0))), ((p3 50), .inl (cI, 22, .inl (fun _ => 0))), ((p3 72), .inl (cI, 9216, .inl (fun _ => 0))), ((p3 18), .inl (cI, 2, .inl (fun _ => 0)))] := hD
    refine lv_if_ne (tgt := 23) hx hb dX7_fewest_18 (by decide) (fun q9 => absurd q9 (by decide +kernel)) (fun _ => ?_)
    refine lv_iconst (v := (-1)) hx hb dX7_fewest_21 (by decide +kernel) ?_
    exact k_ri B hP hD hS dX7_fewest_22 (1, (fun _ => 0)) [0, 1, 2, 3, 4, 5] rfl rfl rfl (Nat.le_of_ble_eq_true rfl) (Nat.le_of_ble_eq_true rfl) ⟨c_1, c_5, c_6, rfl⟩
  · obtain ⟨c_7, c_8, rfl⟩ : (0 ≤ p1.toInt) ∧ (p1.toInt ≤ 0) ∧ r_2 = 1 := hw
    have hP : va_P (dC, dI) vwCl [(p0, .inr (7, oM p3 i7 j7)), ((p3 14), .inl (cI, 2, .inl (fun _ => 0))), ((p3 49), .inl (cI, 22, .inl (fun _ => 0))), ((p3 50), .inl (cI, 22, .inl (fun _ => 0))), ((p3 72), .inl (cI, 9216, .inl (fun _ => 0))), ((p3 18), .inl (cI, 2, .inl (fun _ => 0)))] H := hP
    have hD : va_D A [(p0, .inr (7, oM p3 i7 j7)), ((p3 14), .inl (cI, 2, .inl (fun _ => 0))), ((p3 49), .inl (cI, 22, .inl (fun _ => 0))), ((p3 50), .inl (cI, 22, .inl (fun _ => 0))), ((p3 72), .inl (cI, 9216, .inl (fun _ => 0))), ((p3 18), .inl (cI, 2, .inl (fun _ => 0)))] := hD
    refine lv_if_ne (tgt := 23) hx hb dX7_fewest_18 (by decide) (fun _ => ?_) (fun q9 => absurd q9 (by decide +kernel))
    refine lv_aload_n hx hb dX7_fewest_23 rfl (lv_at hl 0 rfl) ?_
    refine lv_iload_n hx hb dX7_fewest_24 rfl (lv_at hl 1 rfl) ?_
    refine k_cv (wc := [(p0, .inr (7, oM p3 i7 j7)), ((p3 49), .inl (cI, 22, .inl (fun _ => 0))), ((p3 50), .inl (cI, 22, .inl (fun _ => 0))), ((p3 72), .inl (cI, 9216, .inl (fun _ => 0))), ((p3 14), .inl (cI, 2, .inl (fun _ => 0))), ((p3 18), .inl (cI, 2, .inl (fun _ => 0)))]) (wr := []) (fun hPc hDc hFc => va_runV (As := [.int p1]) (rest := []) ⟨hx, hb, hml, hown, hts⟩ (c_X7_finds_v0 l dC dI cI cJ cZ cM p0 p1 p3 (by omega) (by omega) H.size) (cwV 1 hts gX7_fewest_X7_finds rfl rfl rfl (by decide +kernel) ⟨(Nat.le_of_ble_eq_true rfl), (Nat.le_of_ble_eq_true rfl)⟩) (k_pV hPc hDc hK hN hC hS hFc hP (q0 := 0) (ci := 7) rfl rfl) rfl rfl hl.1 rfl (lv_room (Nat.le_of_ble_eq_true rfl)) dX7_fewest_25 ⟨(Nat.le_of_ble_eq_true rfl), (Nat.le_of_ble_eq_true rfl)⟩) hP hD hS hA [0, 2, 3, 4, 1, 5] [] rfl rfl rfl rfl (by decide) (fun _ => rfl) 0 0 rfl rfl (fun u_10 H locs hw hP hD hS => ?_)
    have hP : va_P (dC, dI) vwCl [(p0, .inr (7, oM p3 (upd (upd i7 75 0) 76 0) j7)), ((p3 49), .inl (cI, 22, .inl (fun _ => 0))), ((p3 50), .inl (cI, 22, .inl (fun _ => 0))), ((p3 72), .inl (cI, 9216, .inl (upd (fun _ => (-1)) 0 0))), ((p3 14), .inl (cI, 2, .inl (fun _ => 0))), ((p3 18), .inl (cI, 2, .inl (fun _ => 0)))] H := hP
    have hD : va_D A [(p0, .inr (7, oM p3 (upd (upd i7 75 0) 76 0) j7)), ((p3 49), .inl (cI, 22, .inl (fun _ => 0))), ((p3 50), .inl (cI, 22, .inl (fun _ => 0))), ((p3 72), .inl (cI, 9216, .inl (upd (fun _ => (-1)) 0 0))), ((p3 14), .inl (cI, 2, .inl (fun _ => 0))), ((p3 18), .inl (cI, 2, .inl (fun _ => 0)))] := hD
    refine lv_aload_n hx hb dX7_fewest_28 rfl (lv_at hl 0 rfl) ?_
    refine k_get (D := (dC, dI)) (ci := 7) (v := .int 0) (C := RX7) (T := TX7) (N := 92) hx hb hts hinX7 hown hK hP 0 rfl rfl 75 (by decide) w_2 rfl rfl dX7_fewest_29 ?_
    refine lv_iconst (v := (-1)) hx hb dX7_fewest_32 (by decide +kernel) ?_
    refine lv_icmp_ne (tgt := 38) hx hb dX7_fewest_33 (by decide) (fun _ => ?_) (fun q9 => absurd q9 (by decide +kernel))
    refine lv_iload_n hx hb dX7_fewest_38 rfl (lv_at hl 2 rfl) ?_
    refine lv_if_ne (tgt := 49) hx hb dX7_fewest_39 (by decide) (fun _ => ?_) (fun q9 => absurd q9 (by decide +kernel))
    refine lv_iload_n hx hb dX7_fewest_49 rfl (lv_at hl 2 rfl) ?_
    refine lv_iconst (v := 1) hx hb dX7_fewest_50 (by decide +kernel) ?_
    refine lv_icmp_ne (tgt := 61) hx hb dX7_fewest_51 (by decide) (fun q9 => absurd q9 (by decide +kernel)) (fun _ => ?_)
    refine lv_aload_n hx hb dX7_fewest_54 rfl (lv_at hl 0 rfl) ?_
    refine k_ci (wc := [(p0, .inr (7, oM p3 (upd (upd i7 75 0) 76 0) j7)), ((p3 72), .inl (cI, 9216, .inl (upd (fun _ => (-1)) 0 0)))]) (wr := [((p3 49), .inl (cI, 22, .inl (fun _ => 0))), ((p3 50), .inl (cI, 22, .inl (fun _ => 0))), ((p3 14), .inl (cI, 2, .inl (fun _ => 0))), ((p3 18), .inl (cI, 2, .inl (fun _ => 0)))]) (fun hPc hDc hFc => va_runV (As := []) (rest := []) ⟨hx, hb, hml, hown, hts⟩ (c_X7_foundSea_v0 l dC dI cI cJ cZ cM p0 p3 H.size) (cwV 0 hts gX7_fewest_X7_foundSea rfl rfl rfl (by decide +kernel) ⟨(Nat.le_of_ble_eq_true rfl), (Nat.le_of_ble_eq_true rfl)⟩) (k_pV hPc hDc hK hN hC hS hFc hP (q0 := 0) (ci := 7) rfl rfl) rfl rfl hl.1 rfl (lv_room (Nat.le_of_ble_eq_true rfl)) dX7_fewest_55 ⟨(Nat.le_of_ble_eq_true rfl), (Nat.le_of_ble_eq_true rfl)⟩) hP hD hS hA [0, 3] [1, 2, 4, 5] rfl rfl rfl rfl (by decide) (fun _ => rfl) 0 0 rfl rfl (fun r_11 u_12 H locs hw hP hD hS => ?_)
    obtain rfl : r_11 = 0 := hw
    have hP : va_P (dC, dI) vwCl [((p3 49), .inl (cI, 22, .inl (fun _ => 0))), ((p3 50), .inl (cI, 22, .inl (fun _ => 0))), ((p3 14), .inl (cI, 2, .inl (fun _ => 0))), ((p3 18), .inl (cI, 2, .inl (fun _ => 0))), (p0, .inr (7, oM p3 (upd (upd i7 75 0) 76 0) j7)), ((p3 72), .inl (cI, 9216, .inl (upd (fun _ => (-1)) 0 0)))] H := hP
    have hD : va_D A [((p3 49), .inl (cI, 22, .inl (fun _ => 0))), ((p3 50), .inl (cI, 22, .inl (fun _ => 0))), ((p3 14), .inl (cI, 2, .inl (fun _ => 0))), ((p3 18), .inl (cI, 2, .inl (fun _ => 0))), (p0, .inr (7, oM p3 (upd (upd i7 75 0) 76 0) j7)), ((p3 72), .inl (cI, 9216, .inl (upd (fun _ => (-1)) 0 0)))] := hD
    refine lv_goto (tgt := 101) hx hb dX7_fewest_58 (by decide) ?_
    exact k_ri B hP hD hS dX7_fewest_101 (2, (fun _ => 0)) [4, 2, 0, 1, 5, 3] rfl rfl rfl (Nat.le_of_ble_eq_true rfl) (Nat.le_of_ble_eq_true rfl) ⟨c_1, c_7, c_8, rfl⟩
  · exact False.elim hw
