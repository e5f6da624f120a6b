set_option maxHeartbeats 4000000 in
set_option maxRecDepth 100000 in
theorem c_X7_canBear_v0 (l : Launch) (dC : Nat → ClassId) (dI : Nat → Nat → Nat) (cI cJ cZ cM : ClassId) (p0 : Nat) (p1 : Nat → Nat)   : k_Mi l yX7_canBear wsX7_canBear ({ frames := 1, cells := 0, slots := 0, locals := 40 }) (dC, dI) vwCl (tyy cI cJ cZ cM) [(p0, .inr (7, oM p1 i7 j7))] [.ref p0, .int 1] 0 0 (fun (u9 : Unit) => [(p0, .inr (7, oM p1 i7 j7))]) (fun (r9 : Int32) (u9 : Unit) => r9 = 1) := by
  refine fun sz => k_enter (cc := cX7_canBear) (maxL := 3) (ret := some (.boolean)) (Qc := fun A => va_Qi (fun (r9 : Int32) (u9 : Unit) => r9 = 1) (fun u => k_B (dC, dI) vwCl (tyy cI cJ cZ cM) A ((fun (u9 : Unit) => [(p0, .inr (7, oM p1 i7 j7))]) u)) A) sz (by decide +kernel) rfl (Nat.le_of_ble_eq_true rfl) (fun p e s m args below meth c A ls H B hP hD hS hl => ?_)
  obtain ⟨hx, hb, hml, hown, hts, hr, hlk, hnm, hK, hA, hN⟩ := id B
  have hown : s.vm.findClass RX7 = some m.cls := hown
  have hl : lv_has ls 3 [(0, .ref p0), (1, .int 1)] := hl
  have w_0 : (Cond.fieldLink RX7 246 "WishSeaModel" "fallMany" "I").before args s = true := hts _ (List.mem_of_getElem? (i := 1) rfl)
  have hinX7 : ∀ w ∈ u_ws RX7 TX7 92, w ∈ wsX7_canBear := fun _ h => List.mem_cons_of_mem _ (List.mem_append_right _ h)
  refine lv_iconst (v := 0) hx hb dX7_canBear_0 (by decide +kernel) ?_
  refine lv_istore_n (lv' := [(2, .int 0), (0, .ref p0), (1, .int 1)]) hx hb dX7_canBear_1 rfl hl (by decide) rfl (fun ls hl => ?_)
  refine lv_iload_n hx hb dX7_canBear_2 rfl (lv_at hl 0 rfl) ?_
  refine lv_aload_n hx hb dX7_canBear_3 rfl (lv_at hl 1 rfl) ?_
  refine k_get (D := (dC, dI)) (ci := 7) (v := .int 0) (C := RX7) (T := TX7) (N := 92) hx hb hts hinX7 hown hK hP 0 rfl rfl 77 (by decide) w_0 rfl rfl dX7_canBear_4 ?_
  refine lv_icmp_ge (tgt := 42) hx hb dX7_canBear_7 (by decide) (fun _ => ?_) (fun q9 => absurd q9 (by decide +kernel))
  refine lv_iconst (v := 1) hx hb dX7_canBear_42 (by decide +kernel) ?_
  exact k_ri B hP hD hS dX7_canBear_43 () [0] rfl rfl rfl (Nat.le_of_ble_eq_true rfl) (Nat.le_of_ble_eq_true rfl) rfl
set_option maxHeartbeats 4000000 in
set_option maxRecDepth 100000 in
theorem c_X7_canBear_v1 (l : Launch) (dC : Nat → ClassId) (dI : Nat → Nat → Nat) (cI cJ cZ cM : ClassId) (p0 : Nat) (p1 : Nat) (p2 : Nat → Nat)   : k_Mi l yX7_canBear wsX7_canBear ({ frames := 1, cells := 0, slots := 0, locals := 40 }) (dC, dI) vwCl (tyy cI cJ cZ cM) [(p0, .inr (7, oM p2 i7 j7))] [.ref p0, .int (nI (p1 + 1))] 0 0 (fun (u9 : Unit) => [(p0, .inr (7, oM p2 i7 j7))]) (fun (r9 : Int32) (u9 : Unit) => r9 = 1) := by
  refine fun sz => k_enter (cc := cX7_canBear) (maxL := 3) (ret := some (.boolean)) (Qc := fun A => va_Qi (fun (r9 : Int32) (u9 : Unit) => r9 = 1) (fun u => k_B (dC, dI) vwCl (tyy cI cJ cZ cM) A ((fun (u9 : Unit) => [(p0, .inr (7, oM p2 i7 j7))]) u)) A) sz (by decide +kernel) rfl (Nat.le_of_ble_eq_true rfl) (fun p e s m args below meth c A ls H B hP hD hS hl => ?_)
  obtain ⟨hx, hb, hml, hown, hts, hr, hlk, hnm, hK, hA, hN⟩ := id B
  have hown : s.vm.findClass RX7 = some m.cls := hown
  have hl : lv_has ls 3 [(0, .ref p0), (1, .int (nI (p1 + 1)))] := hl
  have w_0 : (Cond.fieldLink RX7 246 "WishSeaModel" "fallMany" "I").before args s = true := hts _ (List.mem_of_getElem? (i := 1) rfl)
  have hinX7 : ∀ w ∈ u_ws RX7 TX7 92, w ∈ wsX7_canBear := fun _ h => List.mem_cons_of_mem _ (List.mem_append_right _ h)
  refine lv_iconst (v := 0) hx hb dX7_canBear_0 (by decide +kernel) ?_
  refine lv_istore_n (lv' := [(2, .int 0), (0, .ref p0), (1, .int (nI (p1 + 1)))]) hx hb dX7_canBear_1 rfl hl (by decide) rfl (fun ls hl => ?_)
  refine lv_iload_n hx hb dX7_canBear_2 rfl (lv_at hl 0 rfl) ?_
  refine lv_aload_n hx hb dX7_canBear_3 rfl (lv_at hl 1 rfl) ?_
  refine k_get (D := (dC, dI)) (ci := 7) (v := .int 0) (C := RX7) (T := TX7) (N := 92) hx hb hts hinX7 hown hK hP 0 rfl rfl 77 (by decide) w_0 rfl rfl dX7_canBear_4 ?_
  refine lv_icmp_ge (tgt := 42) hx hb dX7_canBear_7 (by decide) (fun _ => ?_) (fun q9 => absurd q9 (by decide +kernel))
  refine lv_iconst (v := 1) hx hb dX7_canBear_42 (by decide +kernel) ?_
  exact k_ri B hP hD hS dX7_canBear_43 () [0] rfl rfl rfl (Nat.le_of_ble_eq_true rfl) (Nat.le_of_ble_eq_true rfl) rfl
set_option maxHeartbeats 4000000 in
set_option maxRecDepth 100000 in
theorem c_X7_bears_v0 (l : Launch) (dC : Nat → ClassId) (dI : Nat → Nat → Nat) (cI cJ cZ cM : ClassId) (p0 : Nat) (p1 : Int32) (p2 : Nat → Nat)   : k_Mi l yX7_bears wsX7_bears ({ frames := 2, cells := 0, slots := 0, locals := 62 }) (dC, dI) vwCl (tyy cI cJ cZ cM) [(p0, .inr (7, oM p2 i7 j7))] [.ref p0, .int p1] 0 0 (fun (u9 : (Nat × (Nat → Nat))) => [(p0, .inr (7, oM p2 i7 j7))]) (fun (r9 : Int32) (u9 : (Nat × (Nat → Nat))) => match u9.1 with | 0 => (p1.toInt < 0) ∧ r9 = (-1) | 1 => (0 ≤ p1.toInt) ∧ (2 < p1.toInt) ∧ r9 = (-1) | 2 => (0 ≤ p1.toInt) ∧ (p1.toInt ≤ 2) ∧ (¬ p1.toInt = 0) ∧ (¬ p1.toInt = 1) ∧ r9 = 999 | 3 => (0 ≤ p1.toInt) ∧ (p1.toInt ≤ 2) ∧ (¬ p1.toInt = 0) ∧ (p1.toInt = 1) ∧ r9 = 1 | 4 => (0 ≤ p1.toInt) ∧ (p1.toInt ≤ 2) ∧ (p1.toInt = 0) ∧ r9 = 999 | _ => False) := by
  refine fun sz => k_enter (cc := cX7_bears) (maxL := 6) (ret := some (.int)) (Qc := fun A => va_Qi (fun (r9 : Int32) (u9 : (Nat × (Nat → Nat))) => match u9.1 with | 0 => (p1.toInt < 0) ∧ r9 = (-1) | 1 => (0 ≤ p1.toInt) ∧ (2 < p1.toInt) ∧ r9 = (-1) | 2 => (0 ≤ p1.toInt) ∧ (p1.toInt ≤ 2) ∧ (¬ p1.toInt = 0) ∧ (¬ p1.toInt = 1) ∧ r9 = 999 | 3 => (0 ≤ p1.toInt) ∧ (p1.toInt ≤ 2) ∧ (¬ p1.toInt = 0) ∧ (p1.toInt = 1) ∧ r9 = 1 | 4 => (0 ≤ p1.toInt) ∧ (p1.toInt ≤ 2) ∧ (p1.toInt = 0) ∧ r9 = 999 | _ => False) (fun u => k_B (dC, dI) vwCl (tyy cI cJ cZ cM) A ((fun (u9 : (Nat × (Nat → Nat))) => [(p0, .inr (7, oM p2 i7 j7))]) u)) A) sz (by decide +kernel) rfl (Nat.le_of_ble_eq_true rfl) (fun p e s m args below meth c A ls H B hP hD hS hl => ?_)
  obtain ⟨hx, hb, hml, hown, hts, hr, hlk, hnm, hK, hA, hN⟩ := id B
  have hown : s.vm.findClass RX7 = some m.cls := hown
  have hl : lv_has ls 6 [(0, .ref p0), (1, .int p1)] := hl
  refine lv_iload_n hx hb dX7_bears_0 rfl (lv_at hl 1 rfl) ?_
  refine lv_iconst (v := 0) hx hb dX7_bears_1 (by decide +kernel) ?_
  refine lv_iconst (v := 2) hx hb dX7_bears_2 (by decide +kernel) ?_
  refine k_ci (wc := []) (wr := [(p0, .inr (7, oM p2 i7 j7))]) (fun hPc hDc => va_runS (As := [.int p1, .int 0, .int 2]) (rest := []) ⟨hx, hb, hml, hown, hts⟩ (c_X7_is_v3 l dC dI cI cJ cZ cM p1 H.size) (va_cwS 3 hts gX7_bears_X7_is rfl rfl rfl (by decide +kernel) ⟨(Nat.le_of_ble_eq_true rfl), (Nat.le_of_ble_eq_true rfl)⟩) (k_pS hPc hDc hK hN) rfl rfl hl.1 rfl (lv_room (Nat.le_of_ble_eq_true rfl)) dX7_bears_3 ⟨(Nat.le_of_ble_eq_true rfl), (Nat.le_of_ble_eq_true rfl)⟩) hP hD hS hA [] [0] rfl rfl rfl rfl (by decide) (fun _ => rfl) 0 0 rfl rfl (fun r_1 u_2 H locs hw hP hD hS => ?_)
  obtain ⟨k_u_2, u_u_2⟩ := u_2
  rcases k_u_2 with _ | _ | _ | k_u_2
  · obtain ⟨c_3, rfl⟩ : (p1.toInt < 0) ∧ r_1 = 0 := hw
    have hP : va_P (dC, dI) vwCl [(p0, .inr (7, oM p2 i7 j7))] H := hP
    have hD : va_D A [(p0, .inr (7, oM p2 i7 j7))] := hD
    refine lv_if_ne (tgt := 11) hx hb dX7_bears_6 (by decide) (fun q9 => absurd q9 (by decide +kernel)) (fun _ => ?_)
    refine lv_iconst (v := (-1)) hx hb dX7_bears_9 (by decide +kernel) ?_
    exact k_ri B hP hD hS dX7_bears_10 (0, (fun _ => 0)) [0] rfl rfl rfl (Nat.le_of_ble_eq_true rfl) (Nat.le_of_ble_eq_true rfl) ⟨c_3, rfl⟩
  · obtain ⟨c_4, c_5, rfl⟩ : (0 ≤ p1.toInt) ∧ (2 < p1.toInt) ∧ r_1 = 0 := hw
    have hP : va_P (dC, dI) vwCl [(p0, .inr (7, oM p2 i7 j7))] H := hP
    have hD : va_D A [(p0, .inr (7, oM p2 i7 j7))] := hD
    refine lv_if_ne (tgt := 11) hx hb dX7_bears_6 (by decide) (fun q9 => absurd q9 (by decide +kernel)) (fun _ => ?_)
    refine lv_iconst (v := (-1)) hx hb dX7_bears_9 (by decide +kernel) ?_
    exact k_ri B hP hD hS dX7_bears_10 (1, (fun _ => 0)) [0] rfl rfl rfl (Nat.le_of_ble_eq_true rfl) (Nat.le_of_ble_eq_true rfl) ⟨c_4, c_5, rfl⟩
  · obtain ⟨c_6, c_7, rfl⟩ : (0 ≤ p1.toInt) ∧ (p1.toInt ≤ 2) ∧ r_1 = 1 := hw
    have hP : va_P (dC, dI) vwCl [(p0, .inr (7, oM p2 i7 j7))] H := hP
    have hD : va_D A [(p0, .inr (7, oM p2 i7 j7))] := hD
    refine lv_if_ne (tgt := 11) hx hb dX7_bears_6 (by decide) (fun _ => ?_) (fun q9 => absurd q9 (by decide +kernel))
    refine lv_iconst (v := 0) hx hb dX7_bears_11 (by decide +kernel) ?_
    refine lv_istore_n (lv' := [(2, .int 0), (0, .ref p0), (1, .int p1)]) hx hb dX7_bears_12 rfl hl (by decide) rfl (fun ls hl => ?_)
    refine lv_iconst (v := (-1)) hx hb dX7_bears_13 (by decide +kernel) ?_
    refine lv_istore_n (lv' := [(3, .int (-1)), (2, .int 0), (0, .ref p0), (1, .int p1)]) hx hb dX7_bears_14 rfl hl (by decide) rfl (fun ls hl => ?_)
    refine lv_iconst (v := (-1)) hx hb dX7_bears_15 (by decide +kernel) ?_
    refine lv_istore (lv' := [(4, .int (-1)), (3, .int (-1)), (2, .int 0), (0, .ref p0), (1, .int p1)]) hx hb dX7_bears_16 hl (by decide) rfl (fun ls hl => ?_)
    refine lv_iconst (v := 1) hx hb dX7_bears_18 (by decide +kernel) ?_
    refine lv_istore (lv' := [(5, .int 1), (4, .int (-1)), (3, .int (-1)), (2, .int 0), (0, .ref p0), (1, .int p1)]) hx hb dX7_bears_19 hl (by decide) rfl (fun ls hl => ?_)
    refine lv_iload hx hb dX7_bears_21 (lv_at hl 0 rfl) ?_
    refine lv_sipush (v := 999) hx hb dX7_bears_23 (by decide +kernel) ?_
    refine lv_icmp_gt (tgt := 66) hx hb dX7_bears_26 (by decide) (fun q9 => absurd q9 (by decide +kernel)) (fun _ => ?_)
    refine lv_aload_n hx hb dX7_bears_29 rfl (lv_at hl 4 rfl) ?_
    refine lv_iload hx hb dX7_bears_30 (lv_at hl 0 rfl) ?_
    refine k_ci (wc := [(p0, .inr (7, oM p2 i7 j7))]) (wr := []) (fun hPc hDc => va_runV (As := [.int 1]) (rest := []) ⟨hx, hb, hml, hown, hts⟩ (c_X7_canBear_v0 l dC dI cI cJ cZ cM p0 p2 H.size) (cwV 1 hts gX7_bears_X7_canBear rfl rfl rfl (by decide +kernel) ⟨(Nat.le_of_ble_eq_true rfl), (Nat.le_of_ble_eq_true rfl)⟩) (k_pV hPc hDc hK hN hP (q0 := 0) (ci := 7) rfl rfl) rfl rfl hl.1 rfl (lv_room (Nat.le_of_ble_eq_true rfl)) dX7_bears_32 ⟨(Nat.le_of_ble_eq_true rfl), (Nat.le_of_ble_eq_true rfl)⟩) hP hD hS hA [0] [] rfl rfl rfl rfl (by decide) (fun _ => rfl) 0 0 rfl rfl (fun r_8 u_9 H locs hw hP hD hS => ?_)
    obtain rfl : r_8 = 1 := hw
    have hP : va_P (dC, dI) vwCl [(p0, .inr (7, oM p2 i7 j7))] H := hP
    have hD : va_D A [(p0, .inr (7, oM p2 i7 j7))] := hD
    refine lv_if_ne (tgt := 41) hx hb dX7_bears_35 (by decide) (fun _ => ?_) (fun q9 => absurd q9 (by decide +kernel))
    refine lv_iinc (v := 1) (lv' := [(2, .int 1), (5, .int 1), (4, .int (-1)), (3, .int (-1)), (0, .ref p0), (1, .int p1)]) hx hb dX7_bears_41 hl (k := 3) rfl (by decide +kernel) (by decide) rfl (fun ls hl => ?_)
    refine lv_iload_n hx hb dX7_bears_44 rfl (lv_at hl 3 rfl) ?_
    refine lv_iconst (v := (-1)) hx hb dX7_bears_45 (by decide +kernel) ?_
    refine lv_icmp_ne (tgt := 54) hx hb dX7_bears_46 (by decide) (fun q9 => absurd q9 (by decide +kernel)) (fun _ => ?_)
    refine lv_iload hx hb dX7_bears_49 (lv_at hl 1 rfl) ?_
    refine lv_goto (tgt := 55) hx hb dX7_bears_51 (by decide) ?_
    refine lv_istore_n (lv' := [(3, .int 1), (2, .int 1), (5, .int 1), (4, .int (-1)), (0, .ref p0), (1, .int p1)]) hx hb dX7_bears_55 rfl hl (by decide) rfl (fun ls hl => ?_)
    refine lv_iload hx hb dX7_bears_56 (lv_at hl 2 rfl) ?_
    refine lv_istore (lv' := [(4, .int 1), (3, .int 1), (2, .int 1), (5, .int 1), (0, .ref p0), (1, .int p1)]) hx hb dX7_bears_58 hl (by decide) rfl (fun ls hl => ?_)
    refine lv_iinc (v := 2) (lv' := [(5, .int 2), (4, .int 1), (3, .int 1), (2, .int 1), (0, .ref p0), (1, .int p1)]) hx hb dX7_bears_60 hl (k := 3) rfl (by decide +kernel) (by decide) rfl (fun ls hl => ?_)
    refine lv_goto (tgt := 21) hx hb dX7_bears_63 (by decide) ?_
    have loop_k_10 : ∀ (n_k_10 : Nat) (kk_10 : Nat) (h1k_10 : 1 ≤ kk_10) (h2k_10 : kk_10 ≤ 999) (hn_k_10 : 999 - kk_10 < n_k_10) (H : Heap) (locs : List Loc) (ls : Array Slot), va_P (dC, dI) vwCl [(p0, .inr (7, oM p2 i7 j7))] H → va_D A [(p0, .inr (7, oM p2 i7 j7))] → va_S A s.heap H locs → lv_has ls 6 [(5, .int (nI (kk_10 + 1))), (4, .int (nI kk_10)), (3, .int 1), (2, .int (nI kk_10)), (0, .ref p0), (1, .int p1)] → W p l e ({ frames := 2, cells := 0, slots := 0, locals := 62 }) s m args below meth c H locs 0 0 (MQ below (va_Qi (fun (r9 : Int32) (u9 : (Nat × (Nat → Nat))) => match u9.1 with | 0 => (p1.toInt < 0) ∧ r9 = (-1) | 1 => (0 ≤ p1.toInt) ∧ (2 < p1.toInt) ∧ r9 = (-1) | 2 => (0 ≤ p1.toInt) ∧ (p1.toInt ≤ 2) ∧ (¬ p1.toInt = 0) ∧ (¬ p1.toInt = 1) ∧ r9 = 999 | 3 => (0 ≤ p1.toInt) ∧ (p1.toInt ≤ 2) ∧ (¬ p1.toInt = 0) ∧ (p1.toInt = 1) ∧ r9 = 1 | 4 => (0 ≤ p1.toInt) ∧ (p1.toInt ≤ 2) ∧ (p1.toInt = 0) ∧ r9 = 999 | _ => False) (fun u => k_B (dC, dI) vwCl (tyy cI cJ cZ cM) A ((fun (u9 : (Nat × (Nat → Nat))) => [(p0, .inr (7, oM p2 i7 j7))]) u)) A) args s 0 0 A) (F0 m 21 ls []) := by
      intro n_k_10
      induction n_k_10 with
      | zero => intro kk_10 h1k_10 h2k_10 hn_k_10; exact absurd hn_k_10 (Nat.not_lt_zero _)
      | succ n_k_10 ih_k_10 =>
        intro kk_10 h1k_10 h2k_10 hn_k_10 H locs ls hP hD hS hl
        refine lv_iload hx hb dX7_bears_21 (lv_at hl 0 rfl) ?_
        refine lv_sipush (v := 999) hx hb dX7_bears_23 (by decide +kernel) ?_
        refine lv_icmp_gt (tgt := 66) hx hb dX7_bears_26 (by decide) (fun c_11 => ?_) (fun c_11 => ?_)
        · have c_11 : 999 < (((kk_10 + 1) : Nat) : Int) := k_ltT (by decide +kernel) (nI_toInt (by omega)) c_11
          obtain rfl : kk_10 = 999 := by omega
          have hl : lv_has ls 6 [(5, .int 1000), (4, .int 999), (3, .int 1), (2, .int 999), (0, .ref p0), (1, .int p1)] := hl
          have hP : va_P (dC, dI) vwCl [(p0, .inr (7, oM p2 i7 j7))] H := hP
          have hD : va_D A [(p0, .inr (7, oM p2 i7 j7))] := hD
          refine lv_iload_n hx hb dX7_bears_66 rfl (lv_at hl 5 rfl) ?_
          refine lv_if_ne (tgt := 74) hx hb dX7_bears_67 (by decide) (fun c_12 => ?_) (fun c_12 => ?_)
          · have c_12 : ¬ p1.toInt = 0 := k_eqF rfl (by decide +kernel) c_12
            refine lv_iload_n hx hb dX7_bears_74 rfl (lv_at hl 5 rfl) ?_
            refine lv_iconst (v := 1) hx hb dX7_bears_75 (by decide +kernel) ?_
            refine lv_icmp_ne (tgt := 83) hx hb dX7_bears_76 (by decide) (fun c_13 => ?_) (fun c_13 => ?_)
            · have c_13 : ¬ p1.toInt = 1 := k_eqF rfl (by decide +kernel) c_13
              refine lv_iload hx hb dX7_bears_83 (lv_at hl 1 rfl) ?_
              exact k_ri B hP hD hS dX7_bears_85 (2, (fun _ => 0)) [0] rfl rfl rfl (Nat.le_of_ble_eq_true rfl) (Nat.le_of_ble_eq_true rfl) ⟨c_6, c_7, c_12, c_13, rfl⟩
            · have c_13 : p1.toInt = 1 := k_eqT rfl (by decide +kernel) c_13
              refine lv_iload_n hx hb dX7_bears_79 rfl (lv_at hl 2 rfl) ?_
              refine lv_goto (tgt := 85) hx hb dX7_bears_80 (by decide) ?_
              exact k_ri B hP hD hS dX7_bears_85 (3, (fun _ => 0)) [0] rfl rfl rfl (Nat.le_of_ble_eq_true rfl) (Nat.le_of_ble_eq_true rfl) ⟨c_6, c_7, c_12, c_13, rfl⟩
          · have c_12 : p1.toInt = 0 := k_eqT rfl (by decide +kernel) c_12
            refine lv_iload_n hx hb dX7_bears_70 rfl (lv_at hl 3 rfl) ?_
            refine lv_goto (tgt := 85) hx hb dX7_bears_71 (by decide) ?_
            exact k_ri B hP hD hS dX7_bears_85 (4, (fun _ => 0)) [0] rfl rfl rfl (Nat.le_of_ble_eq_true rfl) (Nat.le_of_ble_eq_true rfl) ⟨c_6, c_7, c_12, rfl⟩
        · have c_11 : (((kk_10 + 1) : Nat) : Int) ≤ 999 := k_ltF (by decide +kernel) (nI_toInt (by omega)) c_11
          refine lv_aload_n hx hb dX7_bears_29 rfl (lv_at hl 4 rfl) ?_
          refine lv_iload hx hb dX7_bears_30 (lv_at hl 0 rfl) ?_
          refine k_ci (wc := [(p0, .inr (7, oM p2 i7 j7))]) (wr := []) (fun hPc hDc => va_runV (As := [.int (nI (kk_10 + 1))]) (rest := []) ⟨hx, hb, hml, hown, hts⟩ (c_X7_canBear_v1 l dC dI cI cJ cZ cM p0 kk_10 p2 H.size) (cwV 1 hts gX7_bears_X7_canBear rfl rfl rfl (by decide +kernel) ⟨(Nat.le_of_ble_eq_true rfl), (Nat.le_of_ble_eq_true rfl)⟩) (k_pV hPc hDc hK hN hP (q0 := 0) (ci := 7) rfl rfl) rfl rfl hl.1 rfl (lv_room (Nat.le_of_ble_eq_true rfl)) dX7_bears_32 ⟨(Nat.le_of_ble_eq_true rfl), (Nat.le_of_ble_eq_true rfl)⟩) hP hD hS hA [0] [] rfl rfl rfl rfl (by decide) (fun _ => rfl) 0 0 rfl rfl (fun r_14 u_15 H locs hw hP hD hS => ?_)
          obtain rfl : r_14 = 1 := hw
          have hP : va_P (dC, dI) vwCl [(p0, .inr (7, oM p2 i7 j7))] H := hP
          have hD : va_D A [(p0, .inr (7, oM p2 i7 j7))] := hD
          refine lv_if_ne (tgt := 41) hx hb dX7_bears_35 (by decide) (fun _ => ?_) (fun q9 => absurd q9 (by decide +kernel))
          refine lv_iinc (v := (nI (kk_10 + 1))) (lv' := [(2, .int (nI (kk_10 + 1))), (5, .int (nI (kk_10 + 1))), (4, .int (nI kk_10)), (3, .int 1), (0, .ref p0), (1, .int p1)]) hx hb dX7_bears_41 hl (k := 3) rfl (nI_1 _) (by decide) rfl (fun ls hl => ?_)
          refine lv_iload_n hx hb dX7_bears_44 rfl (lv_at hl 3 rfl) ?_
          refine lv_iconst (v := (-1)) hx hb dX7_bears_45 (by decide +kernel) ?_
          refine lv_icmp_ne (tgt := 54) hx hb dX7_bears_46 (by decide) (fun _ => ?_) (fun q9 => absurd q9 (by decide +kernel))
          refine lv_iload_n hx hb dX7_bears_54 rfl (lv_at hl 3 rfl) ?_
          refine lv_istore_n (lv' := [(3, .int 1), (2, .int (nI (kk_10 + 1))), (5, .int (nI (kk_10 + 1))), (4, .int (nI kk_10)), (0, .ref p0), (1, .int p1)]) hx hb dX7_bears_55 rfl hl (by decide) rfl (fun ls hl => ?_)
          refine lv_iload hx hb dX7_bears_56 (lv_at hl 2 rfl) ?_
          refine lv_istore (lv' := [(4, .int (nI (kk_10 + 1))), (3, .int 1), (2, .int (nI (kk_10 + 1))), (5, .int (nI (kk_10 + 1))), (0, .ref p0), (1, .int p1)]) hx hb dX7_bears_58 hl (by decide) rfl (fun ls hl => ?_)
          refine lv_iinc (v := (nI ((kk_10 + 1) + 1))) (lv' := [(5, .int (nI ((kk_10 + 1) + 1))), (4, .int (nI (kk_10 + 1))), (3, .int 1), (2, .int (nI (kk_10 + 1))), (0, .ref p0), (1, .int p1)]) hx hb dX7_bears_60 hl (k := 3) rfl (nI_1 _) (by decide) rfl (fun ls hl => ?_)
          refine lv_goto (tgt := 21) hx hb dX7_bears_63 (by decide) ?_
          exact ih_k_10 (kk_10 + 1) (by omega) (by omega) (by omega) H locs ls (hP.sub [0] rfl) (hD.sub [0] (by decide) rfl) hS (lv_sub hl [0, 1, 2, 3, 4, 5] rfl)
    exact loop_k_10 _ 1 (by omega) (by omega) (Nat.lt_succ_self _) H locs ls hP hD hS hl
  · exact False.elim hw
set_option maxHeartbeats 4000000 in
set_option maxRecDepth 100000 in
theorem c_X7_areWishes_v1 (l : Launch) (dC : Nat → ClassId) (dI : Nat → Nat → Nat) (cI cJ cZ cM : ClassId) (p0 : Nat)   : k_Mi l yX7_areWishes wsX7_areWishes ({ frames := 1, cells := 0, slots := 0, locals := 40 }) (dC, dI) vwCl (tyy cI cJ cZ cM) [] [.ref p0, .int 0, .int 0] 0 0 (fun (u9 : Unit) => []) (fun (r9 : Int32) (u9 : Unit) => r9 = 1) := by
  refine fun sz => k_enter (cc := cX7_areWishes) (maxL := 4) (ret := some (.boolean)) (Qc := fun A => va_Qi (fun (r9 : Int32) (u9 : Unit) => r9 = 1) (fun u => k_B (dC, dI) vwCl (tyy cI cJ cZ cM) A ((fun (u9 : Unit) => []) u)) A) sz (by decide +kernel) rfl (Nat.le_of_ble_eq_true rfl) (fun p e s m args below meth c A ls H B hP hD hS hl => ?_)
  obtain ⟨hx, hb, hml, hown, hts, hr, hlk, hnm, hK, hA, hN⟩ := id B
  have hown : s.vm.findClass RX7 = some m.cls := hown
  have hl : lv_has ls 4 [(0, .ref p0), (1, .int 0), (2, .int 0)] := hl
  refine lv_iconst (v := 0) hx hb dX7_areWishes_0 (by decide +kernel) ?_
  refine lv_istore_n (lv' := [(3, .int 0), (0, .ref p0), (1, .int 0), (2, .int 0)]) hx hb dX7_areWishes_1 rfl hl (by decide) rfl (fun ls hl => ?_)
  refine lv_iload_n hx hb dX7_areWishes_2 rfl (lv_at hl 0 rfl) ?_
  refine lv_iload_n hx hb dX7_areWishes_3 rfl (lv_at hl 2 rfl) ?_
  refine lv_icmp_ge (tgt := 44) hx hb dX7_areWishes_4 (by decide) (fun _ => ?_) (fun q9 => absurd q9 (by decide +kernel))
  refine lv_iconst (v := 1) hx hb dX7_areWishes_44 (by decide +kernel) ?_
  exact k_ri B hP hD hS dX7_areWishes_45 () [] rfl rfl rfl (Nat.le_of_ble_eq_true rfl) (Nat.le_of_ble_eq_true rfl) rfl
set_option maxHeartbeats 4000000 in
set_option maxRecDepth 100000 in
theorem c_X7_is_v4 (l : Launch) (dC : Nat → ClassId) (dI : Nat → Nat → Nat) (cI cJ cZ cM : ClassId)    : k_Mi l yX7_is wsX7_is ({ frames := 1, cells := 0, slots := 0, locals := 40 }) (dC, dI) vwCl (tyy cI cJ cZ cM) [] [.int 0, .int 0, .int 2] 0 0 (fun (u9 : Unit) => []) (fun (r9 : Int32) (u9 : Unit) => r9 = 1) := by
  refine fun sz => k_enter (cc := cX7_is) (maxL := 3) (ret := some (.boolean)) (Qc := fun A => va_Qi (fun (r9 : Int32) (u9 : Unit) => r9 = 1) (fun u => k_B (dC, dI) vwCl (tyy cI cJ cZ cM) A ((fun (u9 : Unit) => []) u)) A) sz (by decide +kernel) rfl (Nat.le_of_ble_eq_true rfl) (fun p e s m args below meth c A ls H B hP hD hS hl => ?_)
  obtain ⟨hx, hb, hml, hown, hts, hr, hlk, hnm, hK, hA, hN⟩ := id B
  have hown : s.vm.findClass RX7 = some m.cls := hown
  have hl : lv_has ls 3 [(0, .int 0), (1, .int 0), (2, .int 2)] := hl
  refine lv_iload_n hx hb dX7_is_0 rfl (lv_at hl 0 rfl) ?_
  refine lv_iload_n hx hb dX7_is_1 rfl (lv_at hl 1 rfl) ?_
  refine lv_icmp_lt (tgt := 14) hx hb dX7_is_2 (by decide) (fun q9 => absurd q9 (by decide +kernel)) (fun _ => ?_)
  refine lv_iload_n hx hb dX7_is_5 rfl (lv_at hl 0 rfl) ?_
  refine lv_iload_n hx hb dX7_is_6 rfl (lv_at hl 2 rfl) ?_
  refine lv_icmp_gt (tgt := 14) hx hb dX7_is_7 (by decide) (fun q9 => absurd q9 (by decide +kernel)) (fun _ => ?_)
  refine lv_iconst (v := 1) hx hb dX7_is_10 (by decide +kernel) ?_
  refine lv_goto (tgt := 15) hx hb dX7_is_11 (by decide) ?_
  exact k_ri B hP hD hS dX7_is_15 () [] rfl rfl rfl (Nat.le_of_ble_eq_true rfl) (Nat.le_of_ble_eq_true rfl) rfl
set_option maxHeartbeats 4000000 in
set_option maxRecDepth 100000 in
theorem c_X7_canBear_v2 (l : Launch) (dC : Nat → ClassId) (dI : Nat → Nat → Nat) (cI cJ cZ cM : ClassId) (p0 : Nat) (p1 : Nat → Nat)   : k_Mi l yX7_canBear wsX7_canBear ({ frames := 1, cells := 0, slots := 0, locals := 40 }) (dC, dI) vwCl (tyy cI cJ cZ cM) [(p0, .inr (7, oM p1 (upd i7 1 0) j7))] [.ref p0, .int 1] 0 0 (fun (u9 : Unit) => [(p0, .inr (7, oM p1 (upd i7 1 0) j7))]) (fun (r9 : Int32) (u9 : Unit) => r9 = 1) := by
  refine fun sz => k_enter (cc := cX7_canBear) (maxL := 3) (ret := some (.boolean)) (Qc := fun A => va_Qi (fun (r9 : Int32) (u9 : Unit) => r9 = 1) (fun u => k_B (dC, dI) vwCl (tyy cI cJ cZ cM) A ((fun (u9 : Unit) => [(p0, .inr (7, oM p1 (upd i7 1 0) j7))]) u)) A) sz (by decide +kernel) rfl (Nat.le_of_ble_eq_true rfl) (fun p e s m args below meth c A ls H B hP hD hS hl => ?_)
  obtain ⟨hx, hb, hml, hown, hts, hr, hlk, hnm, hK, hA, hN⟩ := id B
  have hown : s.vm.findClass RX7 = some m.cls := hown
  have hl : lv_has ls 3 [(0, .ref p0), (1, .int 1)] := hl
  have w_0 : (Cond.fieldLink RX7 246 "WishSeaModel" "fallMany" "I").before args s = true := hts _ (List.mem_of_getElem? (i := 1) rfl)
  have hinX7 : ∀ w ∈ u_ws RX7 TX7 92, w ∈ wsX7_canBear := fun _ h => List.mem_cons_of_mem _ (List.mem_append_right _ h)
  refine lv_iconst (v := 0) hx hb dX7_canBear_0 (by decide +kernel) ?_
  refine lv_istore_n (lv' := [(2, .int 0), (0, .ref p0), (1, .int 1)]) hx hb dX7_canBear_1 rfl hl (by decide) rfl (fun ls hl => ?_)
  refine lv_iload_n hx hb dX7_canBear_2 rfl (lv_at hl 0 rfl) ?_
  refine lv_aload_n hx hb dX7_canBear_3 rfl (lv_at hl 1 rfl) ?_
  refine k_get (D := (dC, dI)) (ci := 7) (v := .int 0) (C := RX7) (T := TX7) (N := 92) hx hb hts hinX7 hown hK hP 0 rfl rfl 77 (by decide) w_0 rfl rfl dX7_canBear_4 ?_
  refine lv_icmp_ge (tgt := 42) hx hb dX7_canBear_7 (by decide) (fun _ => ?_) (fun q9 => absurd q9 (by decide +kernel))
  refine lv_iconst (v := 1) hx hb dX7_canBear_42 (by decide +kernel) ?_
  exact k_ri B hP hD hS dX7_canBear_43 () [0] rfl rfl rfl (Nat.le_of_ble_eq_true rfl) (Nat.le_of_ble_eq_true rfl) rfl
set_option maxHeartbeats 4000000 in
set_option maxRecDepth 100000 in
theorem c_X7_canBear_v3 (l : Launch) (dC : Nat → ClassId) (dI : Nat → Nat → Nat) (cI cJ cZ cM : ClassId) (p0 : Nat) (p1 : Nat) (p2 : Nat → Nat)   : k_Mi l yX7_canBear wsX7_canBear ({ frames := 1, cells := 0, slots := 0, locals := 40 }) (dC, dI) vwCl (tyy cI cJ cZ cM) [(p0, .inr (7, oM p2 (upd i7 1 0) j7))] [.ref p0, .int (nI (p1 + 1))] 0 0 (fun (u9 : Unit) => [(p0, .inr (7, oM p2 (upd i7 1 0) j7))]) (fun (r9 : Int32) (u9 : Unit) => r9 = 1) := by
  refine fun sz => k_enter (cc := cX7_canBear) (maxL := 3) (ret := some (.boolean)) (Qc := fun A => va_Qi (fun (r9 : Int32) (u9 : Unit) => r9 = 1) (fun u => k_B (dC, dI) vwCl (tyy cI cJ cZ cM) A ((fun (u9 : Unit) => [(p0, .inr (7, oM p2 (upd i7 1 0) j7))]) u)) A) sz (by decide +kernel) rfl (Nat.le_of_ble_eq_true rfl) (fun p e s m args below meth c A ls H B hP hD hS hl => ?_)
  obtain ⟨hx, hb, hml, hown, hts, hr, hlk, hnm, hK, hA, hN⟩ := id B
  have hown : s.vm.findClass RX7 = some m.cls := hown
  have hl : lv_has ls 3 [(0, .ref p0), (1, .int (nI (p1 + 1)))] := hl
  have w_0 : (Cond.fieldLink RX7 246 "WishSeaModel" "fallMany" "I").before args s = true := hts _ (List.mem_of_getElem? (i := 1) rfl)
  have hinX7 : ∀ w ∈ u_ws RX7 TX7 92, w ∈ wsX7_canBear := fun _ h => List.mem_cons_of_mem _ (List.mem_append_right _ h)
  refine lv_iconst (v := 0) hx hb dX7_canBear_0 (by decide +kernel) ?_
  refine lv_istore_n (lv' := [(2, .int 0), (0, .ref p0), (1, .int (nI (p1 + 1)))]) hx hb dX7_canBear_1 rfl hl (by decide) rfl (fun ls hl => ?_)
  refine lv_iload_n hx hb dX7_canBear_2 rfl (lv_at hl 0 rfl) ?_
  refine lv_aload_n hx hb dX7_canBear_3 rfl (lv_at hl 1 rfl) ?_
  refine k_get (D := (dC, dI)) (ci := 7) (v := .int 0) (C := RX7) (T := TX7) (N := 92) hx hb hts hinX7 hown hK hP 0 rfl rfl 77 (by decide) w_0 rfl rfl dX7_canBear_4 ?_
  refine lv_icmp_ge (tgt := 42) hx hb dX7_canBear_7 (by decide) (fun _ => ?_) (fun q9 => absurd q9 (by decide +kernel))
  refine lv_iconst (v := 1) hx hb dX7_canBear_42 (by decide +kernel) ?_
  exact k_ri B hP hD hS dX7_canBear_43 () [0] rfl rfl rfl (Nat.le_of_ble_eq_true rfl) (Nat.le_of_ble_eq_true rfl) rfl
set_option maxHeartbeats 4000000 in
set_option maxRecDepth 100000 in
theorem c_X7_bears_v1 (l : Launch) (dC : Nat → ClassId) (dI : Nat → Nat → Nat) (cI cJ cZ cM : ClassId) (p0 : Nat) (p1 : Nat → Nat)   : k_Mi l yX7_bears wsX7_bears ({ frames := 2, cells := 0, slots := 0, locals := 62 }) (dC, dI) vwCl (tyy cI cJ cZ cM) [(p0, .inr (7, oM p1 (upd i7 1 0) j7))] [.ref p0, .int 0] 0 0 (fun (u9 : Unit) => [(p0, .inr (7, oM p1 (upd i7 1 0) j7))]) (fun (r9 : Int32) (u9 : Unit) => r9 = 999) := by
  refine fun sz => k_enter (cc := cX7_bears) (maxL := 6) (ret := some (.int)) (Qc := fun A => va_Qi (fun (r9 : Int32) (u9 : Unit) => r9 = 999) (fun u => k_B (dC, dI) vwCl (tyy cI cJ cZ cM) A ((fun (u9 : Unit) => [(p0, .inr (7, oM p1 (upd i7 1 0) j7))]) u)) A) sz (by decide +kernel) rfl (Nat.le_of_ble_eq_true rfl) (fun p e s m args below meth c A ls H B hP hD hS hl => ?_)
  obtain ⟨hx, hb, hml, hown, hts, hr, hlk, hnm, hK, hA, hN⟩ := id B
  have hown : s.vm.findClass RX7 = some m.cls := hown
  have hl : lv_has ls 6 [(0, .ref p0), (1, .int 0)] := hl
  refine lv_iload_n hx hb dX7_bears_0 rfl (lv_at hl 1 rfl) ?_
  refine lv_iconst (v := 0) hx hb dX7_bears_1 (by decide +kernel) ?_
  refine lv_iconst (v := 2) hx hb dX7_bears_2 (by decide +kernel) ?_
  refine k_ci (wc := []) (wr := [(p0, .inr (7, oM p1 (upd i7 1 0) j7))]) (fun hPc hDc => va_runS (As := [.int 0, .int 0, .int 2]) (rest := []) ⟨hx, hb, hml, hown, hts⟩ (c_X7_is_v4 l dC dI cI cJ cZ cM H.size) (va_cwS 3 hts gX7_bears_X7_is rfl rfl rfl (by decide +kernel) ⟨(Nat.le_of_ble_eq_true rfl), (Nat.le_of_ble_eq_true rfl)⟩) (k_pS hPc hDc hK hN) rfl rfl hl.1 rfl (lv_room (Nat.le_of_ble_eq_true rfl)) dX7_bears_3 ⟨(Nat.le_of_ble_eq_true rfl), (Nat.le_of_ble_eq_true rfl)⟩) hP hD hS hA [] [0] rfl rfl rfl rfl (by decide) (fun _ => rfl) 0 0 rfl rfl (fun r_1 u_2 H locs hw hP hD hS => ?_)
  obtain rfl : r_1 = 1 := hw
  have hP : va_P (dC, dI) vwCl [(p0, .inr (7, oM p1 (upd i7 1 0) j7))] H := hP
  have hD : va_D A [(p0, .inr (7, oM p1 (upd i7 1 0) j7))] := hD
  refine lv_if_ne (tgt := 11) hx hb dX7_bears_6 (by decide) (fun _ => ?_) (fun q9 => absurd q9 (by decide +kernel))
  refine lv_iconst (v := 0) hx hb dX7_bears_11 (by decide +kernel) ?_
  refine lv_istore_n (lv' := [(2, .int 0), (0, .ref p0), (1, .int 0)]) hx hb dX7_bears_12 rfl hl (by decide) rfl (fun ls hl => ?_)
  refine lv_iconst (v := (-1)) hx hb dX7_bears_13 (by decide +kernel) ?_
  refine lv_istore_n (lv' := [(3, .int (-1)), (2, .int 0), (0, .ref p0), (1, .int 0)]) hx hb dX7_bears_14 rfl hl (by decide) rfl (fun ls hl => ?_)
  refine lv_iconst (v := (-1)) hx hb dX7_bears_15 (by decide +kernel) ?_
  refine lv_istore (lv' := [(4, .int (-1)), (3, .int (-1)), (2, .int 0), (0, .ref p0), (1, .int 0)]) hx hb dX7_bears_16 hl (by decide) rfl (fun ls hl => ?_)
  refine lv_iconst (v := 1) hx hb dX7_bears_18 (by decide +kernel) ?_
  refine lv_istore (lv' := [(5, .int 1), (4, .int (-1)), (3, .int (-1)), (2, .int 0), (0, .ref p0), (1, .int 0)]) hx hb dX7_bears_19 hl (by decide) rfl (fun ls hl => ?_)
  refine lv_iload hx hb dX7_bears_21 (lv_at hl 0 rfl) ?_
  refine lv_sipush (v := 999) hx hb dX7_bears_23 (by decide +kernel) ?_
  refine lv_icmp_gt (tgt := 66) hx hb dX7_bears_26 (by decide) (fun q9 => absurd q9 (by decide +kernel)) (fun _ => ?_)
  refine lv_aload_n hx hb dX7_bears_29 rfl (lv_at hl 4 rfl) ?_
  refine lv_iload hx hb dX7_bears_30 (lv_at hl 0 rfl) ?_
  refine k_ci (wc := [(p0, .inr (7, oM p1 (upd i7 1 0) j7))]) (wr := []) (fun hPc hDc => va_runV (As := [.int 1]) (rest := []) ⟨hx, hb, hml, hown, hts⟩ (c_X7_canBear_v2 l dC dI cI cJ cZ cM p0 p1 H.size) (cwV 1 hts gX7_bears_X7_canBear rfl rfl rfl (by decide +kernel) ⟨(Nat.le_of_ble_eq_true rfl), (Nat.le_of_ble_eq_true rfl)⟩) (k_pV hPc hDc hK hN hP (q0 := 0) (ci := 7) rfl rfl) rfl rfl hl.1 rfl (lv_room (Nat.le_of_ble_eq_true rfl)) dX7_bears_32 ⟨(Nat.le_of_ble_eq_true rfl), (Nat.le_of_ble_eq_true rfl)⟩) hP hD hS hA [0] [] rfl rfl rfl rfl (by decide) (fun _ => rfl) 0 0 rfl rfl (fun r_3 u_4 H locs hw hP hD hS => ?_)
  obtain rfl : r_3 = 1 := hw
  have hP : va_P (dC, dI) vwCl [(p0, .inr (7, oM p1 (upd i7 1 0) j7))] H := hP
  have hD : va_D A [(p0, .inr (7, oM p1 (upd i7 1 0) j7))] := hD
  refine lv_if_ne (tgt := 41) hx hb dX7_bears_35 (by decide) (fun _ => ?_) (fun q9 => absurd q9 (by decide +kernel))
  refine lv_iinc (v := 1) (lv' := [(2, .int 1), (5, .int 1), (4, .int (-1)), (3, .int (-1)), (0, .ref p0), (1, .int 0)]) hx hb dX7_bears_41 hl (k := 3) rfl (by decide +kernel) (by decide) rfl (fun ls hl => ?_)
  refine lv_iload_n hx hb dX7_bears_44 rfl (lv_at hl 3 rfl) ?_
  refine lv_iconst (v := (-1)) hx hb dX7_bears_45 (by decide +kernel) ?_
  refine lv_icmp_ne (tgt := 54) hx hb dX7_bears_46 (by decide) (fun q9 => absurd q9 (by decide +kernel)) (fun _ => ?_)
  refine lv_iload hx hb dX7_bears_49 (lv_at hl 1 rfl) ?_
  refine lv_goto (tgt := 55) hx hb dX7_bears_51 (by decide) ?_
  refine lv_istore_n (lv' := [(3, .int 1), (2, .int 1), (5, .int 1), (4, .int (-1)), (0, .ref p0), (1, .int 0)]) hx hb dX7_bears_55 rfl hl (by decide) rfl (fun ls hl => ?_)
  refine lv_iload hx hb dX7_bears_56 (lv_at hl 2 rfl) ?_
  refine lv_istore (lv' := [(4, .int 1), (3, .int 1), (2, .int 1), (5, .int 1), (0, .ref p0), (1, .int 0)]) hx hb dX7_bears_58 hl (by decide) rfl (fun ls hl => ?_)
  refine lv_iinc (v := 2) (lv' := [(5, .int 2), (4, .int 1), (3, .int 1), (2, .int 1), (0, .ref p0), (1, .int 0)]) hx hb dX7_bears_60 hl (k := 3) rfl (by decide +kernel) (by decide) rfl (fun ls hl => ?_)
  refine lv_goto (tgt := 21) hx hb dX7_bears_63 (by decide) ?_
  have loop_k_5 : ∀ (n_k_5 : Nat) (kk_5 : Nat) (h1k_5 : 1 ≤ kk_5) (h2k_5 : kk_5 ≤ 999) (hn_k_5 : 999 - kk_5 < n_k_5) (H : Heap) (locs : List Loc) (ls : Array Slot), va_P (dC, dI) vwCl [(p0, .inr (7, oM p1 (upd i7 1 0) j7))] H → va_D A [(p0, .inr (7, oM p1 (upd i7 1 0) j7))] → va_S A s.heap H locs → lv_has ls 6 [(5, .int (nI (kk_5 + 1))), (4, .int (nI kk_5)), (3, .int 1), (2, .int (nI kk_5)), (0, .ref p0), (1, .int 0)] → W p l e ({ frames := 2, cells := 0, slots := 0, locals := 62 }) s m args below meth c H locs 0 0 (MQ below (va_Qi (fun (r9 : Int32) (u9 : Unit) => r9 = 999) (fun u => k_B (dC, dI) vwCl (tyy cI cJ cZ cM) A ((fun (u9 : Unit) => [(p0, .inr (7, oM p1 (upd i7 1 0) j7))]) u)) A) args s 0 0 A) (F0 m 21 ls []) := by
    intro n_k_5
    induction n_k_5 with
    | zero => intro kk_5 h1k_5 h2k_5 hn_k_5; exact absurd hn_k_5 (Nat.not_lt_zero _)
    | succ n_k_5 ih_k_5 =>
      intro kk_5 h1k_5 h2k_5 hn_k_5 H locs ls hP hD hS hl
      refine lv_iload hx hb dX7_bears_21 (lv_at hl 0 rfl) ?_
      refine lv_sipush (v := 999) hx hb dX7_bears_23 (by decide +kernel) ?_
      refine lv_icmp_gt (tgt := 66) hx hb dX7_bears_26 (by decide) (fun c_6 => ?_) (fun c_6 => ?_)
      · have c_6 : 999 < (((kk_5 + 1) : Nat) : Int) := k_ltT (by decide +kernel) (nI_toInt (by omega)) c_6
        obtain rfl : kk_5 = 999 := by omega
        have hl : lv_has ls 6 [(5, .int 1000), (4, .int 999), (3, .int 1), (2, .int 999), (0, .ref p0), (1, .int 0)] := hl
        have hP : va_P (dC, dI) vwCl [(p0, .inr (7, oM p1 (upd i7 1 0) j7))] H := hP
        have hD : va_D A [(p0, .inr (7, oM p1 (upd i7 1 0) j7))] := hD
        refine lv_iload_n hx hb dX7_bears_66 rfl (lv_at hl 5 rfl) ?_
        refine lv_if_ne (tgt := 74) hx hb dX7_bears_67 (by decide) (fun q9 => absurd q9 (by decide +kernel)) (fun _ => ?_)
        refine lv_iload_n hx hb dX7_bears_70 rfl (lv_at hl 3 rfl) ?_
        refine lv_goto (tgt := 85) hx hb dX7_bears_71 (by decide) ?_
        exact k_ri B hP hD hS dX7_bears_85 () [0] rfl rfl rfl (Nat.le_of_ble_eq_true rfl) (Nat.le_of_ble_eq_true rfl) rfl
      · have c_6 : (((kk_5 + 1) : Nat) : Int) ≤ 999 := k_ltF (by decide +kernel) (nI_toInt (by omega)) c_6
        refine lv_aload_n hx hb dX7_bears_29 rfl (lv_at hl 4 rfl) ?_
        refine lv_iload hx hb dX7_bears_30 (lv_at hl 0 rfl) ?_
        refine k_ci (wc := [(p0, .inr (7, oM p1 (upd i7 1 0) j7))]) (wr := []) (fun hPc hDc => va_runV (As := [.int (nI (kk_5 + 1))]) (rest := []) ⟨hx, hb, hml, hown, hts⟩ (c_X7_canBear_v3 l dC dI cI cJ cZ cM p0 kk_5 p1 H.size) (cwV 1 hts gX7_bears_X7_canBear rfl rfl rfl (by decide +kernel) ⟨(Nat.le_of_ble_eq_true rfl), (Nat.le_of_ble_eq_true rfl)⟩) (k_pV hPc hDc hK hN hP (q0 := 0) (ci := 7) rfl rfl) rfl rfl hl.1 rfl (lv_room (Nat.le_of_ble_eq_true rfl)) dX7_bears_32 ⟨(Nat.le_of_ble_eq_true rfl), (Nat.le_of_ble_eq_true rfl)⟩) hP hD hS hA [0] [] rfl rfl rfl rfl (by decide) (fun _ => rfl) 0 0 rfl rfl (fun r_7 u_8 H locs hw hP hD hS => ?_)
        obtain rfl : r_7 = 1 := hw
        have hP : va_P (dC, dI) vwCl [(p0, .inr (7, oM p1 (upd i7 1 0) j7))] H := hP
        have hD : va_D A [(p0, .inr (7, oM p1 (upd i7 1 0) j7))] := hD
        refine lv_if_ne (tgt := 41) hx hb dX7_bears_35 (by decide) (fun _ => ?_) (fun q9 => absurd q9 (by decide +kernel))
        refine lv_iinc (v := (nI (kk_5 + 1))) (lv' := [(2, .int (nI (kk_5 + 1))), (5, .int (nI (kk_5 + 1))), (4, .int (nI kk_5)), (3, .int 1), (0, .ref p0), (1, .int 0)]) hx hb dX7_bears_41 hl (k := 3) rfl (nI_1 _) (by decide) rfl (fun ls hl => ?_)
        refine lv_iload_n hx hb dX7_bears_44 rfl (lv_at hl 3 rfl) ?_
        refine lv_iconst (v := (-1)) hx hb dX7_bears_45 (by decide +kernel) ?_
        refine lv_icmp_ne (tgt := 54) hx hb dX7_bears_46 (by decide) (fun _ => ?_) (fun q9 => absurd q9 (by decide +kernel))
        refine lv_iload_n hx hb dX7_bears_54 rfl (lv_at hl 3 rfl) ?_
        refine lv_istore_n (lv' := [(3, .int 1), (2, .int (nI (kk_5 + 1))), (5, .int (nI (kk_5 + 1))), (4, .int (nI kk_5)), (0, .ref p0), (1, .int 0)]) hx hb dX7_bears_55 rfl hl (by decide) rfl (fun ls hl => ?_)
        refine lv_iload hx hb dX7_bears_56 (lv_at hl 2 rfl) ?_
        refine lv_istore (lv' := [(4, .int (nI (kk_5 + 1))), (3, .int 1), (2, .int (nI (kk_5 + 1))), (5, .int (nI (kk_5 + 1))), (0, .ref p0), (1, .int 0)]) hx hb dX7_bears_58 hl (by decide) rfl (fun ls hl => ?_)
        refine lv_iinc (v := (nI ((kk_5 + 1) + 1))) (lv' := [(5, .int (nI ((kk_5 + 1) + 1))), (4, .int (nI (kk_5 + 1))), (3, .int 1), (2, .int (nI (kk_5 + 1))), (0, .ref p0), (1, .int 0)]) hx hb dX7_bears_60 hl (k := 3) rfl (nI_1 _) (by decide) rfl (fun ls hl => ?_)
        refine lv_goto (tgt := 21) hx hb dX7_bears_63 (by decide) ?_
        exact ih_k_5 (kk_5 + 1) (by omega) (by omega) (by omega) H locs ls (hP.sub [0] rfl) (hD.sub [0] (by decide) rfl) hS (lv_sub hl [0, 1, 2, 3, 4, 5] rfl)
  exact loop_k_5 _ 1 (by omega) (by omega) (Nat.lt_succ_self _) H locs ls hP hD hS hl
set_option maxHeartbeats 4000000 in
set_option maxRecDepth 100000 in
theorem c_X7_worthOf_v1 (l : Launch) (dC : Nat → ClassId) (dI : Nat → Nat → Nat) (cI cJ cZ cM : ClassId) (p0 : Nat) (p1 : Nat → Nat)   : k_Mi l yX7_worthOf wsX7_worthOf ({ frames := 1, cells := 0, slots := 0, locals := 40 }) (dC, dI) vwCl (tyy cI cJ cZ cM) [(p0, .inr (7, oM p1 (upd i7 1 0) j7)), ((p1 14), .inl (cI, 2, .inl (fun _ => 0)))] [.ref p0, .int 0] 0 0 (fun (u9 : Unit) => [(p0, .inr (7, oM p1 (upd i7 1 0) j7)), ((p1 14), .inl (cI, 2, .inl (fun _ => 0)))]) (fun (r9 : Int32) (u9 : Unit) => r9 = 0) := by
  refine fun sz => k_enter (cc := cX7_worthOf) (maxL := 4) (ret := some (.int)) (Qc := fun A => va_Qi (fun (r9 : Int32) (u9 : Unit) => r9 = 0) (fun u => k_B (dC, dI) vwCl (tyy cI cJ cZ cM) A ((fun (u9 : Unit) => [(p0, .inr (7, oM p1 (upd i7 1 0) j7)), ((p1 14), .inl (cI, 2, .inl (fun _ => 0)))]) u)) A) sz (by decide +kernel) rfl (Nat.le_of_ble_eq_true rfl) (fun p e s m args below meth c A ls H B hP hD hS hl => ?_)
  obtain ⟨hx, hb, hml, hown, hts, hr, hlk, hnm, hK, hA, hN⟩ := id B
  have hown : s.vm.findClass RX7 = some m.cls := hown
  have hl : lv_has ls 4 [(0, .ref p0), (1, .int 0)] := hl
  have w_0 : (Cond.fieldLink RX7 54 "WishSeaModel" "things" "[I").before args s = true := hts _ (List.mem_of_getElem? (i := 1) rfl)
  have w_1 : (Cond.fieldLink RX7 51 "WishSeaModel" "bank" "I").before args s = true := hts _ (List.mem_of_getElem? (i := 2) rfl)
  have hinX7 : ∀ w ∈ u_ws RX7 TX7 92, w ∈ wsX7_worthOf := fun _ h => List.mem_cons_of_mem _ (List.mem_append_right _ h)
  refine lv_iconst (v := 0) hx hb dX7_worthOf_0 (by decide +kernel) ?_
  refine lv_istore_n (lv' := [(2, .int 0), (0, .ref p0), (1, .int 0)]) hx hb dX7_worthOf_1 rfl hl (by decide) rfl (fun ls hl => ?_)
  refine lv_iconst (v := 0) hx hb dX7_worthOf_2 (by decide +kernel) ?_
  refine lv_istore_n (lv' := [(3, .int 0), (2, .int 0), (0, .ref p0), (1, .int 0)]) hx hb dX7_worthOf_3 rfl hl (by decide) rfl (fun ls hl => ?_)
  refine lv_iload_n hx hb dX7_worthOf_4 rfl (lv_at hl 0 rfl) ?_
  refine lv_aload_n hx hb dX7_worthOf_5 rfl (lv_at hl 2 rfl) ?_
  refine k_get (D := (dC, dI)) (ci := 7) (v := .ref (p1 14)) (C := RX7) (T := TX7) (N := 92) hx hb hts hinX7 hown hK hP 0 rfl rfl 14 (by decide) w_0 rfl rfl dX7_worthOf_6 ?_
  refine lv_aload_n hx hb dX7_worthOf_9 rfl (lv_at hl 2 rfl) ?_
  refine k_get (D := (dC, dI)) (ci := 7) (v := .int 0) (C := RX7) (T := TX7) (N := 92) hx hb hts hinX7 hown hK hP 0 rfl rfl 13 (by decide) w_1 rfl rfl dX7_worthOf_10 ?_
  refine k_iald (v := 0) hx hb hK hP 1 0 0 rfl rfl rfl (Nat.le_of_ble_eq_true rfl) (Nat.le_of_ble_eq_true rfl) rfl dX7_worthOf_13 ?_
  refine lv_icmp_ge (tgt := 52) hx hb dX7_worthOf_14 (by decide) (fun _ => ?_) (fun q9 => absurd q9 (by decide +kernel))
  refine lv_iload_n hx hb dX7_worthOf_52 rfl (lv_at hl 1 rfl) ?_
  exact k_ri B hP hD hS dX7_worthOf_53 () [0, 1] rfl rfl rfl (Nat.le_of_ble_eq_true rfl) (Nat.le_of_ble_eq_true rfl) rfl
set_option maxHeartbeats 4000000 in
set_option maxRecDepth 100000 in
theorem c_X7_goesRow_v0 (l : Launch) (dC : Nat → ClassId) (dI : Nat → Nat → Nat) (cI cJ cZ cM : ClassId) (p0 : Nat) (p1 : Nat → Nat)   : k_Mi l yX7_goesRow wsX7_goesRow ({ frames := 2, cells := 0, slots := 0, locals := 63 }) (dC, dI) vwCl (tyy cI cJ cZ cM) [(p0, .inr (7, oM p1 (upd i7 1 0) j7)), ((p1 49), .inl (cI, 22, .inl (fun _ => 0))), ((p1 50), .inl (cI, 22, .inl (fun _ => 0))), ((p1 82), .inl (cI, 13, .inl (fun _ => 0))), ((p1 14), .inl (cI, 2, .inl (fun _ => 0))), ((p1 83), .inl (cI, 13, .inl (fun _ => 0)))] [.ref p0, .int 0] 0 0 (fun (u9 : Unit) => [(p0, .inr (7, oM p1 (upd i7 1 0) j7)), ((p1 49), .inl (cI, 22, .inl (fun _ => 0))), ((p1 50), .inl (cI, 22, .inl (fun _ => 0))), ((p1 82), .inl (cI, 13, .inl (upd (fun _ => 0) 0 0))), ((p1 14), .inl (cI, 2, .inl (fun _ => 0))), ((p1 83), .inl (cI, 13, .inl (upd (fun _ => 0) 0 0)))]) (fun (r9 : Int32) (u9 : Unit) => r9 = 1) := by
  refine fun sz => k_enter (cc := cX7_goesRow) (maxL := 5) (ret := some (.boolean)) (Qc := fun A => va_Qi (fun (r9 : Int32) (u9 : Unit) => r9 = 1) (fun u => k_B (dC, dI) vwCl (tyy cI cJ cZ cM) A ((fun (u9 : Unit) => [(p0, .inr (7, oM p1 (upd i7 1 0) j7)), ((p1 49), .inl (cI, 22, .inl (fun _ => 0))), ((p1 50), .inl (cI, 22, .inl (fun _ => 0))), ((p1 82), .inl (cI, 13, .inl (upd (fun _ => 0) 0 0))), ((p1 14), .inl (cI, 2, .inl (fun _ => 0))), ((p1 83), .inl (cI, 13, .inl (upd (fun _ => 0) 0 0)))]) u)) A) sz (by decide +kernel) rfl (Nat.le_of_ble_eq_true rfl) (fun p e s m args below meth c A ls H B hP hD hS hl => ?_)
  obtain ⟨hx, hb, hml, hown, hts, hr, hlk, hnm, hK, hA, hN⟩ := id B
  have hown : s.vm.findClass RX7 = some m.cls := hown
  have hl : lv_has ls 5 [(0, .ref p0), (1, .int 0)] := hl
  have w_0 : (Cond.fieldLink RX7 162 "WishSeaModel" "hadOf" "[I").before args s = true := hts _ (List.mem_of_getElem? (i := 1) rfl)
  have w_1 : (Cond.fieldLink RX7 165 "WishSeaModel" "seaOf" "[I").before args s = true := hts _ (List.mem_of_getElem? (i := 2) rfl)
  have w_2 : (Cond.fieldLink RX7 261 "WishSeaModel" "triedSea" "[I").before args s = true := hts _ (List.mem_of_getElem? (i := 3) rfl)
  have w_3 : (Cond.fieldLink RX7 264 "WishSeaModel" "triedWorth" "[I").before args s = true := hts _ (List.mem_of_getElem? (i := 4) rfl)
  have hinX7 : ∀ w ∈ u_ws RX7 TX7 92, w ∈ wsX7_goesRow := fun _ h => List.mem_cons_of_mem _ (List.mem_append_right _ h)
  refine lv_aload_n hx hb dX7_goesRow_0 rfl (lv_at hl 0 rfl) ?_
  refine k_get (D := (dC, dI)) (ci := 7) (v := .ref (p1 49)) (C := RX7) (T := TX7) (N := 92) hx hb hts hinX7 hown hK hP 0 rfl rfl 49 (by decide) w_0 rfl rfl dX7_goesRow_1 ?_
  refine lv_iconst (v := 0) hx hb dX7_goesRow_4 (by decide +kernel) ?_
  refine k_iald (v := 0) hx hb hK hP 1 0 0 rfl rfl rfl (Nat.le_of_ble_eq_true rfl) (Nat.le_of_ble_eq_true rfl) rfl dX7_goesRow_5 ?_
  refine lv_istore_n (lv' := [(2, .int 0), (0, .ref p0), (1, .int 0)]) hx hb dX7_goesRow_6 rfl hl (by decide) rfl (fun ls hl => ?_)
  refine lv_aload_n hx hb dX7_goesRow_7 rfl (lv_at hl 1 rfl) ?_
  refine k_get (D := (dC, dI)) (ci := 7) (v := .ref (p1 50)) (C := RX7) (T := TX7) (N := 92) hx hb hts hinX7 hown hK hP 0 rfl rfl 50 (by decide) w_1 rfl rfl dX7_goesRow_8 ?_
  refine lv_iconst (v := 0) hx hb dX7_goesRow_11 (by decide +kernel) ?_
  refine k_iald (v := 0) hx hb hK hP 2 0 0 rfl rfl rfl (Nat.le_of_ble_eq_true rfl) (Nat.le_of_ble_eq_true rfl) rfl dX7_goesRow_12 ?_
  refine lv_istore_n (lv' := [(3, .int 0), (2, .int 0), (0, .ref p0), (1, .int 0)]) hx hb dX7_goesRow_13 rfl hl (by decide) rfl (fun ls hl => ?_)
  refine lv_aload_n hx hb dX7_goesRow_14 rfl (lv_at hl 2 rfl) ?_
  refine k_get (D := (dC, dI)) (ci := 7) (v := .ref (p1 82)) (C := RX7) (T := TX7) (N := 92) hx hb hts hinX7 hown hK hP 0 rfl rfl 82 (by decide) w_2 rfl rfl dX7_goesRow_15 ?_
  refine lv_iconst (v := 0) hx hb dX7_goesRow_18 (by decide +kernel) ?_
  refine lv_iconst (v := 0) hx hb dX7_goesRow_19 (by decide +kernel) ?_
  refine k_iast (g := (upd (fun _ => 0) 0 0)) (ws' := [(p0, .inr (7, oM p1 (upd i7 1 0) j7)), ((p1 49), .inl (cI, 22, .inl (fun _ => 0))), ((p1 50), .inl (cI, 22, .inl (fun _ => 0))), ((p1 82), .inl (cI, 13, .inl (upd (fun _ => 0) 0 0))), ((p1 14), .inl (cI, 2, .inl (fun _ => 0))), ((p1 83), .inl (cI, 13, .inl (fun _ => 0)))]) hx hb hK hP hD hS 3 0 0 rfl rfl rfl (Nat.le_of_ble_eq_true rfl) (Nat.le_of_ble_eq_true rfl) rfl rfl dX7_goesRow_20 (fun H locs hP hD hS => ?_)
  refine lv_aload_n hx hb dX7_goesRow_21 rfl (lv_at hl 2 rfl) ?_
  refine k_get (D := (dC, dI)) (ci := 7) (v := .ref (p1 83)) (C := RX7) (T := TX7) (N := 92) hx hb hts hinX7 hown hK hP 0 rfl rfl 83 (by decide) w_3 rfl rfl dX7_goesRow_22 ?_
  refine lv_iconst (v := 0) hx hb dX7_goesRow_25 (by decide +kernel) ?_
  refine lv_aload_n hx hb dX7_goesRow_26 rfl (lv_at hl 2 rfl) ?_
  refine lv_iload_n hx hb dX7_goesRow_27 rfl (lv_at hl 1 rfl) ?_
  refine k_ci (wc := [(p0, .inr (7, oM p1 (upd i7 1 0) j7)), ((p1 14), .inl (cI, 2, .inl (fun _ => 0)))]) (wr := [((p1 49), .inl (cI, 22, .inl (fun _ => 0))), ((p1 50), .inl (cI, 22, .inl (fun _ => 0))), ((p1 82), .inl (cI, 13, .inl (upd (fun _ => 0) 0 0))), ((p1 83), .inl (cI, 13, .inl (fun _ => 0)))]) (fun hPc hDc => va_runV (As := [.int 0]) (rest := [.int 0, .ref (p1 83)]) ⟨hx, hb, hml, hown, hts⟩ (c_X7_worthOf_v1 l dC dI cI cJ cZ cM p0 p1 H.size) (cwV 1 hts gX7_goesRow_X7_worthOf rfl rfl rfl (by decide +kernel) ⟨(Nat.le_of_ble_eq_true rfl), (Nat.le_of_ble_eq_true rfl)⟩) (k_pV hPc hDc hK hN hP (q0 := 0) (ci := 7) rfl rfl) rfl rfl hl.1 rfl (lv_room (Nat.le_of_ble_eq_true rfl)) dX7_goesRow_28 ⟨(Nat.le_of_ble_eq_true rfl), (Nat.le_of_ble_eq_true rfl)⟩) hP hD hS hA [0, 4] [1, 2, 3, 5] rfl rfl rfl rfl (by decide) (fun _ => rfl) 0 0 rfl rfl (fun r_1 u_2 H locs hw hP hD hS => ?_)
  obtain rfl : r_1 = 0 := hw
  have hP : va_P (dC, dI) vwCl [((p1 49), .inl (cI, 22, .inl (fun _ => 0))), ((p1 50), .inl (cI, 22, .inl (fun _ => 0))), ((p1 82), .inl (cI, 13, .inl (upd (fun _ => 0) 0 0))), ((p1 83), .inl (cI, 13, .inl (fun _ => 0))), (p0, .inr (7, oM p1 (upd i7 1 0) j7)), ((p1 14), .inl (cI, 2, .inl (fun _ => 0)))] H := hP
  have hD : va_D A [((p1 49), .inl (cI, 22, .inl (fun _ => 0))), ((p1 50), .inl (cI, 22, .inl (fun _ => 0))), ((p1 82), .inl (cI, 13, .inl (upd (fun _ => 0) 0 0))), ((p1 83), .inl (cI, 13, .inl (fun _ => 0))), (p0, .inr (7, oM p1 (upd i7 1 0) j7)), ((p1 14), .inl (cI, 2, .inl (fun _ => 0)))] := hD
  refine k_iast (g := (upd (fun _ => 0) 0 0)) (ws' := [((p1 49), .inl (cI, 22, .inl (fun _ => 0))), ((p1 50), .inl (cI, 22, .inl (fun _ => 0))), ((p1 82), .inl (cI, 13, .inl (upd (fun _ => 0) 0 0))), ((p1 83), .inl (cI, 13, .inl (upd (fun _ => 0) 0 0))), (p0, .inr (7, oM p1 (upd i7 1 0) j7)), ((p1 14), .inl (cI, 2, .inl (fun _ => 0)))]) hx hb hK hP hD hS 3 0 0 rfl rfl rfl (Nat.le_of_ble_eq_true rfl) (Nat.le_of_ble_eq_true rfl) rfl rfl dX7_goesRow_31 (fun H locs hP hD hS => ?_)
  refine lv_iconst (v := 0) hx hb dX7_goesRow_32 (by decide +kernel) ?_
  refine lv_istore (lv' := [(4, .int 0), (3, .int 0), (2, .int 0), (0, .ref p0), (1, .int 0)]) hx hb dX7_goesRow_33 hl (by decide) rfl (fun ls hl => ?_)
  refine lv_iload hx hb dX7_goesRow_35 (lv_at hl 0 rfl) ?_
  refine lv_iload_n hx hb dX7_goesRow_37 rfl (lv_at hl 4 rfl) ?_
  refine lv_icmp_ge (tgt := 156) hx hb dX7_goesRow_38 (by decide) (fun _ => ?_) (fun q9 => absurd q9 (by decide +kernel))
  refine lv_iconst (v := 1) hx hb dX7_goesRow_156 (by decide +kernel) ?_
  exact k_ri B hP hD hS dX7_goesRow_157 () [4, 0, 1, 2, 5, 3] rfl rfl rfl (Nat.le_of_ble_eq_true rfl) (Nat.le_of_ble_eq_true rfl) rfl
set_option maxHeartbeats 4000000 in
set_option maxRecDepth 100000 in
theorem c_X7_worthOf_v2 (l : Launch) (dC : Nat → ClassId) (dI : Nat → Nat → Nat) (cI cJ cZ cM : ClassId) (p0 : Nat) (p1 : Nat → Nat)   : k_Mi l yX7_worthOf wsX7_worthOf ({ frames := 1, cells := 0, slots := 0, locals := 40 }) (dC, dI) vwCl (tyy cI cJ cZ cM) [(p0, .inr (7, oM p1 (upd (upd i7 1 0) 80 0) j7)), ((p1 14), .inl (cI, 2, .inl (fun _ => 0)))] [.ref p0, .int 0] 0 0 (fun (u9 : Unit) => [(p0, .inr (7, oM p1 (upd (upd i7 1 0) 80 0) j7)), ((p1 14), .inl (cI, 2, .inl (fun _ => 0)))]) (fun (r9 : Int32) (u9 : Unit) => r9 = 0) := by
  refine fun sz => k_enter (cc := cX7_worthOf) (maxL := 4) (ret := some (.int)) (Qc := fun A => va_Qi (fun (r9 : Int32) (u9 : Unit) => r9 = 0) (fun u => k_B (dC, dI) vwCl (tyy cI cJ cZ cM) A ((fun (u9 : Unit) => [(p0, .inr (7, oM p1 (upd (upd i7 1 0) 80 0) j7)), ((p1 14), .inl (cI, 2, .inl (fun _ => 0)))]) u)) A) sz (by decide +kernel) rfl (Nat.le_of_ble_eq_true rfl) (fun p e s m args below meth c A ls H B hP hD hS hl => ?_)
  obtain ⟨hx, hb, hml, hown, hts, hr, hlk, hnm, hK, hA, hN⟩ := id B
  have hown : s.vm.findClass RX7 = some m.cls := hown
  have hl : lv_has ls 4 [(0, .ref p0), (1, .int 0)] := hl
  have w_0 : (Cond.fieldLink RX7 54 "WishSeaModel" "things" "[I").before args s = true := hts _ (List.mem_of_getElem? (i := 1) rfl)
  have w_1 : (Cond.fieldLink RX7 51 "WishSeaModel" "bank" "I").before args s = true := hts _ (List.mem_of_getElem? (i := 2) rfl)
  have hinX7 : ∀ w ∈ u_ws RX7 TX7 92, w ∈ wsX7_worthOf := fun _ h => List.mem_cons_of_mem _ (List.mem_append_right _ h)
  refine lv_iconst (v := 0) hx hb dX7_worthOf_0 (by decide +kernel) ?_
  refine lv_istore_n (lv' := [(2, .int 0), (0, .ref p0), (1, .int 0)]) hx hb dX7_worthOf_1 rfl hl (by decide) rfl (fun ls hl => ?_)
  refine lv_iconst (v := 0) hx hb dX7_worthOf_2 (by decide +kernel) ?_
  refine lv_istore_n (lv' := [(3, .int 0), (2, .int 0), (0, .ref p0), (1, .int 0)]) hx hb dX7_worthOf_3 rfl hl (by decide) rfl (fun ls hl => ?_)
  refine lv_iload_n hx hb dX7_worthOf_4 rfl (lv_at hl 0 rfl) ?_
  refine lv_aload_n hx hb dX7_worthOf_5 rfl (lv_at hl 2 rfl) ?_
  refine k_get (D := (dC, dI)) (ci := 7) (v := .ref (p1 14)) (C := RX7) (T := TX7) (N := 92) hx hb hts hinX7 hown hK hP 0 rfl rfl 14 (by decide) w_0 rfl rfl dX7_worthOf_6 ?_
  refine lv_aload_n hx hb dX7_worthOf_9 rfl (lv_at hl 2 rfl) ?_
  refine k_get (D := (dC, dI)) (ci := 7) (v := .int 0) (C := RX7) (T := TX7) (N := 92) hx hb hts hinX7 hown hK hP 0 rfl rfl 13 (by decide) w_1 rfl rfl dX7_worthOf_10 ?_
  refine k_iald (v := 0) hx hb hK hP 1 0 0 rfl rfl rfl (Nat.le_of_ble_eq_true rfl) (Nat.le_of_ble_eq_true rfl) rfl dX7_worthOf_13 ?_
  refine lv_icmp_ge (tgt := 52) hx hb dX7_worthOf_14 (by decide) (fun _ => ?_) (fun q9 => absurd q9 (by decide +kernel))
  refine lv_iload_n hx hb dX7_worthOf_52 rfl (lv_at hl 1 rfl) ?_
  exact k_ri B hP hD hS dX7_worthOf_53 () [0, 1] rfl rfl rfl (Nat.le_of_ble_eq_true rfl) (Nat.le_of_ble_eq_true rfl) rfl
set_option maxHeartbeats 4000000 in
set_option maxRecDepth 100000 in
theorem c_X7_canBear_v4 (l : Launch) (dC : Nat → ClassId) (dI : Nat → Nat → Nat) (cI cJ cZ cM : ClassId) (p0 : Nat) (p1 : Nat → Nat)   : k_Mi l yX7_canBear wsX7_canBear ({ frames := 1, cells := 0, slots := 0, locals := 40 }) (dC, dI) vwCl (tyy cI cJ cZ cM) [(p0, .inr (7, oM p1 (upd (upd i7 1 0) 80 0) j7))] [.ref p0, .int 1] 0 0 (fun (u9 : Unit) => [(p0, .inr (7, oM p1 (upd (upd i7 1 0) 80 0) j7))]) (fun (r9 : Int32) (u9 : Unit) => r9 = 1) := by
  refine fun sz => k_enter (cc := cX7_canBear) (maxL := 3) (ret := some (.boolean)) (Qc := fun A => va_Qi (fun (r9 : Int32) (u9 : Unit) => r9 = 1) (fun u => k_B (dC, dI) vwCl (tyy cI cJ cZ cM) A ((fun (u9 : Unit) => [(p0, .inr (7, oM p1 (upd (upd i7 1 0) 80 0) j7))]) u)) A) sz (by decide +kernel) rfl (Nat.le_of_ble_eq_true rfl) (fun p e s m args below meth c A ls H B hP hD hS hl => ?_)
  obtain ⟨hx, hb, hml, hown, hts, hr, hlk, hnm, hK, hA, hN⟩ := id B
  have hown : s.vm.findClass RX7 = some m.cls := hown
  have hl : lv_has ls 3 [(0, .ref p0), (1, .int 1)] := hl
  have w_0 : (Cond.fieldLink RX7 246 "WishSeaModel" "fallMany" "I").before args s = true := hts _ (List.mem_of_getElem? (i := 1) rfl)
  have hinX7 : ∀ w ∈ u_ws RX7 TX7 92, w ∈ wsX7_canBear := fun _ h => List.mem_cons_of_mem _ (List.mem_append_right _ h)
  refine lv_iconst (v := 0) hx hb dX7_canBear_0 (by decide +kernel) ?_
  refine lv_istore_n (lv' := [(2, .int 0), (0, .ref p0), (1, .int 1)]) hx hb dX7_canBear_1 rfl hl (by decide) rfl (fun ls hl => ?_)
  refine lv_iload_n hx hb dX7_canBear_2 rfl (lv_at hl 0 rfl) ?_
  refine lv_aload_n hx hb dX7_canBear_3 rfl (lv_at hl 1 rfl) ?_
  refine k_get (D := (dC, dI)) (ci := 7) (v := .int 0) (C := RX7) (T := TX7) (N := 92) hx hb hts hinX7 hown hK hP 0 rfl rfl 77 (by decide) w_0 rfl rfl dX7_canBear_4 ?_
  refine lv_icmp_ge (tgt := 42) hx hb dX7_canBear_7 (by decide) (fun _ => ?_) (fun q9 => absurd q9 (by decide +kernel))
  refine lv_iconst (v := 1) hx hb dX7_canBear_42 (by decide +kernel) ?_
  exact k_ri B hP hD hS dX7_canBear_43 () [0] rfl rfl rfl (Nat.le_of_ble_eq_true rfl) (Nat.le_of_ble_eq_true rfl) rfl
set_option maxHeartbeats 4000000 in
set_option maxRecDepth 100000 in
theorem c_X7_canBear_v5 (l : Launch) (dC : Nat → ClassId) (dI : Nat → Nat → Nat) (cI cJ cZ cM : ClassId) (p0 : Nat) (p1 : Nat) (p2 : Nat → Nat)   : k_Mi l yX7_canBear wsX7_canBear ({ frames := 1, cells := 0, slots := 0, locals := 40 }) (dC, dI) vwCl (tyy cI cJ cZ cM) [(p0, .inr (7, oM p2 (upd (upd i7 1 0) 80 0) j7))] [.ref p0, .int (nI (p1 + 1))] 0 0 (fun (u9 : Unit) => [(p0, .inr (7, oM p2 (upd (upd i7 1 0) 80 0) j7))]) (fun (r9 : Int32) (u9 : Unit) => r9 = 1) := by
  refine fun sz => k_enter (cc := cX7_canBear) (maxL := 3) (ret := some (.boolean)) (Qc := fun A => va_Qi (fun (r9 : Int32) (u9 : Unit) => r9 = 1) (fun u => k_B (dC, dI) vwCl (tyy cI cJ cZ cM) A ((fun (u9 : Unit) => [(p0, .inr (7, oM p2 (upd (upd i7 1 0) 80 0) j7))]) u)) A) sz (by decide +kernel) rfl (Nat.le_of_ble_eq_true rfl) (fun p e s m args below meth c A ls H B hP hD hS hl => ?_)
  obtain ⟨hx, hb, hml, hown, hts, hr, hlk, hnm, hK, hA, hN⟩ := id B
  have hown : s.vm.findClass RX7 = some m.cls := hown
  have hl : lv_has ls 3 [(0, .ref p0), (1, .int (nI (p1 + 1)))] := hl
  have w_0 : (Cond.fieldLink RX7 246 "WishSeaModel" "fallMany" "I").before args s = true := hts _ (List.mem_of_getElem? (i := 1) rfl)
  have hinX7 : ∀ w ∈ u_ws RX7 TX7 92, w ∈ wsX7_canBear := fun _ h => List.mem_cons_of_mem _ (List.mem_append_right _ h)
  refine lv_iconst (v := 0) hx hb dX7_canBear_0 (by decide +kernel) ?_
  refine lv_istore_n (lv' := [(2, .int 0), (0, .ref p0), (1, .int (nI (p1 + 1)))]) hx hb dX7_canBear_1 rfl hl (by decide) rfl (fun ls hl => ?_)
  refine lv_iload_n hx hb dX7_canBear_2 rfl (lv_at hl 0 rfl) ?_
  refine lv_aload_n hx hb dX7_canBear_3 rfl (lv_at hl 1 rfl) ?_
  refine k_get (D := (dC, dI)) (ci := 7) (v := .int 0) (C := RX7) (T := TX7) (N := 92) hx hb hts hinX7 hown hK hP 0 rfl rfl 77 (by decide) w_0 rfl rfl dX7_canBear_4 ?_
  refine lv_icmp_ge (tgt := 42) hx hb dX7_canBear_7 (by decide) (fun _ => ?_) (fun q9 => absurd q9 (by decide +kernel))
  refine lv_iconst (v := 1) hx hb dX7_canBear_42 (by decide +kernel) ?_
  exact k_ri B hP hD hS dX7_canBear_43 () [0] rfl rfl rfl (Nat.le_of_ble_eq_true rfl) (Nat.le_of_ble_eq_true rfl) rfl
set_option maxHeartbeats 4000000 in
set_option maxRecDepth 100000 in
theorem c_X7_stop_v0 (l : Launch) (dC : Nat → ClassId) (dI : Nat → Nat → Nat) (cI cJ cZ cM : ClassId) (p0 : Nat) (p1 : Nat → Nat)   : k_Mi l yX7_stop wsX7_stop ({ frames := 3, cells := 0, slots := 0, locals := 87 }) (dC, dI) vwCl (tyy cI cJ cZ cM) [(p0, .inr (7, oM p1 i7 j7)), ((p1 49), .inl (cI, 22, .inl (fun _ => 0))), ((p1 50), .inl (cI, 22, .inl (fun _ => 0))), ((p1 82), .inl (cI, 13, .inl (fun _ => 0))), ((p1 14), .inl (cI, 2, .inl (fun _ => 0))), ((p1 83), .inl (cI, 13, .inl (fun _ => 0))), ((p1 23), .inl (cI, 2, .inl (fun _ => 0))), ((p1 81), .inl (cJ, 13, .inr (.inl (fun _ => 0))))] [.ref p0] 0 0 (fun (u9 : Unit) => [(p0, .inr (7, oM p1 (upd (upd i7 1 0) 80 0) j7)), ((p1 49), .inl (cI, 22, .inl (fun _ => 0))), ((p1 50), .inl (cI, 22, .inl (fun _ => 0))), ((p1 82), .inl (cI, 13, .inl (upd (fun _ => 0) 0 0))), ((p1 14), .inl (cI, 2, .inl (fun _ => 0))), ((p1 83), .inl (cI, 13, .inl (upd (fun _ => 0) 0 0))), ((p1 23), .inl (cI, 2, .inl (fun _ => 0)))]) (fun (r9 : Int32) (u9 : Unit) => r9 = 0) := by
  refine fun sz => k_enter (cc := cX7_stop) (maxL := 6) (ret := some (.int)) (Qc := fun A => va_Qi (fun (r9 : Int32) (u9 : Unit) => r9 = 0) (fun u => k_B (dC, dI) vwCl (tyy cI cJ cZ cM) A ((fun (u9 : Unit) => [(p0, .inr (7, oM p1 (upd (upd i7 1 0) 80 0) j7)), ((p1 49), .inl (cI, 22, .inl (fun _ => 0))), ((p1 50), .inl (cI, 22, .inl (fun _ => 0))), ((p1 82), .inl (cI, 13, .inl (upd (fun _ => 0) 0 0))), ((p1 14), .inl (cI, 2, .inl (fun _ => 0))), ((p1 83), .inl (cI, 13, .inl (upd (fun _ => 0) 0 0))), ((p1 23), .inl (cI, 2, .inl (fun _ => 0)))]) u)) A) sz (by decide +kernel) rfl (Nat.le_of_ble_eq_true rfl) (fun p e s m args below meth c A ls H B hP hD hS hl => ?_)
  obtain ⟨hx, hb, hml, hown, hts, hr, hlk, hnm, hK, hA, hN⟩ := id B
  have hown : s.vm.findClass RX7 = some m.cls := hown
  have hl : lv_has ls 6 [(0, .ref p0)] := hl
  have w_0 : (Cond.fieldLink RX7 13 "WishSeaModel" "taped" "I").before args s = true := hts _ (List.mem_of_getElem? (i := 1) rfl)
  have w_1 : (Cond.fieldLink RX7 255 "WishSeaModel" "stopMany" "I").before args s = true := hts _ (List.mem_of_getElem? (i := 2) rfl)
  have w_2 : (Cond.fieldLink RX7 81 "WishSeaModel" "firstOnes" "[I").before args s = true := hts _ (List.mem_of_getElem? (i := 3) rfl)
  have w_3 : (Cond.fieldLink RX7 51 "WishSeaModel" "bank" "I").before args s = true := hts _ (List.mem_of_getElem? (i := 4) rfl)
  have w_4 : (Cond.fieldLink RX7 258 "WishSeaModel" "values" "[J").before args s = true := hts _ (List.mem_of_getElem? (i := 5) rfl)
  have w_5 : (Cond.fieldLink RX7 261 "WishSeaModel" "triedSea" "[I").before args s = true := hts _ (List.mem_of_getElem? (i := 6) rfl)
  have w_6 : (Cond.fieldLink RX7 264 "WishSeaModel" "triedWorth" "[I").before args s = true := hts _ (List.mem_of_getElem? (i := 7) rfl)
  have hinX7 : ∀ w ∈ u_ws RX7 TX7 92, w ∈ wsX7_stop := fun _ h => List.mem_cons_of_mem _ (List.mem_append_right _ h)
  refine lv_aload_n hx hb dX7_stop_0 rfl (lv_at hl 0 rfl) ?_
  refine k_get (D := (dC, dI)) (ci := 7) (v := .int 0) (C := RX7) (T := TX7) (N := 92) hx hb hts hinX7 hown hK hP 0 rfl rfl 1 (by decide) w_0 rfl rfl dX7_stop_1 ?_
  refine lv_istore_n (lv' := [(1, .int 0), (0, .ref p0)]) hx hb dX7_stop_4 rfl hl (by decide) rfl (fun ls hl => ?_)
  refine lv_aload_n hx hb dX7_stop_5 rfl (lv_at hl 1 rfl) ?_
  refine lv_iconst (v := 0) hx hb dX7_stop_6 (by decide +kernel) ?_
  refine k_put (D := (dC, dI)) (ci := 7) (v := .int 0) (C := RX7) (T := TX7) (N := 92) (ws' := [(p0, .inr (7, oM p1 (upd i7 1 0) j7)), ((p1 49), .inl (cI, 22, .inl (fun _ => 0))), ((p1 50), .inl (cI, 22, .inl (fun _ => 0))), ((p1 82), .inl (cI, 13, .inl (fun _ => 0))), ((p1 14), .inl (cI, 2, .inl (fun _ => 0))), ((p1 83), .inl (cI, 13, .inl (fun _ => 0))), ((p1 23), .inl (cI, 2, .inl (fun _ => 0))), ((p1 81), .inl (cJ, 13, .inr (.inl (fun _ => 0))))]) hx hb hts hinX7 tyX7 tyX7_ok nmX7 hown hK hP hD hS 0 rfl rfl 1 (by decide) w_0 rfl rfl rfl rfl (Nat.le_of_ble_eq_true rfl) rfl dX7_stop_7 (fun H locs hP hD hS => ?_)
  refine lv_iload_n hx hb dX7_stop_10 rfl (lv_at hl 0 rfl) ?_
  refine lv_bipush (v := 12) hx hb dX7_stop_11 (by decide +kernel) ?_
  refine lv_icmp_gt (tgt := 41) hx hb dX7_stop_13 (by decide) (fun q9 => absurd q9 (by decide +kernel)) (fun _ => ?_)
  refine lv_aload_n hx hb dX7_stop_16 rfl (lv_at hl 1 rfl) ?_
  refine lv_iload_n hx hb dX7_stop_17 rfl (lv_at hl 0 rfl) ?_
  refine lv_iconst (v := 0) hx hb dX7_stop_18 (by decide +kernel) ?_
  refine k_ci (wc := []) (wr := [(p0, .inr (7, oM p1 (upd i7 1 0) j7)), ((p1 49), .inl (cI, 22, .inl (fun _ => 0))), ((p1 50), .inl (cI, 22, .inl (fun _ => 0))), ((p1 82), .inl (cI, 13, .inl (fun _ => 0))), ((p1 14), .inl (cI, 2, .inl (fun _ => 0))), ((p1 83), .inl (cI, 13, .inl (fun _ => 0))), ((p1 23), .inl (cI, 2, .inl (fun _ => 0))), ((p1 81), .inl (cJ, 13, .inr (.inl (fun _ => 0))))]) (fun hPc hDc => va_runV (As := [.int 0, .int 0]) (rest := []) ⟨hx, hb, hml, hown, hts⟩ (c_X7_areWishes_v1 l dC dI cI cJ cZ cM p0 H.size) (cwV 2 hts gX7_stop_X7_areWishes rfl rfl rfl (by decide +kernel) ⟨(Nat.le_of_ble_eq_true rfl), (Nat.le_of_ble_eq_true rfl)⟩) (k_pV hPc hDc hK hN hP (q0 := 0) (ci := 7) rfl rfl) rfl rfl hl.1 rfl (lv_room (Nat.le_of_ble_eq_true rfl)) dX7_stop_19 ⟨(Nat.le_of_ble_eq_true rfl), (Nat.le_of_ble_eq_true rfl)⟩) hP hD hS hA [] [0, 1, 2, 3, 4, 5, 6, 7] rfl rfl rfl rfl (by decide) (fun _ => rfl) 0 0 rfl rfl (fun r_1 u_2 H locs hw hP hD hS => ?_)
  obtain rfl : r_1 = 1 := hw
  have hP : va_P (dC, dI) vwCl [(p0, .inr (7, oM p1 (upd i7 1 0) j7)), ((p1 49), .inl (cI, 22, .inl (fun _ => 0))), ((p1 50), .inl (cI, 22, .inl (fun _ => 0))), ((p1 82), .inl (cI, 13, .inl (fun _ => 0))), ((p1 14), .inl (cI, 2, .inl (fun _ => 0))), ((p1 83), .inl (cI, 13, .inl (fun _ => 0))), ((p1 23), .inl (cI, 2, .inl (fun _ => 0))), ((p1 81), .inl (cJ, 13, .inr (.inl (fun _ => 0))))] H := hP
  have hD : va_D A [(p0, .inr (7, oM p1 (upd i7 1 0) j7)), ((p1 49), .inl (cI, 22, .inl (fun _ => 0))), ((p1 50), .inl (cI, 22, .inl (fun _ => 0))), ((p1 82), .inl (cI, 13, .inl (fun _ => 0))), ((p1 14), .inl (cI, 2, .inl (fun _ => 0))), ((p1 83), .inl (cI, 13, .inl (fun _ => 0))), ((p1 23), .inl (cI, 2, .inl (fun _ => 0))), ((p1 81), .inl (cJ, 13, .inr (.inl (fun _ => 0))))] := hD
  refine lv_if_eq (tgt := 41) hx hb dX7_stop_22 (by decide) (fun q9 => absurd q9 (by decide +kernel)) (fun _ => ?_)
  refine lv_aload_n hx hb dX7_stop_25 rfl (lv_at hl 1 rfl) ?_
  refine lv_iconst (v := 0) hx hb dX7_stop_26 (by decide +kernel) ?_
  refine k_ci (wc := [(p0, .inr (7, oM p1 (upd i7 1 0) j7))]) (wr := [((p1 49), .inl (cI, 22, .inl (fun _ => 0))), ((p1 50), .inl (cI, 22, .inl (fun _ => 0))), ((p1 82), .inl (cI, 13, .inl (fun _ => 0))), ((p1 14), .inl (cI, 2, .inl (fun _ => 0))), ((p1 83), .inl (cI, 13, .inl (fun _ => 0))), ((p1 23), .inl (cI, 2, .inl (fun _ => 0))), ((p1 81), .inl (cJ, 13, .inr (.inl (fun _ => 0))))]) (fun hPc hDc => va_runV (As := [.int 0]) (rest := []) ⟨hx, hb, hml, hown, hts⟩ (c_X7_bears_v1 l dC dI cI cJ cZ cM p0 p1 H.size) (cwV 1 hts gX7_stop_X7_bears rfl rfl rfl (by decide +kernel) ⟨(Nat.le_of_ble_eq_true rfl), (Nat.le_of_ble_eq_true rfl)⟩) (k_pV hPc hDc hK hN hP (q0 := 0) (ci := 7) rfl rfl) rfl rfl hl.1 rfl (lv_room (Nat.le_of_ble_eq_true rfl)) dX7_stop_27 ⟨(Nat.le_of_ble_eq_true rfl), (Nat.le_of_ble_eq_true rfl)⟩) hP hD hS hA [0] [1, 2, 3, 4, 5, 6, 7] rfl rfl rfl rfl (by decide) (fun _ => rfl) 0 0 rfl rfl (fun r_3 u_4 H locs hw hP hD hS => ?_)
  obtain rfl : r_3 = 999 := hw
  have hP : va_P (dC, dI) vwCl [((p1 49), .inl (cI, 22, .inl (fun _ => 0))), ((p1 50), .inl (cI, 22, .inl (fun _ => 0))), ((p1 82), .inl (cI, 13, .inl (fun _ => 0))), ((p1 14), .inl (cI, 2, .inl (fun _ => 0))), ((p1 83), .inl (cI, 13, .inl (fun _ => 0))), ((p1 23), .inl (cI, 2, .inl (fun _ => 0))), ((p1 81), .inl (cJ, 13, .inr (.inl (fun _ => 0)))), (p0, .inr (7, oM p1 (upd i7 1 0) j7))] H := hP
  have hD : va_D A [((p1 49), .inl (cI, 22, .inl (fun _ => 0))), ((p1 50), .inl (cI, 22, .inl (fun _ => 0))), ((p1 82), .inl (cI, 13, .inl (fun _ => 0))), ((p1 14), .inl (cI, 2, .inl (fun _ => 0))), ((p1 83), .inl (cI, 13, .inl (fun _ => 0))), ((p1 23), .inl (cI, 2, .inl (fun _ => 0))), ((p1 81), .inl (cJ, 13, .inr (.inl (fun _ => 0)))), (p0, .inr (7, oM p1 (upd i7 1 0) j7))] := hD
  refine lv_if_eq (tgt := 41) hx hb dX7_stop_30 (by decide) (fun q9 => absurd q9 (by decide +kernel)) (fun _ => ?_)
  refine lv_aload_n hx hb dX7_stop_33 rfl (lv_at hl 1 rfl) ?_
  refine lv_iload_n hx hb dX7_stop_34 rfl (lv_at hl 0 rfl) ?_
  refine k_ci (wc := [(p0, .inr (7, oM p1 (upd i7 1 0) j7)), ((p1 49), .inl (cI, 22, .inl (fun _ => 0))), ((p1 50), .inl (cI, 22, .inl (fun _ => 0))), ((p1 82), .inl (cI, 13, .inl (fun _ => 0))), ((p1 14), .inl (cI, 2, .inl (fun _ => 0))), ((p1 83), .inl (cI, 13, .inl (fun _ => 0)))]) (wr := [((p1 23), .inl (cI, 2, .inl (fun _ => 0))), ((p1 81), .inl (cJ, 13, .inr (.inl (fun _ => 0))))]) (fun hPc hDc => va_runV (As := [.int 0]) (rest := []) ⟨hx, hb, hml, hown, hts⟩ (c_X7_goesRow_v0 l dC dI cI cJ cZ cM p0 p1 H.size) (cwV 1 hts gX7_stop_X7_goesRow rfl rfl rfl (by decide +kernel) ⟨(Nat.le_of_ble_eq_true rfl), (Nat.le_of_ble_eq_true rfl)⟩) (k_pV hPc hDc hK hN hP (q0 := 7) (ci := 7) rfl rfl) rfl rfl hl.1 rfl (lv_room (Nat.le_of_ble_eq_true rfl)) dX7_stop_35 ⟨(Nat.le_of_ble_eq_true rfl), (Nat.le_of_ble_eq_true rfl)⟩) hP hD hS hA [7, 0, 1, 2, 3, 4] [5, 6] rfl rfl rfl rfl (by decide) (fun _ => rfl) 0 0 rfl rfl (fun r_5 u_6 H locs hw hP hD hS => ?_)
  obtain rfl : r_5 = 1 := hw
  have hP : va_P (dC, dI) vwCl [((p1 23), .inl (cI, 2, .inl (fun _ => 0))), ((p1 81), .inl (cJ, 13, .inr (.inl (fun _ => 0)))), (p0, .inr (7, oM p1 (upd i7 1 0) j7)), ((p1 49), .inl (cI, 22, .inl (fun _ => 0))), ((p1 50), .inl (cI, 22, .inl (fun _ => 0))), ((p1 82), .inl (cI, 13, .inl (upd (fun _ => 0) 0 0))), ((p1 14), .inl (cI, 2, .inl (fun _ => 0))), ((p1 83), .inl (cI, 13, .inl (upd (fun _ => 0) 0 0)))] H := hP
  have hD : va_D A [((p1 23), .inl (cI, 2, .inl (fun _ => 0))), ((p1 81), .inl (cJ, 13, .inr (.inl (fun _ => 0)))), (p0, .inr (7, oM p1 (upd i7 1 0) j7)), ((p1 49), .inl (cI, 22, .inl (fun _ => 0))), ((p1 50), .inl (cI, 22, .inl (fun _ => 0))), ((p1 82), .inl (cI, 13, .inl (upd (fun _ => 0) 0 0))), ((p1 14), .inl (cI, 2, .inl (fun _ => 0))), ((p1 83), .inl (cI, 13, .inl (upd (fun _ => 0) 0 0)))] := hD
  refine lv_if_ne (tgt := 47) hx hb dX7_stop_38 (by decide) (fun _ => ?_) (fun q9 => absurd q9 (by decide +kernel))
  refine lv_aload_n hx hb dX7_stop_47 rfl (lv_at hl 1 rfl) ?_
  refine lv_iload_n hx hb dX7_stop_48 rfl (lv_at hl 0 rfl) ?_
  refine k_put (D := (dC, dI)) (ci := 7) (v := .int 0) (C := RX7) (T := TX7) (N := 92) (ws' := [((p1 23), .inl (cI, 2, .inl (fun _ => 0))), ((p1 81), .inl (cJ, 13, .inr (.inl (fun _ => 0)))), (p0, .inr (7, oM p1 (upd (upd i7 1 0) 80 0) j7)), ((p1 49), .inl (cI, 22, .inl (fun _ => 0))), ((p1 50), .inl (cI, 22, .inl (fun _ => 0))), ((p1 82), .inl (cI, 13, .inl (upd (fun _ => 0) 0 0))), ((p1 14), .inl (cI, 2, .inl (fun _ => 0))), ((p1 83), .inl (cI, 13, .inl (upd (fun _ => 0) 0 0)))]) hx hb hts hinX7 tyX7 tyX7_ok nmX7 hown hK hP hD hS 2 rfl rfl 80 (by decide) w_1 rfl rfl rfl rfl (Nat.le_of_ble_eq_true rfl) rfl dX7_stop_49 (fun H locs hP hD hS => ?_)
  refine lv_iconst (v := 0) hx hb dX7_stop_52 (by decide +kernel) ?_
  refine lv_istore_n (lv' := [(2, .int 0), (1, .int 0), (0, .ref p0)]) hx hb dX7_stop_53 rfl hl (by decide) rfl (fun ls hl => ?_)
  refine lv_aload_n hx hb dX7_stop_54 rfl (lv_at hl 2 rfl) ?_
  refine lv_aload_n hx hb dX7_stop_55 rfl (lv_at hl 2 rfl) ?_
  refine k_get (D := (dC, dI)) (ci := 7) (v := .ref (p1 23)) (C := RX7) (T := TX7) (N := 92) hx hb hts hinX7 hown hK hP 2 rfl rfl 23 (by decide) w_2 rfl rfl dX7_stop_56 ?_
  refine lv_aload_n hx hb dX7_stop_59 rfl (lv_at hl 2 rfl) ?_
  refine k_get (D := (dC, dI)) (ci := 7) (v := .int 0) (C := RX7) (T := TX7) (N := 92) hx hb hts hinX7 hown hK hP 2 rfl rfl 13 (by decide) w_3 rfl rfl dX7_stop_60 ?_
  refine k_iald (v := 0) hx hb hK hP 0 0 0 rfl rfl rfl (Nat.le_of_ble_eq_true rfl) (Nat.le_of_ble_eq_true rfl) rfl dX7_stop_63 ?_
  refine k_ci (wc := [(p0, .inr (7, oM p1 (upd (upd i7 1 0) 80 0) j7)), ((p1 14), .inl (cI, 2, .inl (fun _ => 0)))]) (wr := [((p1 23), .inl (cI, 2, .inl (fun _ => 0))), ((p1 81), .inl (cJ, 13, .inr (.inl (fun _ => 0)))), ((p1 49), .inl (cI, 22, .inl (fun _ => 0))), ((p1 50), .inl (cI, 22, .inl (fun _ => 0))), ((p1 82), .inl (cI, 13, .inl (upd (fun _ => 0) 0 0))), ((p1 83), .inl (cI, 13, .inl (upd (fun _ => 0) 0 0)))]) (fun hPc hDc => va_runV (As := [.int 0]) (rest := []) ⟨hx, hb, hml, hown, hts⟩ (c_X7_worthOf_v2 l dC dI cI cJ cZ cM p0 p1 H.size) (cwV 1 hts gX7_stop_X7_worthOf rfl rfl rfl (by decide +kernel) ⟨(Nat.le_of_ble_eq_true rfl), (Nat.le_of_ble_eq_true rfl)⟩) (k_pV hPc hDc hK hN hP (q0 := 2) (ci := 7) rfl rfl) rfl rfl hl.1 rfl (lv_room (Nat.le_of_ble_eq_true rfl)) dX7_stop_64 ⟨(Nat.le_of_ble_eq_true rfl), (Nat.le_of_ble_eq_true rfl)⟩) hP hD hS hA [2, 6] [0, 1, 3, 4, 5, 7] rfl rfl rfl rfl (by decide) (fun _ => rfl) 0 0 rfl rfl (fun r_7 u_8 H locs hw hP hD hS => ?_)
  obtain rfl : r_7 = 0 := hw
  have hP : va_P (dC, dI) vwCl [((p1 23), .inl (cI, 2, .inl (fun _ => 0))), ((p1 81), .inl (cJ, 13, .inr (.inl (fun _ => 0)))), ((p1 49), .inl (cI, 22, .inl (fun _ => 0))), ((p1 50), .inl (cI, 22, .inl (fun _ => 0))), ((p1 82), .inl (cI, 13, .inl (upd (fun _ => 0) 0 0))), ((p1 83), .inl (cI, 13, .inl (upd (fun _ => 0) 0 0))), (p0, .inr (7, oM p1 (upd (upd i7 1 0) 80 0) j7)), ((p1 14), .inl (cI, 2, .inl (fun _ => 0)))] H := hP
  have hD : va_D A [((p1 23), .inl (cI, 2, .inl (fun _ => 0))), ((p1 81), .inl (cJ, 13, .inr (.inl (fun _ => 0)))), ((p1 49), .inl (cI, 22, .inl (fun _ => 0))), ((p1 50), .inl (cI, 22, .inl (fun _ => 0))), ((p1 82), .inl (cI, 13, .inl (upd (fun _ => 0) 0 0))), ((p1 83), .inl (cI, 13, .inl (upd (fun _ => 0) 0 0))), (p0, .inr (7, oM p1 (upd (upd i7 1 0) 80 0) j7)), ((p1 14), .inl (cI, 2, .inl (fun _ => 0)))] := hD
  refine lv_istore_n (lv' := [(3, .int 0), (2, .int 0), (1, .int 0), (0, .ref p0)]) hx hb dX7_stop_67 rfl hl (by decide) rfl (fun ls hl => ?_)
  refine lv_iconst (v := 0) hx hb dX7_stop_68 (by decide +kernel) ?_
  refine lv_istore (lv' := [(4, .int 0), (3, .int 0), (2, .int 0), (1, .int 0), (0, .ref p0)]) hx hb dX7_stop_69 hl (by decide) rfl (fun ls hl => ?_)
  refine lv_iload hx hb dX7_stop_71 (lv_at hl 0 rfl) ?_
  refine lv_iload_n hx hb dX7_stop_73 rfl (lv_at hl 3 rfl) ?_
  refine lv_icmp_gt (tgt := 180) hx hb dX7_stop_74 (by decide) (fun q9 => absurd q9 (by decide +kernel)) (fun _ => ?_)
  refine lv_aload_n hx hb dX7_stop_77 rfl (lv_at hl 4 rfl) ?_
  refine k_get (D := (dC, dI)) (ci := 7) (v := .ref (p1 81)) (C := RX7) (T := TX7) (N := 92) hx hb hts hinX7 hown hK hP 6 rfl rfl 81 (by decide) w_4 rfl rfl dX7_stop_78 ?_
  refine lv_iload hx hb dX7_stop_81 (lv_at hl 0 rfl) ?_
  refine lv_lconst (v := 0) hx hb dX7_stop_83 (by decide +kernel) ?_
  refine k_last (g := (vp_updL (fun _ => 0) 0 0)) (ws' := [((p1 23), .inl (cI, 2, .inl (fun _ => 0))), ((p1 81), .inl (cJ, 13, .inr (.inl (vp_updL (fun _ => 0) 0 0)))), ((p1 49), .inl (cI, 22, .inl (fun _ => 0))), ((p1 50), .inl (cI, 22, .inl (fun _ => 0))), ((p1 82), .inl (cI, 13, .inl (upd (fun _ => 0) 0 0))), ((p1 83), .inl (cI, 13, .inl (upd (fun _ => 0) 0 0))), (p0, .inr (7, oM p1 (upd (upd i7 1 0) 80 0) j7)), ((p1 14), .inl (cI, 2, .inl (fun _ => 0)))]) hx hb hK hP hD hS 1 1 0 rfl rfl rfl (Nat.le_of_ble_eq_true rfl) (Nat.le_of_ble_eq_true rfl) rfl rfl dX7_stop_84 (fun H locs hP hD hS => ?_)
  refine lv_iconst (v := 1) hx hb dX7_stop_85 (by decide +kernel) ?_
  refine lv_istore (lv' := [(5, .int 1), (4, .int 0), (3, .int 0), (2, .int 0), (1, .int 0), (0, .ref p0)]) hx hb dX7_stop_86 hl (by decide) rfl (fun ls hl => ?_)
  refine lv_iload hx hb dX7_stop_88 (lv_at hl 0 rfl) ?_
  refine lv_sipush (v := 999) hx hb dX7_stop_90 (by decide +kernel) ?_
  refine lv_icmp_gt (tgt := 150) hx hb dX7_stop_93 (by decide) (fun q9 => absurd q9 (by decide +kernel)) (fun _ => ?_)
  refine lv_aload_n hx hb dX7_stop_96 rfl (lv_at hl 5 rfl) ?_
  refine k_get (D := (dC, dI)) (ci := 7) (v := .ref (p1 81)) (C := RX7) (T := TX7) (N := 92) hx hb hts hinX7 hown hK hP 6 rfl rfl 81 (by decide) w_4 rfl rfl dX7_stop_97 ?_
  refine lv_iload hx hb dX7_stop_100 (lv_at hl 1 rfl) ?_
  refine lv_dup2_11 hx hb dX7_stop_102 rfl rfl ?_
  refine k_lald (v := 0) hx hb hK hP 1 1 0 rfl rfl rfl (Nat.le_of_ble_eq_true rfl) (Nat.le_of_ble_eq_true rfl) rfl dX7_stop_103 ?_
  refine lv_aload_n hx hb dX7_stop_104 rfl (lv_at hl 5 rfl) ?_
  refine lv_iload hx hb dX7_stop_105 (lv_at hl 0 rfl) ?_
  refine k_ci (wc := [(p0, .inr (7, oM p1 (upd (upd i7 1 0) 80 0) j7))]) (wr := [((p1 23), .inl (cI, 2, .inl (fun _ => 0))), ((p1 81), .inl (cJ, 13, .inr (.inl (vp_updL (fun _ => 0) 0 0)))), ((p1 49), .inl (cI, 22, .inl (fun _ => 0))), ((p1 50), .inl (cI, 22, .inl (fun _ => 0))), ((p1 82), .inl (cI, 13, .inl (upd (fun _ => 0) 0 0))), ((p1 83), .inl (cI, 13, .inl (upd (fun _ => 0) 0 0))), ((p1 14), .inl (cI, 2, .inl (fun _ => 0)))]) (fun hPc hDc => va_runV (As := [.int 1]) (rest := [.long 0, .int 0, .ref (p1 81)]) ⟨hx, hb, hml, hown, hts⟩ (c_X7_canBear_v4 l dC dI cI cJ cZ cM p0 p1 H.size) (cwV 1 hts gX7_stop_X7_canBear rfl rfl rfl (by decide +kernel) ⟨(Nat.le_of_ble_eq_true rfl), (Nat.le_of_ble_eq_true rfl)⟩) (k_pV hPc hDc hK hN hP (q0 := 6) (ci := 7) rfl rfl) rfl rfl hl.1 rfl (lv_room (Nat.le_of_ble_eq_true rfl)) dX7_stop_107 ⟨(Nat.le_of_ble_eq_true rfl), (Nat.le_of_ble_eq_true rfl)⟩) hP hD hS hA [6] [0, 1, 2, 3, 4, 5, 7] rfl rfl rfl rfl (by decide) (fun _ => rfl) 0 0 rfl rfl (fun r_9 u_10 H locs hw hP hD hS => ?_)
  obtain rfl : r_9 = 1 := hw
  have hP : va_P (dC, dI) vwCl [((p1 23), .inl (cI, 2, .inl (fun _ => 0))), ((p1 81), .inl (cJ, 13, .inr (.inl (vp_updL (fun _ => 0) 0 0)))), ((p1 49), .inl (cI, 22, .inl (fun _ => 0))), ((p1 50), .inl (cI, 22, .inl (fun _ => 0))), ((p1 82), .inl (cI, 13, .inl (upd (fun _ => 0) 0 0))), ((p1 83), .inl (cI, 13, .inl (upd (fun _ => 0) 0 0))), ((p1 14), .inl (cI, 2, .inl (fun _ => 0))), (p0, .inr (7, oM p1 (upd (upd i7 1 0) 80 0) j7))] H := hP
  have hD : va_D A [((p1 23), .inl (cI, 2, .inl (fun _ => 0))), ((p1 81), .inl (cJ, 13, .inr (.inl (vp_updL (fun _ => 0) 0 0)))), ((p1 49), .inl (cI, 22, .inl (fun _ => 0))), ((p1 50), .inl (cI, 22, .inl (fun _ => 0))), ((p1 82), .inl (cI, 13, .inl (upd (fun _ => 0) 0 0))), ((p1 83), .inl (cI, 13, .inl (upd (fun _ => 0) 0 0))), ((p1 14), .inl (cI, 2, .inl (fun _ => 0))), (p0, .inr (7, oM p1 (upd (upd i7 1 0) 80 0) j7))] := hD
  refine lv_if_ne (tgt := 117) hx hb dX7_stop_110 (by decide) (fun _ => ?_) (fun q9 => absurd q9 (by decide +kernel))
  refine lv_iload hx hb dX7_stop_117 (lv_at hl 0 rfl) ?_
  refine lv_aload_n hx hb dX7_stop_119 rfl (lv_at hl 5 rfl) ?_
  refine k_get (D := (dC, dI)) (ci := 7) (v := .ref (p1 82)) (C := RX7) (T := TX7) (N := 92) hx hb hts hinX7 hown hK hP 7 rfl rfl 82 (by decide) w_5 rfl rfl dX7_stop_120 ?_
  refine lv_iload hx hb dX7_stop_123 (lv_at hl 1 rfl) ?_
  refine k_iald (v := 0) hx hb hK hP 4 0 0 rfl rfl rfl (Nat.le_of_ble_eq_true rfl) (Nat.le_of_ble_eq_true rfl) rfl dX7_stop_125 ?_
  refine lv_icmp_lt (tgt := 140) hx hb dX7_stop_126 (by decide) (fun q9 => absurd q9 (by decide +kernel)) (fun _ => ?_)
  refine lv_aload_n hx hb dX7_stop_129 rfl (lv_at hl 5 rfl) ?_
  refine k_get (D := (dC, dI)) (ci := 7) (v := .ref (p1 83)) (C := RX7) (T := TX7) (N := 92) hx hb hts hinX7 hown hK hP 7 rfl rfl 83 (by decide) w_6 rfl rfl dX7_stop_130 ?_
  refine lv_iload hx hb dX7_stop_133 (lv_at hl 1 rfl) ?_
  refine k_iald (v := 0) hx hb hK hP 5 0 0 rfl rfl rfl (Nat.le_of_ble_eq_true rfl) (Nat.le_of_ble_eq_true rfl) rfl dX7_stop_135 ?_
  refine lv_i2l (v := 0) hx hb dX7_stop_136 (by decide +kernel) ?_
  refine lv_goto (tgt := 142) hx hb dX7_stop_137 (by decide) ?_
  refine lv_ladd hx hb dX7_stop_142 ?_
  refine k_long (v := 0) (by decide +kernel) ?_
  refine k_last (g := (vp_updL (vp_updL (fun _ => 0) 0 0) 0 0)) (ws' := [((p1 23), .inl (cI, 2, .inl (fun _ => 0))), ((p1 81), .inl (cJ, 13, .inr (.inl (vp_updL (vp_updL (fun _ => 0) 0 0) 0 0)))), ((p1 49), .inl (cI, 22, .inl (fun _ => 0))), ((p1 50), .inl (cI, 22, .inl (fun _ => 0))), ((p1 82), .inl (cI, 13, .inl (upd (fun _ => 0) 0 0))), ((p1 83), .inl (cI, 13, .inl (upd (fun _ => 0) 0 0))), ((p1 14), .inl (cI, 2, .inl (fun _ => 0))), (p0, .inr (7, oM p1 (upd (upd i7 1 0) 80 0) j7))]) hx hb hK hP hD hS 1 1 0 rfl rfl rfl (Nat.le_of_ble_eq_true rfl) (Nat.le_of_ble_eq_true rfl) rfl rfl dX7_stop_143 (fun H locs hP hD hS => ?_)
  refine lv_iinc (v := 2) (lv' := [(5, .int 2), (4, .int 0), (3, .int 0), (2, .int 0), (1, .int 0), (0, .ref p0)]) hx hb dX7_stop_144 hl (k := 0) rfl (by decide +kernel) (by decide) rfl (fun ls hl => ?_)
  refine lv_goto (tgt := 88) hx hb dX7_stop_147 (by decide) ?_
  have loop_k_11 : ∀ (n_k_11 : Nat) (kk_11 : Nat) (fk_11 : Nat → Int64) (h1k_11 : 1 ≤ kk_11) (h2k_11 : kk_11 ≤ 999) (h3k_11 : fk_11 0 = 0) (hn_k_11 : 999 - kk_11 < n_k_11) (H : Heap) (locs : List Loc) (ls : Array Slot), va_P (dC, dI) vwCl [((p1 23), .inl (cI, 2, .inl (fun _ => 0))), ((p1 81), .inl (cJ, 13, .inr (.inl fk_11))), ((p1 49), .inl (cI, 22, .inl (fun _ => 0))), ((p1 50), .inl (cI, 22, .inl (fun _ => 0))), ((p1 82), .inl (cI, 13, .inl (upd (fun _ => 0) 0 0))), ((p1 83), .inl (cI, 13, .inl (upd (fun _ => 0) 0 0))), ((p1 14), .inl (cI, 2, .inl (fun _ => 0))), (p0, .inr (7, oM p1 (upd (upd i7 1 0) 80 0) j7))] H → va_D A [((p1 23), .inl (cI, 2, .inl (fun _ => 0))), ((p1 81), .inl (cJ, 13, .inr (.inl fk_11))), ((p1 49), .inl (cI, 22, .inl (fun _ => 0))), ((p1 50), .inl (cI, 22, .inl (fun _ => 0))), ((p1 82), .inl (cI, 13, .inl (upd (fun _ => 0) 0 0))), ((p1 83), .inl (cI, 13, .inl (upd (fun _ => 0) 0 0))), ((p1 14), .inl (cI, 2, .inl (fun _ => 0))), (p0, .inr (7, oM p1 (upd (upd i7 1 0) 80 0) j7))] → va_S A s.heap H locs → lv_has ls 6 [(5, .int (nI (kk_11 + 1))), (4, .int 0), (3, .int 0), (2, .int 0), (1, .int 0), (0, .ref p0)] → W p l e ({ frames := 3, cells := 0, slots := 0, locals := 87 }) s m args below meth c H locs 0 0 (MQ below (va_Qi (fun (r9 : Int32) (u9 : Unit) => r9 = 0) (fun u => k_B (dC, dI) vwCl (tyy cI cJ cZ cM) A ((fun (u9 : Unit) => [(p0, .inr (7, oM p1 (upd (upd i7 1 0) 80 0) j7)), ((p1 49), .inl (cI, 22, .inl (fun _ => 0))), ((p1 50), .inl (cI, 22, .inl (fun _ => 0))), ((p1 82), .inl (cI, 13, .inl (upd (fun _ => 0) 0 0))), ((p1 14), .inl (cI, 2, .inl (fun _ => 0))), ((p1 83), .inl (cI, 13, .inl (upd (fun _ => 0) 0 0))), ((p1 23), .inl (cI, 2, .inl (fun _ => 0)))]) u)) A) args s 0 0 A) (F0 m 88 ls []) := by
    intro n_k_11
    induction n_k_11 with
    | zero => intro kk_11 fk_11 h1k_11 h2k_11 h3k_11 hn_k_11; exact absurd hn_k_11 (Nat.not_lt_zero _)
    | succ n_k_11 ih_k_11 =>
      intro kk_11 fk_11 h1k_11 h2k_11 h3k_11 hn_k_11 H locs ls hP hD hS hl
      refine lv_iload hx hb dX7_stop_88 (lv_at hl 0 rfl) ?_
      refine lv_sipush (v := 999) hx hb dX7_stop_90 (by decide +kernel) ?_
      refine lv_icmp_gt (tgt := 150) hx hb dX7_stop_93 (by decide) (fun c_12 => ?_) (fun c_12 => ?_)
      · have c_12 : 999 < (((kk_11 + 1) : Nat) : Int) := k_ltT (by decide +kernel) (nI_toInt (by omega)) c_12
        refine lv_aload_n hx hb dX7_stop_150 rfl (lv_at hl 5 rfl) ?_
        refine k_get (D := (dC, dI)) (ci := 7) (v := .ref (p1 81)) (C := RX7) (T := TX7) (N := 92) hx hb hts hinX7 hown hK hP 7 rfl rfl 81 (by decide) w_4 rfl rfl dX7_stop_151 ?_
        refine lv_iload hx hb dX7_stop_154 (lv_at hl 1 rfl) ?_
        refine k_lald (v := 0) hx hb hK hP 1 1 0 rfl rfl rfl (Nat.le_of_ble_eq_true rfl) (Nat.le_of_ble_eq_true rfl) h3k_11 dX7_stop_156 ?_
        refine lv_aload_n hx hb dX7_stop_157 rfl (lv_at hl 5 rfl) ?_
        refine k_get (D := (dC, dI)) (ci := 7) (v := .ref (p1 81)) (C := RX7) (T := TX7) (N := 92) hx hb hts hinX7 hown hK hP 7 rfl rfl 81 (by decide) w_4 rfl rfl dX7_stop_158 ?_
        refine lv_iload_n hx hb dX7_stop_161 rfl (lv_at hl 3 rfl) ?_
        refine k_lald (v := 0) hx hb hK hP 1 1 0 rfl rfl rfl (Nat.le_of_ble_eq_true rfl) (Nat.le_of_ble_eq_true rfl) h3k_11 dX7_stop_162 ?_
        refine W.lcmp hx hb dX7_stop_163 ?_
        refine k_int (v := 0) (by decide +kernel) ?_
        refine lv_if_le (tgt := 172) hx hb dX7_stop_164 (by decide) (fun _ => ?_) (fun q9 => absurd q9 (by decide +kernel))
        refine lv_iload_n hx hb dX7_stop_172 rfl (lv_at hl 3 rfl) ?_
        refine lv_istore_n (lv' := [(2, .int 0), (5, .int (nI (kk_11 + 1))), (4, .int 0), (3, .int 0), (1, .int 0), (0, .ref p0)]) hx hb dX7_stop_173 rfl hl (by decide) rfl (fun ls hl => ?_)
        refine lv_iinc (v := 1) (lv' := [(4, .int 1), (2, .int 0), (5, .int (nI (kk_11 + 1))), (3, .int 0), (1, .int 0), (0, .ref p0)]) hx hb dX7_stop_174 hl (k := 2) rfl (by decide +kernel) (by decide) rfl (fun ls hl => ?_)
        refine lv_goto (tgt := 71) hx hb dX7_stop_177 (by decide) ?_
        refine lv_iload hx hb dX7_stop_71 (lv_at hl 0 rfl) ?_
        refine lv_iload_n hx hb dX7_stop_73 rfl (lv_at hl 4 rfl) ?_
        refine lv_icmp_gt (tgt := 180) hx hb dX7_stop_74 (by decide) (fun _ => ?_) (fun q9 => absurd q9 (by decide +kernel))
        refine lv_iload_n hx hb dX7_stop_180 rfl (lv_at hl 1 rfl) ?_
        exact k_ri B hP hD hS dX7_stop_181 () [7, 2, 3, 4, 6, 5, 0] rfl rfl rfl (Nat.le_of_ble_eq_true rfl) (Nat.le_of_ble_eq_true rfl) rfl
      · have c_12 : (((kk_11 + 1) : Nat) : Int) ≤ 999 := k_ltF (by decide +kernel) (nI_toInt (by omega)) c_12
        refine lv_aload_n hx hb dX7_stop_96 rfl (lv_at hl 5 rfl) ?_
        refine k_get (D := (dC, dI)) (ci := 7) (v := .ref (p1 81)) (C := RX7) (T := TX7) (N := 92) hx hb hts hinX7 hown hK hP 7 rfl rfl 81 (by decide) w_4 rfl rfl dX7_stop_97 ?_
        refine lv_iload hx hb dX7_stop_100 (lv_at hl 1 rfl) ?_
        refine lv_dup2_11 hx hb dX7_stop_102 rfl rfl ?_
        refine k_lald (v := 0) hx hb hK hP 1 1 0 rfl rfl rfl (Nat.le_of_ble_eq_true rfl) (Nat.le_of_ble_eq_true rfl) h3k_11 dX7_stop_103 ?_
        refine lv_aload_n hx hb dX7_stop_104 rfl (lv_at hl 5 rfl) ?_
        refine lv_iload hx hb dX7_stop_105 (lv_at hl 0 rfl) ?_
        refine k_ci (wc := [(p0, .inr (7, oM p1 (upd (upd i7 1 0) 80 0) j7))]) (wr := [((p1 23), .inl (cI, 2, .inl (fun _ => 0))), ((p1 81), .inl (cJ, 13, .inr (.inl fk_11))), ((p1 49), .inl (cI, 22, .inl (fun _ => 0))), ((p1 50), .inl (cI, 22, .inl (fun _ => 0))), ((p1 82), .inl (cI, 13, .inl (upd (fun _ => 0) 0 0))), ((p1 83), .inl (cI, 13, .inl (upd (fun _ => 0) 0 0))), ((p1 14), .inl (cI, 2, .inl (fun _ => 0)))]) (fun hPc hDc => va_runV (As := [.int (nI (kk_11 + 1))]) (rest := [.long 0, .int 0, .ref (p1 81)]) ⟨hx, hb, hml, hown, hts⟩ (c_X7_canBear_v5 l dC dI cI cJ cZ cM p0 kk_11 p1 H.size) (cwV 1 hts gX7_stop_X7_canBear rfl rfl rfl (by decide +kernel) ⟨(Nat.le_of_ble_eq_true rfl), (Nat.le_of_ble_eq_true rfl)⟩) (k_pV hPc hDc hK hN hP (q0 := 7) (ci := 7) rfl rfl) rfl rfl hl.1 rfl (lv_room (Nat.le_of_ble_eq_true rfl)) dX7_stop_107 ⟨(Nat.le_of_ble_eq_true rfl), (Nat.le_of_ble_eq_true rfl)⟩) hP hD hS hA [7] [0, 1, 2, 3, 4, 5, 6] rfl rfl rfl rfl (by decide) (fun _ => rfl) 0 0 rfl rfl (fun r_13 u_14 H locs hw hP hD hS => ?_)
        obtain rfl : r_13 = 1 := hw
        have hP : va_P (dC, dI) vwCl [((p1 23), .inl (cI, 2, .inl (fun _ => 0))), ((p1 81), .inl (cJ, 13, .inr (.inl fk_11))), ((p1 49), .inl (cI, 22, .inl (fun _ => 0))), ((p1 50), .inl (cI, 22, .inl (fun _ => 0))), ((p1 82), .inl (cI, 13, .inl (upd (fun _ => 0) 0 0))), ((p1 83), .inl (cI, 13, .inl (upd (fun _ => 0) 0 0))), ((p1 14), .inl (cI, 2, .inl (fun _ => 0))), (p0, .inr (7, oM p1 (upd (upd i7 1 0) 80 0) j7))] H := hP
        have hD : va_D A [((p1 23), .inl (cI, 2, .inl (fun _ => 0))), ((p1 81), .inl (cJ, 13, .inr (.inl fk_11))), ((p1 49), .inl (cI, 22, .inl (fun _ => 0))), ((p1 50), .inl (cI, 22, .inl (fun _ => 0))), ((p1 82), .inl (cI, 13, .inl (upd (fun _ => 0) 0 0))), ((p1 83), .inl (cI, 13, .inl (upd (fun _ => 0) 0 0))), ((p1 14), .inl (cI, 2, .inl (fun _ => 0))), (p0, .inr (7, oM p1 (upd (upd i7 1 0) 80 0) j7))] := hD
        refine lv_if_ne (tgt := 117) hx hb dX7_stop_110 (by decide) (fun _ => ?_) (fun q9 => absurd q9 (by decide +kernel))
        refine lv_iload hx hb dX7_stop_117 (lv_at hl 0 rfl) ?_
        refine lv_aload_n hx hb dX7_stop_119 rfl (lv_at hl 5 rfl) ?_
        refine k_get (D := (dC, dI)) (ci := 7) (v := .ref (p1 82)) (C := RX7) (T := TX7) (N := 92) hx hb hts hinX7 hown hK hP 7 rfl rfl 82 (by decide) w_5 rfl rfl dX7_stop_120 ?_
        refine lv_iload hx hb dX7_stop_123 (lv_at hl 1 rfl) ?_
        refine k_iald (v := 0) hx hb hK hP 4 0 0 rfl rfl rfl (Nat.le_of_ble_eq_true rfl) (Nat.le_of_ble_eq_true rfl) rfl dX7_stop_125 ?_
        refine lv_icmp_lt (tgt := 140) hx hb dX7_stop_126 (by decide) (fun c_15 => ?_) (fun c_15 => ?_)
        · have c_15 : (((kk_11 + 1) : Nat) : Int) < 0 := k_ltT (nI_toInt (by omega)) (by decide +kernel) c_15
          exfalso; omega
        · have c_15 : 0 ≤ (((kk_11 + 1) : Nat) : Int) := k_ltF (nI_toInt (by omega)) (by decide +kernel) c_15
          refine lv_aload_n hx hb dX7_stop_129 rfl (lv_at hl 5 rfl) ?_
          refine k_get (D := (dC, dI)) (ci := 7) (v := .ref (p1 83)) (C := RX7) (T := TX7) (N := 92) hx hb hts hinX7 hown hK hP 7 rfl rfl 83 (by decide) w_6 rfl rfl dX7_stop_130 ?_
          refine lv_iload hx hb dX7_stop_133 (lv_at hl 1 rfl) ?_
          refine k_iald (v := 0) hx hb hK hP 5 0 0 rfl rfl rfl (Nat.le_of_ble_eq_true rfl) (Nat.le_of_ble_eq_true rfl) rfl dX7_stop_135 ?_
          refine lv_i2l (v := 0) hx hb dX7_stop_136 (by decide +kernel) ?_
          refine lv_goto (tgt := 142) hx hb dX7_stop_137 (by decide) ?_
          refine lv_ladd hx hb dX7_stop_142 ?_
          refine k_long (v := 0) (by decide +kernel) ?_
          refine k_last (g := (vp_updL fk_11 0 0)) (ws' := [((p1 23), .inl (cI, 2, .inl (fun _ => 0))), ((p1 81), .inl (cJ, 13, .inr (.inl (vp_updL fk_11 0 0)))), ((p1 49), .inl (cI, 22, .inl (fun _ => 0))), ((p1 50), .inl (cI, 22, .inl (fun _ => 0))), ((p1 82), .inl (cI, 13, .inl (upd (fun _ => 0) 0 0))), ((p1 83), .inl (cI, 13, .inl (upd (fun _ => 0) 0 0))), ((p1 14), .inl (cI, 2, .inl (fun _ => 0))), (p0, .inr (7, oM p1 (upd (upd i7 1 0) 80 0) j7))]) hx hb hK hP hD hS 1 1 0 rfl rfl rfl (Nat.le_of_ble_eq_true rfl) (Nat.le_of_ble_eq_true rfl) rfl rfl dX7_stop_143 (fun H locs hP hD hS => ?_)
          refine lv_iinc (v := (nI ((kk_11 + 1) + 1))) (lv' := [(5, .int (nI ((kk_11 + 1) + 1))), (4, .int 0), (3, .int 0), (2, .int 0), (1, .int 0), (0, .ref p0)]) hx hb dX7_stop_144 hl (k := 0) rfl (nI_1 _) (by decide) rfl (fun ls hl => ?_)
          refine lv_goto (tgt := 88) hx hb dX7_stop_147 (by decide) ?_
          exact ih_k_11 (kk_11 + 1) (vp_updL fk_11 0 0) (by omega) (by omega) rfl (by omega) H locs ls (hP.sub [0, 1, 2, 3, 4, 5, 6, 7] rfl) (hD.sub [0, 1, 2, 3, 4, 5, 6, 7] (by decide) rfl) hS (lv_sub hl [0, 1, 2, 3, 4, 5] rfl)
  exact loop_k_11 _ 1 (vp_updL (vp_updL (fun _ => 0) 0 0) 0 0) (by omega) (by omega) rfl (Nat.lt_succ_self _) H locs ls hP hD hS hl
set_option maxHeartbeats 4000000 in
set_option maxRecDepth 100000 in
theorem c_X7_is_v5 (l : Launch) (dC : Nat → ClassId) (dI : Nat → Nat → Nat) (cI cJ cZ cM : ClassId) (p0 : Int32)   : k_Mi l yX7_is wsX7_is ({ frames := 1, cells := 0, slots := 0, locals := 40 }) (dC, dI) vwCl (tyy cI cJ cZ cM) [] [.int p0, .int 1, .int 40] 0 0 (fun (u9 : (Nat × (Nat → Nat))) => []) (fun (r9 : Int32) (u9 : (Nat × (Nat → Nat))) => match u9.1 with | 0 => (p0.toInt < 1) ∧ r9 = 0 | 1 => (1 ≤ p0.toInt) ∧ (40 < p0.toInt) ∧ r9 = 0 | 2 => (1 ≤ p0.toInt) ∧ (p0.toInt ≤ 40) ∧ r9 = 1 | _ => False) := by
  refine fun sz => k_enter (cc := cX7_is) (maxL := 3) (ret := some (.boolean)) (Qc := fun A => va_Qi (fun (r9 : Int32) (u9 : (Nat × (Nat → Nat))) => match u9.1 with | 0 => (p0.toInt < 1) ∧ r9 = 0 | 1 => (1 ≤ p0.toInt) ∧ (40 < p0.toInt) ∧ r9 = 0 | 2 => (1 ≤ p0.toInt) ∧ (p0.toInt ≤ 40) ∧ r9 = 1 | _ => False) (fun u => k_B (dC, dI) vwCl (tyy cI cJ cZ cM) A ((fun (u9 : (Nat × (Nat → Nat))) => []) u)) A) sz (by decide +kernel) rfl (Nat.le_of_ble_eq_true rfl) (fun p e s m args below meth c A ls H B hP hD hS hl => ?_)
  obtain ⟨hx, hb, hml, hown, hts, hr, hlk, hnm, hK, hA, hN⟩ := id B
  have hown : s.vm.findClass RX7 = some m.cls := hown
  have hl : lv_has ls 3 [(0, .int p0), (1, .int 1), (2, .int 40)] := hl
  refine lv_iload_n hx hb dX7_is_0 rfl (lv_at hl 0 rfl) ?_
  refine lv_iload_n hx hb dX7_is_1 rfl (lv_at hl 1 rfl) ?_
  refine lv_icmp_lt (tgt := 14) hx hb dX7_is_2 (by decide) (fun c_1 => ?_) (fun c_1 => ?_)
  · have c_1 : p0.toInt < 1 := k_ltT rfl (by decide +kernel) c_1
    refine lv_iconst (v := 0) hx hb dX7_is_14 (by decide +kernel) ?_
    exact k_ri B hP hD hS dX7_is_15 (0, (fun _ => 0)) [] rfl rfl rfl (Nat.le_of_ble_eq_true rfl) (Nat.le_of_ble_eq_true rfl) ⟨c_1, rfl⟩
  · have c_1 : 1 ≤ p0.toInt := k_ltF rfl (by decide +kernel) c_1
    refine lv_iload_n hx hb dX7_is_5 rfl (lv_at hl 0 rfl) ?_
    refine lv_iload_n hx hb dX7_is_6 rfl (lv_at hl 2 rfl) ?_
    refine lv_icmp_gt (tgt := 14) hx hb dX7_is_7 (by decide) (fun c_2 => ?_) (fun c_2 => ?_)
    · have c_2 : 40 < p0.toInt := k_ltT (by decide +kernel) rfl c_2
      refine lv_iconst (v := 0) hx hb dX7_is_14 (by decide +kernel) ?_
      exact k_ri B hP hD hS dX7_is_15 (1, (fun _ => 0)) [] rfl rfl rfl (Nat.le_of_ble_eq_true rfl) (Nat.le_of_ble_eq_true rfl) ⟨c_1, c_2, rfl⟩
    · have c_2 : p0.toInt ≤ 40 := k_ltF (by decide +kernel) rfl c_2
      refine lv_iconst (v := 1) hx hb dX7_is_10 (by decide +kernel) ?_
      refine lv_goto (tgt := 15) hx hb dX7_is_11 (by decide) ?_
      exact k_ri B hP hD hS dX7_is_15 (2, (fun _ => 0)) [] rfl rfl rfl (Nat.le_of_ble_eq_true rfl) (Nat.le_of_ble_eq_true rfl) ⟨c_1, c_2, rfl⟩
set_option maxHeartbeats 4000000 in
set_option maxRecDepth 100000 in
theorem c_X7_refuses_v5 (l : Launch) (dC : Nat → ClassId) (dI : Nat → Nat → Nat) (cI cJ cZ cM : ClassId) (p0 : Nat) (p1 : Nat → Nat)   : k_Mi l yX7_refuses wsX7_refuses ({ frames := 1, cells := 0, slots := 0, locals := 40 }) (dC, dI) vwCl (tyy cI cJ cZ cM) [(p0, .inr (7, oM p1 i7 j7)), ((p1 48), .inl (cI, 6, .inl (fun _ => 0)))] [.ref p0, .int 3] 0 0 (fun (u9 : Unit) => [(p0, .inr (7, oM p1 i7 j7)), ((p1 48), .inl (cI, 6, .inl (upd (fun _ => 0) 3 1)))]) (fun (r9 : Int32) (u9 : Unit) => r9 = (-1)) := by
  refine fun sz => k_enter (cc := cX7_refuses) (maxL := 2) (ret := some (.int)) (Qc := fun A => va_Qi (fun (r9 : Int32) (u9 : Unit) => r9 = (-1)) (fun u => k_B (dC, dI) vwCl (tyy cI cJ cZ cM) A ((fun (u9 : Unit) => [(p0, .inr (7, oM p1 i7 j7)), ((p1 48), .inl (cI, 6, .inl (upd (fun _ => 0) 3 1)))]) u)) A) sz (by decide +kernel) rfl (Nat.le_of_ble_eq_true rfl) (fun p e s m args below meth c A ls H B hP hD hS hl => ?_)
  obtain ⟨hx, hb, hml, hown, hts, hr, hlk, hnm, hK, hA, hN⟩ := id B
  have hown : s.vm.findClass RX7 = some m.cls := hown
  have hl : lv_has ls 2 [(0, .ref p0), (1, .int 3)] := hl
  have w_0 : (Cond.fieldLink RX7 159 "WishSeaModel" "refused" "[I").before args s = true := hts _ (List.mem_of_getElem? (i := 1) rfl)
  have hinX7 : ∀ w ∈ u_ws RX7 TX7 92, w ∈ wsX7_refuses := fun _ h => List.mem_cons_of_mem _ (List.mem_append_right _ h)
  refine lv_aload_n hx hb dX7_refuses_0 rfl (lv_at hl 0 rfl) ?_
  refine k_get (D := (dC, dI)) (ci := 7) (v := .ref (p1 48)) (C := RX7) (T := TX7) (N := 92) hx hb hts hinX7 hown hK hP 0 rfl rfl 48 (by decide) w_0 rfl rfl dX7_refuses_1 ?_
  refine lv_iload_n hx hb dX7_refuses_4 rfl (lv_at hl 1 rfl) ?_
  refine lv_dup2_11 hx hb dX7_refuses_5 rfl rfl ?_
  refine k_iald (v := 0) hx hb hK hP 1 0 3 rfl rfl rfl (Nat.le_of_ble_eq_true rfl) (Nat.le_of_ble_eq_true rfl) rfl dX7_refuses_6 ?_
  refine lv_iconst (v := 1) hx hb dX7_refuses_7 (by decide +kernel) ?_
  refine lv_iadd hx hb dX7_refuses_8 ?_
  refine k_int (v := 1) (by decide +kernel) ?_
  refine k_iast (g := (upd (fun _ => 0) 3 1)) (ws' := [(p0, .inr (7, oM p1 i7 j7)), ((p1 48), .inl (cI, 6, .inl (upd (fun _ => 0) 3 1)))]) hx hb hK hP hD hS 1 0 3 rfl rfl rfl (Nat.le_of_ble_eq_true rfl) (Nat.le_of_ble_eq_true rfl) rfl rfl dX7_refuses_9 (fun H locs hP hD hS => ?_)
  refine lv_iconst (v := (-1)) hx hb dX7_refuses_10 (by decide +kernel) ?_
  exact k_ri B hP hD hS dX7_refuses_11 () [0, 1] rfl rfl rfl (Nat.le_of_ble_eq_true rfl) (Nat.le_of_ble_eq_true rfl) rfl
set_option maxHeartbeats 4000000 in
set_option maxRecDepth 100000 in
theorem c_X7_draw_v0 (l : Launch) (dC : Nat → ClassId) (dI : Nat → Nat → Nat) (cI cJ cZ cM : ClassId) (p0 : Nat) (p1 : Nat → Nat) (p2 : Int64)   : k_Mi l yX7_draw wsX7_draw ({ frames := 1, cells := 0, slots := 0, locals := 40 }) (dC, dI) vwCl (tyy cI cJ cZ cM) [(p0, .inr (7, oM p1 (upd i7 59 1) (vp_updL j7 60 p2)))] [.ref p0, .int 4] 0 0 (fun (u9 : Unit) => [(p0, .inr (7, oM p1 (upd i7 59 1) (vp_updL j7 60 (((1103515245 * p2) + 12345) - ((1103515245 * p2) + 12345) / 2147483648 * 2147483648))))]) (fun (r9 : Int32) (u9 : Unit) => r9 = ((((((1103515245 * p2) + 12345) - ((1103515245 * p2) + 12345) / 2147483648 * 2147483648) / 64) - ((((1103515245 * p2) + 12345) - ((1103515245 * p2) + 12345) / 2147483648 * 2147483648) / 64) / 4 * 4).toInt32)) := by
  refine fun sz => k_enter (cc := cX7_draw) (maxL := 2) (ret := some (.int)) (Qc := fun A => va_Qi (fun (r9 : Int32) (u9 : Unit) => r9 = ((((((1103515245 * p2) + 12345) - ((1103515245 * p2) + 12345) / 2147483648 * 2147483648) / 64) - ((((1103515245 * p2) + 12345) - ((1103515245 * p2) + 12345) / 2147483648 * 2147483648) / 64) / 4 * 4).toInt32)) (fun u => k_B (dC, dI) vwCl (tyy cI cJ cZ cM) A ((fun (u9 : Unit) => [(p0, .inr (7, oM p1 (upd i7 59 1) (vp_updL j7 60 (((1103515245 * p2) + 12345) - ((1103515245 * p2) + 12345) / 2147483648 * 2147483648))))]) u)) A) sz (by decide +kernel) rfl (Nat.le_of_ble_eq_true rfl) (fun p e s m args below meth c A ls H B hP hD hS hl => ?_)
  obtain ⟨hx, hb, hml, hown, hts, hr, hlk, hnm, hK, hA, hN⟩ := id B
  have hown : s.vm.findClass RX7 = some m.cls := hown
  have hl : lv_has ls 2 [(0, .ref p0), (1, .int 4)] := hl
  have w_0 : (Cond.constantLong RX7 578 (1103515245)).before args s = true := hts _ (List.mem_of_getElem? (i := 1) rfl)
  have w_1 : (Cond.fieldLink RX7 195 "WishSeaModel" "seeds" "J").before args s = true := hts _ (List.mem_of_getElem? (i := 2) rfl)
  have w_2 : (Cond.constantLong RX7 580 (12345)).before args s = true := hts _ (List.mem_of_getElem? (i := 3) rfl)
  have w_3 : (Cond.constantLong RX7 582 (2147483648)).before args s = true := hts _ (List.mem_of_getElem? (i := 4) rfl)
  have w_4 : (Cond.constantLong RX7 584 (64)).before args s = true := hts _ (List.mem_of_getElem? (i := 5) rfl)
  have hinX7 : ∀ w ∈ u_ws RX7 TX7 92, w ∈ wsX7_draw := fun _ h => List.mem_cons_of_mem _ (List.mem_append_right _ h)
  refine lv_aload_n hx hb dX7_draw_0 rfl (lv_at hl 0 rfl) ?_
  refine lv_ldc2 (v := 1103515245) hx hb hown w_0 dX7_draw_1 ?_
  refine lv_aload_n hx hb dX7_draw_4 rfl (lv_at hl 0 rfl) ?_
  refine k_get (D := (dC, dI)) (ci := 7) (v := .long p2) (C := RX7) (T := TX7) (N := 92) hx hb hts hinX7 hown hK hP 0 rfl rfl 60 (by decide) w_1 rfl rfl dX7_draw_5 ?_
  refine lv_lmul hx hb dX7_draw_8 ?_
  refine lv_ldc2 (v := 12345) hx hb hown w_2 dX7_draw_9 ?_
  refine lv_ladd hx hb dX7_draw_12 ?_
  refine lv_ldc2 (v := 2147483648) hx hb hown w_3 dX7_draw_13 ?_
  refine lv_lrem hx hb dX7_draw_16 (by decide +kernel) ?_
  refine k_put (D := (dC, dI)) (ci := 7) (v := .long (((1103515245 * p2) + 12345) - ((1103515245 * p2) + 12345) / 2147483648 * 2147483648)) (C := RX7) (T := TX7) (N := 92) (ws' := [(p0, .inr (7, oM p1 (upd i7 59 1) (vp_updL j7 60 (((1103515245 * p2) + 12345) - ((1103515245 * p2) + 12345) / 2147483648 * 2147483648))))]) hx hb hts hinX7 tyX7 tyX7_ok nmX7 hown hK hP hD hS 0 rfl rfl 60 (by decide) w_1 rfl rfl rfl rfl (Nat.le_of_ble_eq_true rfl) rfl dX7_draw_17 (fun H locs hP hD hS => ?_)
  refine lv_aload_n hx hb dX7_draw_20 rfl (lv_at hl 0 rfl) ?_
  refine k_get (D := (dC, dI)) (ci := 7) (v := .long (((1103515245 * p2) + 12345) - ((1103515245 * p2) + 12345) / 2147483648 * 2147483648)) (C := RX7) (T := TX7) (N := 92) hx hb hts hinX7 hown hK hP 0 rfl rfl 60 (by decide) w_1 rfl rfl dX7_draw_21 ?_
  refine lv_ldc2 (v := 64) hx hb hown w_4 dX7_draw_24 ?_
  refine lv_ldiv hx hb dX7_draw_27 (by decide +kernel) ?_
  refine lv_iload_n hx hb dX7_draw_28 rfl (lv_at hl 1 rfl) ?_
  refine lv_i2l (v := 4) hx hb dX7_draw_29 (by decide +kernel) ?_
  refine lv_lrem hx hb dX7_draw_30 (by decide +kernel) ?_
  refine lv_l2i (v := (((((1103515245 * p2) + 12345) - ((1103515245 * p2) + 12345) / 2147483648 * 2147483648) / 64) - ((((1103515245 * p2) + 12345) - ((1103515245 * p2) + 12345) / 2147483648 * 2147483648) / 64) / 4 * 4).toInt32) hx hb dX7_draw_31 rfl ?_
  exact k_ri B hP hD hS dX7_draw_32 () [0] rfl rfl rfl (Nat.le_of_ble_eq_true rfl) (Nat.le_of_ble_eq_true rfl) rfl
set_option maxHeartbeats 4000000 in
set_option maxRecDepth 100000 in
theorem c_X7_briefOnes_v2 (l : Launch) (dC : Nat → ClassId) (dI : Nat → Nat → Nat) (cI cJ cZ cM : ClassId) (p0 : Nat) (p1 : Nat → Nat) (p2 : Int64)   : k_Mi l yX7_briefOnes wsX7_briefOnes ({ frames := 1, cells := 0, slots := 0, locals := 40 }) (dC, dI) vwCl (tyy cI cJ cZ cM) [(p0, .inr (7, oM p1 (upd i7 59 1) (vp_updL j7 60 (((1103515245 * p2) + 12345) - ((1103515245 * p2) + 12345) / 2147483648 * 2147483648)))), ((p1 14), .inl (cI, 2, .inl (fun _ => 0)))] [.ref p0] 0 0 (fun (u9 : Unit) => [(p0, .inr (7, oM p1 (upd i7 59 1) (vp_updL j7 60 (((1103515245 * p2) + 12345) - ((1103515245 * p2) + 12345) / 2147483648 * 2147483648)))), ((p1 14), .inl (cI, 2, .inl (fun _ => 0)))]) (fun (r9 : Int32) (u9 : Unit) => r9 = 0) := by
  refine fun sz => k_enter (cc := cX7_briefOnes) (maxL := 3) (ret := some (.int)) (Qc := fun A => va_Qi (fun (r9 : Int32) (u9 : Unit) => r9 = 0) (fun u => k_B (dC, dI) vwCl (tyy cI cJ cZ cM) A ((fun (u9 : Unit) => [(p0, .inr (7, oM p1 (upd i7 59 1) (vp_updL j7 60 (((1103515245 * p2) + 12345) - ((1103515245 * p2) + 12345) / 2147483648 * 2147483648)))), ((p1 14), .inl (cI, 2, .inl (fun _ => 0)))]) u)) A) sz (by decide +kernel) rfl (Nat.le_of_ble_eq_true rfl) (fun p e s m args below meth c A ls H B hP hD hS hl => ?_)
  obtain ⟨hx, hb, hml, hown, hts, hr, hlk, hnm, hK, hA, hN⟩ := id B
  have hown : s.vm.findClass RX7 = some m.cls := hown
  have hl : lv_has ls 3 [(0, .ref p0)] := hl
  have w_0 : (Cond.fieldLink RX7 54 "WishSeaModel" "things" "[I").before args s = true := hts _ (List.mem_of_getElem? (i := 1) rfl)
  have w_1 : (Cond.fieldLink RX7 51 "WishSeaModel" "bank" "I").before args s = true := hts _ (List.mem_of_getElem? (i := 2) rfl)
  have hinX7 : ∀ w ∈ u_ws RX7 TX7 92, w ∈ wsX7_briefOnes := fun _ h => List.mem_cons_of_mem _ (List.mem_append_right _ h)
  refine lv_iconst (v := 0) hx hb dX7_briefOnes_0 (by decide +kernel) ?_
  refine lv_istore_n (lv' := [(1, .int 0), (0, .ref p0)]) hx hb dX7_briefOnes_1 rfl hl (by decide) rfl (fun ls hl => ?_)
  refine lv_iconst (v := 0) hx hb dX7_briefOnes_2 (by decide +kernel) ?_
  refine lv_istore_n (lv' := [(2, .int 0), (1, .int 0), (0, .ref p0)]) hx hb dX7_briefOnes_3 rfl hl (by decide) rfl (fun ls hl => ?_)
  refine lv_iload_n hx hb dX7_briefOnes_4 rfl (lv_at hl 0 rfl) ?_
  refine lv_aload_n hx hb dX7_briefOnes_5 rfl (lv_at hl 2 rfl) ?_
  refine k_get (D := (dC, dI)) (ci := 7) (v := .ref (p1 14)) (C := RX7) (T := TX7) (N := 92) hx hb hts hinX7 hown hK hP 0 rfl rfl 14 (by decide) w_0 rfl rfl dX7_briefOnes_6 ?_
  refine lv_aload_n hx hb dX7_briefOnes_9 rfl (lv_at hl 2 rfl) ?_
  refine k_get (D := (dC, dI)) (ci := 7) (v := .int 0) (C := RX7) (T := TX7) (N := 92) hx hb hts hinX7 hown hK hP 0 rfl rfl 13 (by decide) w_1 rfl rfl dX7_briefOnes_10 ?_
  refine k_iald (v := 0) hx hb hK hP 1 0 0 rfl rfl rfl (Nat.le_of_ble_eq_true rfl) (Nat.le_of_ble_eq_true rfl) rfl dX7_briefOnes_13 ?_
  refine lv_icmp_ge (tgt := 42) hx hb dX7_briefOnes_14 (by decide) (fun _ => ?_) (fun q9 => absurd q9 (by decide +kernel))
  refine lv_iload_n hx hb dX7_briefOnes_42 rfl (lv_at hl 1 rfl) ?_
  exact k_ri B hP hD hS dX7_briefOnes_43 () [0, 1] rfl rfl rfl (Nat.le_of_ble_eq_true rfl) (Nat.le_of_ble_eq_true rfl) rfl
set_option maxHeartbeats 4000000 in
set_option maxRecDepth 100000 in
theorem c_X7_dayEnds_v1 (l : Launch) (dC : Nat → ClassId) (dI : Nat → Nat → Nat) (cI cJ cZ cM : ClassId) (p0 : Nat) (p1 : Nat → Nat) (p2 : Int64) (p3 : Nat → Int32) (p4 : Nat → Int32) (p5 : Nat → Int32) (p6 : Nat → Int32) (p7 : Nat)  (e_0 : p3 0 = 0) (e_1 : p4 0 = 0) (e_2 : p5 0 = 0) (e_3 : p6 0 = (nI p7)) : k_Mv l yX7_dayEnds wsX7_dayEnds ({ frames := 2, cells := 0, slots := 0, locals := 62 }) (dC, dI) vwCl (tyy cI cJ cZ cM) [(p0, .inr (7, oM p1 (upd i7 59 1) (vp_updL j7 60 (((1103515245 * p2) + 12345) - ((1103515245 * p2) + 12345) / 2147483648 * 2147483648)))), ((p1 49), .inl (cI, 22, .inl p3)), ((p1 14), .inl (cI, 2, .inl (fun _ => 0))), ((p1 50), .inl (cI, 22, .inl p4)), ((p1 31), .inl (cI, 2, .inl (fun _ => 0))), ((p1 51), .inl (cI, 22, .inl p5)), ((p1 52), .inl (cI, 22, .inl p6))] [.ref p0, .int 0] 0 0 (fun (u9 : Unit) => [(p0, .inr (7, oM p1 (upd i7 59 1) (vp_updL j7 60 (((1103515245 * p2) + 12345) - ((1103515245 * p2) + 12345) / 2147483648 * 2147483648)))), ((p1 49), .inl (cI, 22, .inl (upd p3 0 0))), ((p1 14), .inl (cI, 2, .inl (fun _ => 0))), ((p1 50), .inl (cI, 22, .inl (upd p4 0 0))), ((p1 31), .inl (cI, 2, .inl (fun _ => 0))), ((p1 51), .inl (cI, 22, .inl (upd p5 0 0))), ((p1 52), .inl (cI, 22, .inl (upd p6 0 (nI (p7 + 1)))))]) (fun (u9 : Unit) => True) := by
  refine fun sz => k_enter (cc := cX7_dayEnds) (maxL := 2) (ret := none) (Qc := fun A => va_Qv (fun (u9 : Unit) => True) (fun u => k_B (dC, dI) vwCl (tyy cI cJ cZ cM) A ((fun (u9 : Unit) => [(p0, .inr (7, oM p1 (upd i7 59 1) (vp_updL j7 60 (((1103515245 * p2) + 12345) - ((1103515245 * p2) + 12345) / 2147483648 * 2147483648)))), ((p1 49), .inl (cI, 22, .inl (upd p3 0 0))), ((p1 14), .inl (cI, 2, .inl (fun _ => 0))), ((p1 50), .inl (cI, 22, .inl (upd p4 0 0))), ((p1 31), .inl (cI, 2, .inl (fun _ => 0))), ((p1 51), .inl (cI, 22, .inl (upd p5 0 0))), ((p1 52), .inl (cI, 22, .inl (upd p6 0 (nI (p7 + 1)))))]) u)) A) sz (by decide +kernel) rfl (Nat.le_of_ble_eq_true rfl) (fun p e s m args below meth c A ls H B hP hD hS hl => ?_)
  obtain ⟨hx, hb, hml, hown, hts, hr, hlk, hnm, hK, hA, hN⟩ := id B
  have hown : s.vm.findClass RX7 = some m.cls := hown
  have hl : lv_has ls 2 [(0, .ref p0), (1, .int 0)] := hl
  have w_0 : (Cond.fieldLink RX7 162 "WishSeaModel" "hadOf" "[I").before args s = true := hts _ (List.mem_of_getElem? (i := 1) rfl)
  have w_1 : (Cond.fieldLink RX7 165 "WishSeaModel" "seaOf" "[I").before args s = true := hts _ (List.mem_of_getElem? (i := 2) rfl)
  have w_2 : (Cond.fieldLink RX7 105 "WishSeaModel" "calming" "[I").before args s = true := hts _ (List.mem_of_getElem? (i := 3) rfl)
  have w_3 : (Cond.fieldLink RX7 51 "WishSeaModel" "bank" "I").before args s = true := hts _ (List.mem_of_getElem? (i := 4) rfl)
  have w_4 : (Cond.fieldLink RX7 168 "WishSeaModel" "saidOf" "[I").before args s = true := hts _ (List.mem_of_getElem? (i := 5) rfl)
  have w_5 : (Cond.fieldLink RX7 171 "WishSeaModel" "dayOf" "[I").before args s = true := hts _ (List.mem_of_getElem? (i := 6) rfl)
  have hinX7 : ∀ w ∈ u_ws RX7 TX7 92, w ∈ wsX7_dayEnds := fun _ h => List.mem_cons_of_mem _ (List.mem_append_right _ h)
  refine lv_aload_n hx hb dX7_dayEnds_0 rfl (lv_at hl 0 rfl) ?_
  refine k_get (D := (dC, dI)) (ci := 7) (v := .ref (p1 49)) (C := RX7) (T := TX7) (N := 92) hx hb hts hinX7 hown hK hP 0 rfl rfl 49 (by decide) w_0 rfl rfl dX7_dayEnds_1 ?_
  refine lv_iload_n hx hb dX7_dayEnds_4 rfl (lv_at hl 1 rfl) ?_
  refine lv_dup2_11 hx hb dX7_dayEnds_5 rfl rfl ?_
  refine k_iald (v := 0) hx hb hK hP 1 0 0 rfl rfl rfl (Nat.le_of_ble_eq_true rfl) (Nat.le_of_ble_eq_true rfl) e_0 dX7_dayEnds_6 ?_
  refine lv_aload_n hx hb dX7_dayEnds_7 rfl (lv_at hl 0 rfl) ?_
  refine k_ci (wc := [(p0, .inr (7, oM p1 (upd i7 59 1) (vp_updL j7 60 (((1103515245 * p2) + 12345) - ((1103515245 * p2) + 12345) / 2147483648 * 2147483648)))), ((p1 14), .inl (cI, 2, .inl (fun _ => 0)))]) (wr := [((p1 49), .inl (cI, 22, .inl p3)), ((p1 50), .inl (cI, 22, .inl p4)), ((p1 31), .inl (cI, 2, .inl (fun _ => 0))), ((p1 51), .inl (cI, 22, .inl p5)), ((p1 52), .inl (cI, 22, .inl p6))]) (fun hPc hDc => va_runV (As := []) (rest := [.int 0, .int 0, .ref (p1 49)]) ⟨hx, hb, hml, hown, hts⟩ (c_X7_briefOnes_v2 l dC dI cI cJ cZ cM p0 p1 p2 H.size) (cwV 0 hts gX7_dayEnds_X7_briefOnes rfl rfl rfl (by decide +kernel) ⟨(Nat.le_of_ble_eq_true rfl), (Nat.le_of_ble_eq_true rfl)⟩) (k_pV hPc hDc hK hN hP (q0 := 0) (ci := 7) rfl rfl) rfl rfl hl.1 rfl (lv_room (Nat.le_of_ble_eq_true rfl)) dX7_dayEnds_8 ⟨(Nat.le_of_ble_eq_true rfl), (Nat.le_of_ble_eq_true rfl)⟩) hP hD hS hA [0, 2] [1, 3, 4, 5, 6] rfl rfl rfl rfl (by decide) (fun _ => rfl) 0 0 rfl rfl (fun r_1 u_2 H locs hw hP hD hS => ?_)
  obtain rfl : r_1 = 0 := hw
  have hP : va_P (dC, dI) vwCl [((p1 49), .inl (cI, 22, .inl p3)), ((p1 50), .inl (cI, 22, .inl p4)), ((p1 31), .inl (cI, 2, .inl (fun _ => 0))), ((p1 51), .inl (cI, 22, .inl p5)), ((p1 52), .inl (cI, 22, .inl p6)), (p0, .inr (7, oM p1 (upd i7 59 1) (vp_updL j7 60 (((1103515245 * p2) + 12345) - ((1103515245 * p2) + 12345) / 2147483648 * 2147483648)))), ((p1 14), .inl (cI, 2, .inl (fun _ => 0)))] H := hP
  have hD : va_D A [((p1 49), .inl (cI, 22, .inl p3)), ((p1 50), .inl (cI, 22, .inl p4)), ((p1 31), .inl (cI, 2, .inl (fun _ => 0))), ((p1 51), .inl (cI, 22, .inl p5)), ((p1 52), .inl (cI, 22, .inl p6)), (p0, .inr (7, oM p1 (upd i7 59 1) (vp_updL j7 60 (((1103515245 * p2) + 12345) - ((1103515245 * p2) + 12345) / 2147483648 * 2147483648)))), ((p1 14), .inl (cI, 2, .inl (fun _ => 0)))] := hD
  refine lv_iconst (v := (-1)) hx hb dX7_dayEnds_11 (by decide +kernel) ?_
  refine lv_ixor hx hb dX7_dayEnds_12 ?_
  refine k_int (v := (-1)) (by decide +kernel) ?_
  refine lv_iand hx hb dX7_dayEnds_13 ?_
  refine k_int (v := 0) (by decide +kernel) ?_
  refine k_iast (g := (upd p3 0 0)) (ws' := [((p1 49), .inl (cI, 22, .inl (upd p3 0 0))), ((p1 50), .inl (cI, 22, .inl p4)), ((p1 31), .inl (cI, 2, .inl (fun _ => 0))), ((p1 51), .inl (cI, 22, .inl p5)), ((p1 52), .inl (cI, 22, .inl p6)), (p0, .inr (7, oM p1 (upd i7 59 1) (vp_updL j7 60 (((1103515245 * p2) + 12345) - ((1103515245 * p2) + 12345) / 2147483648 * 2147483648)))), ((p1 14), .inl (cI, 2, .inl (fun _ => 0)))]) hx hb hK hP hD hS 0 0 0 rfl rfl rfl (Nat.le_of_ble_eq_true rfl) (Nat.le_of_ble_eq_true rfl) rfl rfl dX7_dayEnds_14 (fun H locs hP hD hS => ?_)
  refine lv_aload_n hx hb dX7_dayEnds_15 rfl (lv_at hl 0 rfl) ?_
  refine k_get (D := (dC, dI)) (ci := 7) (v := .ref (p1 50)) (C := RX7) (T := TX7) (N := 92) hx hb hts hinX7 hown hK hP 5 rfl rfl 50 (by decide) w_1 rfl rfl dX7_dayEnds_16 ?_
  refine lv_iload_n hx hb dX7_dayEnds_19 rfl (lv_at hl 1 rfl) ?_
  refine lv_aload_n hx hb dX7_dayEnds_20 rfl (lv_at hl 0 rfl) ?_
  refine k_get (D := (dC, dI)) (ci := 7) (v := .ref (p1 50)) (C := RX7) (T := TX7) (N := 92) hx hb hts hinX7 hown hK hP 5 rfl rfl 50 (by decide) w_1 rfl rfl dX7_dayEnds_21 ?_
  refine lv_iload_n hx hb dX7_dayEnds_24 rfl (lv_at hl 1 rfl) ?_
  refine k_iald (v := 0) hx hb hK hP 1 0 0 rfl rfl rfl (Nat.le_of_ble_eq_true rfl) (Nat.le_of_ble_eq_true rfl) e_1 dX7_dayEnds_25 ?_
  refine lv_aload_n hx hb dX7_dayEnds_26 rfl (lv_at hl 0 rfl) ?_
  refine k_get (D := (dC, dI)) (ci := 7) (v := .ref (p1 31)) (C := RX7) (T := TX7) (N := 92) hx hb hts hinX7 hown hK hP 5 rfl rfl 31 (by decide) w_2 rfl rfl dX7_dayEnds_27 ?_
  refine lv_aload_n hx hb dX7_dayEnds_30 rfl (lv_at hl 0 rfl) ?_
  refine k_get (D := (dC, dI)) (ci := 7) (v := .int 0) (C := RX7) (T := TX7) (N := 92) hx hb hts hinX7 hown hK hP 5 rfl rfl 13 (by decide) w_3 rfl rfl dX7_dayEnds_31 ?_
  refine k_iald (v := 0) hx hb hK hP 2 0 0 rfl rfl rfl (Nat.le_of_ble_eq_true rfl) (Nat.le_of_ble_eq_true rfl) rfl dX7_dayEnds_34 ?_
  refine lv_icmp_ge (tgt := 42) hx hb dX7_dayEnds_35 (by decide) (fun _ => ?_) (fun q9 => absurd q9 (by decide +kernel))
  refine lv_aload_n hx hb dX7_dayEnds_42 rfl (lv_at hl 0 rfl) ?_
  refine k_get (D := (dC, dI)) (ci := 7) (v := .ref (p1 50)) (C := RX7) (T := TX7) (N := 92) hx hb hts hinX7 hown hK hP 5 rfl rfl 50 (by decide) w_1 rfl rfl dX7_dayEnds_43 ?_
  refine lv_iload_n hx hb dX7_dayEnds_46 rfl (lv_at hl 1 rfl) ?_
  refine k_iald (v := 0) hx hb hK hP 1 0 0 rfl rfl rfl (Nat.le_of_ble_eq_true rfl) (Nat.le_of_ble_eq_true rfl) e_1 dX7_dayEnds_47 ?_
  refine lv_aload_n hx hb dX7_dayEnds_48 rfl (lv_at hl 0 rfl) ?_
  refine k_get (D := (dC, dI)) (ci := 7) (v := .ref (p1 31)) (C := RX7) (T := TX7) (N := 92) hx hb hts hinX7 hown hK hP 5 rfl rfl 31 (by decide) w_2 rfl rfl dX7_dayEnds_49 ?_
  refine lv_aload_n hx hb dX7_dayEnds_52 rfl (lv_at hl 0 rfl) ?_
  refine k_get (D := (dC, dI)) (ci := 7) (v := .int 0) (C := RX7) (T := TX7) (N := 92) hx hb hts hinX7 hown hK hP 5 rfl rfl 13 (by decide) w_3 rfl rfl dX7_dayEnds_53 ?_
  refine k_iald (v := 0) hx hb hK hP 2 0 0 rfl rfl rfl (Nat.le_of_ble_eq_true rfl) (Nat.le_of_ble_eq_true rfl) rfl dX7_dayEnds_56 ?_
  refine lv_isub hx hb dX7_dayEnds_57 ?_
  refine k_int (v := 0) (by decide +kernel) ?_
  refine k_iast (g := (upd p4 0 0)) (ws' := [((p1 49), .inl (cI, 22, .inl (upd p3 0 0))), ((p1 50), .inl (cI, 22, .inl (upd p4 0 0))), ((p1 31), .inl (cI, 2, .inl (fun _ => 0))), ((p1 51), .inl (cI, 22, .inl p5)), ((p1 52), .inl (cI, 22, .inl p6)), (p0, .inr (7, oM p1 (upd i7 59 1) (vp_updL j7 60 (((1103515245 * p2) + 12345) - ((1103515245 * p2) + 12345) / 2147483648 * 2147483648)))), ((p1 14), .inl (cI, 2, .inl (fun _ => 0)))]) hx hb hK hP hD hS 1 0 0 rfl rfl rfl (Nat.le_of_ble_eq_true rfl) (Nat.le_of_ble_eq_true rfl) rfl rfl dX7_dayEnds_58 (fun H locs hP hD hS => ?_)
  refine lv_aload_n hx hb dX7_dayEnds_59 rfl (lv_at hl 0 rfl) ?_
  refine k_get (D := (dC, dI)) (ci := 7) (v := .ref (p1 51)) (C := RX7) (T := TX7) (N := 92) hx hb hts hinX7 hown hK hP 5 rfl rfl 51 (by decide) w_4 rfl rfl dX7_dayEnds_60 ?_
  refine lv_iload_n hx hb dX7_dayEnds_63 rfl (lv_at hl 1 rfl) ?_
  refine lv_iconst (v := 0) hx hb dX7_dayEnds_64 (by decide +kernel) ?_
  refine k_iast (g := (upd p5 0 0)) (ws' := [((p1 49), .inl (cI, 22, .inl (upd p3 0 0))), ((p1 50), .inl (cI, 22, .inl (upd p4 0 0))), ((p1 31), .inl (cI, 2, .inl (fun _ => 0))), ((p1 51), .inl (cI, 22, .inl (upd p5 0 0))), ((p1 52), .inl (cI, 22, .inl p6)), (p0, .inr (7, oM p1 (upd i7 59 1) (vp_updL j7 60 (((1103515245 * p2) + 12345) - ((1103515245 * p2) + 12345) / 2147483648 * 2147483648)))), ((p1 14), .inl (cI, 2, .inl (fun _ => 0)))]) hx hb hK hP hD hS 3 0 0 rfl rfl rfl (Nat.le_of_ble_eq_true rfl) (Nat.le_of_ble_eq_true rfl) rfl rfl dX7_dayEnds_65 (fun H locs hP hD hS => ?_)
  refine lv_aload_n hx hb dX7_dayEnds_66 rfl (lv_at hl 0 rfl) ?_
  refine k_get (D := (dC, dI)) (ci := 7) (v := .ref (p1 52)) (C := RX7) (T := TX7) (N := 92) hx hb hts hinX7 hown hK hP 5 rfl rfl 52 (by decide) w_5 rfl rfl dX7_dayEnds_67 ?_
  refine lv_iload_n hx hb dX7_dayEnds_70 rfl (lv_at hl 1 rfl) ?_
  refine lv_dup2_11 hx hb dX7_dayEnds_71 rfl rfl ?_
  refine k_iald (v := (nI p7)) hx hb hK hP 4 0 0 rfl rfl rfl (Nat.le_of_ble_eq_true rfl) (Nat.le_of_ble_eq_true rfl) e_3 dX7_dayEnds_72 ?_
  refine lv_iconst (v := 1) hx hb dX7_dayEnds_73 (by decide +kernel) ?_
  refine lv_iadd hx hb dX7_dayEnds_74 ?_
  refine k_int (v := (nI (p7 + 1))) (nI_1 _) ?_
  refine k_iast (g := (upd p6 0 (nI (p7 + 1)))) (ws' := [((p1 49), .inl (cI, 22, .inl (upd p3 0 0))), ((p1 50), .inl (cI, 22, .inl (upd p4 0 0))), ((p1 31), .inl (cI, 2, .inl (fun _ => 0))), ((p1 51), .inl (cI, 22, .inl (upd p5 0 0))), ((p1 52), .inl (cI, 22, .inl (upd p6 0 (nI (p7 + 1))))), (p0, .inr (7, oM p1 (upd i7 59 1) (vp_updL j7 60 (((1103515245 * p2) + 12345) - ((1103515245 * p2) + 12345) / 2147483648 * 2147483648)))), ((p1 14), .inl (cI, 2, .inl (fun _ => 0)))]) hx hb hK hP hD hS 4 0 0 rfl rfl rfl (Nat.le_of_ble_eq_true rfl) (Nat.le_of_ble_eq_true rfl) rfl rfl dX7_dayEnds_75 (fun H locs hP hD hS => ?_)
  exact k_rv B hP hD hS dX7_dayEnds_76 () [5, 0, 6, 1, 2, 3, 4] rfl rfl (Nat.le_of_ble_eq_true rfl) (Nat.le_of_ble_eq_true rfl) trivial
set_option maxHeartbeats 4000000 in
set_option maxRecDepth 100000 in
theorem c_X7_saysSome_v0 (l : Launch) (dC : Nat → ClassId) (dI : Nat → Nat → Nat) (cI cJ cZ cM : ClassId) (p0 : Nat) (p1 : Nat → Nat) (p2 : Int64)   : k_Mi l yX7_saysSome wsX7_saysSome ({ frames := 1, cells := 0, slots := 0, locals := 40 }) (dC, dI) vwCl (tyy cI cJ cZ cM) [(p0, .inr (7, oM p1 (upd i7 59 1) (vp_updL j7 60 (((1103515245 * p2) + 12345) - ((1103515245 * p2) + 12345) / 2147483648 * 2147483648)))), ((p1 18), .inl (cI, 2, .inl (fun _ => 0)))] [.ref p0] 0 0 (fun (u9 : Unit) => [(p0, .inr (7, oM p1 (upd i7 59 1) (vp_updL j7 60 (((1103515245 * p2) + 12345) - ((1103515245 * p2) + 12345) / 2147483648 * 2147483648)))), ((p1 18), .inl (cI, 2, .inl (fun _ => 0)))]) (fun (r9 : Int32) (u9 : Unit) => r9 = 0) := by
  refine fun sz => k_enter (cc := cX7_saysSome) (maxL := 4) (ret := some (.boolean)) (Qc := fun A => va_Qi (fun (r9 : Int32) (u9 : Unit) => r9 = 0) (fun u => k_B (dC, dI) vwCl (tyy cI cJ cZ cM) A ((fun (u9 : Unit) => [(p0, .inr (7, oM p1 (upd i7 59 1) (vp_updL j7 60 (((1103515245 * p2) + 12345) - ((1103515245 * p2) + 12345) / 2147483648 * 2147483648)))), ((p1 18), .inl (cI, 2, .inl (fun _ => 0)))]) u)) A) sz (by decide +kernel) rfl (Nat.le_of_ble_eq_true rfl) (fun p e s m args below meth c A ls H B hP hD hS hl => ?_)
  obtain ⟨hx, hb, hml, hown, hts, hr, hlk, hnm, hK, hA, hN⟩ := id B
  have hown : s.vm.findClass RX7 = some m.cls := hown
  have hl : lv_has ls 4 [(0, .ref p0)] := hl
  have w_0 : (Cond.fieldLink RX7 66 "WishSeaModel" "wishes" "[I").before args s = true := hts _ (List.mem_of_getElem? (i := 1) rfl)
  have w_1 : (Cond.fieldLink RX7 51 "WishSeaModel" "bank" "I").before args s = true := hts _ (List.mem_of_getElem? (i := 2) rfl)
  have hinX7 : ∀ w ∈ u_ws RX7 TX7 92, w ∈ wsX7_saysSome := fun _ h => List.mem_cons_of_mem _ (List.mem_append_right _ h)
  refine lv_iconst (v := 0) hx hb dX7_saysSome_0 (by decide +kernel) ?_
  refine lv_istore_n (lv' := [(1, .int 0), (0, .ref p0)]) hx hb dX7_saysSome_1 rfl hl (by decide) rfl (fun ls hl => ?_)
  refine lv_iconst (v := 0) hx hb dX7_saysSome_2 (by decide +kernel) ?_
  refine lv_istore_n (lv' := [(2, .int 0), (1, .int 0), (0, .ref p0)]) hx hb dX7_saysSome_3 rfl hl (by decide) rfl (fun ls hl => ?_)
  refine lv_iload_n hx hb dX7_saysSome_4 rfl (lv_at hl 0 rfl) ?_
  refine lv_aload_n hx hb dX7_saysSome_5 rfl (lv_at hl 2 rfl) ?_
  refine k_get (D := (dC, dI)) (ci := 7) (v := .ref (p1 18)) (C := RX7) (T := TX7) (N := 92) hx hb hts hinX7 hown hK hP 0 rfl rfl 18 (by decide) w_0 rfl rfl dX7_saysSome_6 ?_
  refine lv_aload_n hx hb dX7_saysSome_9 rfl (lv_at hl 2 rfl) ?_
  refine k_get (D := (dC, dI)) (ci := 7) (v := .int 0) (C := RX7) (T := TX7) (N := 92) hx hb hts hinX7 hown hK hP 0 rfl rfl 13 (by decide) w_1 rfl rfl dX7_saysSome_10 ?_
  refine k_iald (v := 0) hx hb hK hP 1 0 0 rfl rfl rfl (Nat.le_of_ble_eq_true rfl) (Nat.le_of_ble_eq_true rfl) rfl dX7_saysSome_13 ?_
  refine lv_icmp_ge (tgt := 40) hx hb dX7_saysSome_14 (by decide) (fun _ => ?_) (fun q9 => absurd q9 (by decide +kernel))
  refine lv_iload_n hx hb dX7_saysSome_40 rfl (lv_at hl 1 rfl) ?_
  refine lv_if_ne (tgt := 46) hx hb dX7_saysSome_41 (by decide) (fun q9 => absurd q9 (by decide +kernel)) (fun _ => ?_)
  refine lv_iconst (v := 0) hx hb dX7_saysSome_44 (by decide +kernel) ?_
  exact k_ri B hP hD hS dX7_saysSome_45 () [0, 1] rfl rfl rfl (Nat.le_of_ble_eq_true rfl) (Nat.le_of_ble_eq_true rfl) rfl
set_option maxHeartbeats 4000000 in
set_option maxRecDepth 100000 in
theorem c_X7_days_v0 (l : Launch) (dC : Nat → ClassId) (dI : Nat → Nat → Nat) (cI cJ cZ cM : ClassId) (p0 : Nat) (p1 : Int32) (p2 : Nat → Nat)   : k_Mi l yX7_days wsX7_days ({ frames := 3, cells := 0, slots := 0, locals := 83 }) (dC, dI) vwCl (tyy cI cJ cZ cM) [(p0, .inr (7, oM p2 i7 j7)), ((p2 48), .inl (cI, 6, .inl (fun _ => 0))), ((p2 52), .inl (cI, 22, .inl (fun _ => 0))), ((p2 49), .inl (cI, 22, .inl (fun _ => 0))), ((p2 50), .inl (cI, 22, .inl (fun _ => 0))), ((p2 51), .inl (cI, 22, .inl (fun _ => 0))), ((p2 53), .inl (cI, 22, .inl (fun _ => 0))), ((p2 14), .inl (cI, 2, .inl (fun _ => 0))), ((p2 31), .inl (cI, 2, .inl (fun _ => 0))), ((p2 18), .inl (cI, 2, .inl (fun _ => 0)))] [.ref p0, .int p1] 0 0 (fun (u9 : (Nat × (Nat → Nat))) => match u9.1 with | 0 => [(p0, .inr (7, oM p2 i7 j7)), ((p2 48), .inl (cI, 6, .inl (upd (fun _ => 0) 3 1))), ((p2 52), .inl (cI, 22, .inl (fun _ => 0))), ((p2 49), .inl (cI, 22, .inl (fun _ => 0))), ((p2 50), .inl (cI, 22, .inl (fun _ => 0))), ((p2 51), .inl (cI, 22, .inl (fun _ => 0))), ((p2 53), .inl (cI, 22, .inl (fun _ => 0))), ((p2 14), .inl (cI, 2, .inl (fun _ => 0))), ((p2 31), .inl (cI, 2, .inl (fun _ => 0))), ((p2 18), .inl (cI, 2, .inl (fun _ => 0)))] | 1 => [(p0, .inr (7, oM p2 i7 j7)), ((p2 48), .inl (cI, 6, .inl (upd (fun _ => 0) 3 1))), ((p2 52), .inl (cI, 22, .inl (fun _ => 0))), ((p2 49), .inl (cI, 22, .inl (fun _ => 0))), ((p2 50), .inl (cI, 22, .inl (fun _ => 0))), ((p2 51), .inl (cI, 22, .inl (fun _ => 0))), ((p2 53), .inl (cI, 22, .inl (fun _ => 0))), ((p2 14), .inl (cI, 2, .inl (fun _ => 0))), ((p2 31), .inl (cI, 2, .inl (fun _ => 0))), ((p2 18), .inl (cI, 2, .inl (fun _ => 0)))] | 2 => [((p2 48), .inl (cI, 6, .inl (fun _ => 0))), ((p2 53), .inl (cI, 22, .inl (upd (fun _ => 0) 2 0))), ((p2 14), .inl (cI, 2, .inl (fun _ => 0))), ((p2 31), .inl (cI, 2, .inl (fun _ => 0))), ((p2 18), .inl (cI, 2, .inl (fun _ => 0)))] | _ => []) (fun (r9 : Int32) (u9 : (Nat × (Nat → Nat))) => match u9.1 with | 0 => (p1.toInt < 1) ∧ r9 = (-1) | 1 => (1 ≤ p1.toInt) ∧ (40 < p1.toInt) ∧ r9 = (-1) | 2 => (1 ≤ p1.toInt) ∧ (p1.toInt ≤ 40) ∧ (p1.toInt ≤ 9999) ∧ r9 = 0 | _ => False) := by
  refine fun sz => k_enter (cc := cX7_days) (maxL := 6) (ret := some (.int)) (Qc := fun A => va_Qi (fun (r9 : Int32) (u9 : (Nat × (Nat → Nat))) => match u9.1 with | 0 => (p1.toInt < 1) ∧ r9 = (-1) | 1 => (1 ≤ p1.toInt) ∧ (40 < p1.toInt) ∧ r9 = (-1) | 2 => (1 ≤ p1.toInt) ∧ (p1.toInt ≤ 40) ∧ (p1.toInt ≤ 9999) ∧ r9 = 0 | _ => False) (fun u => k_B (dC, dI) vwCl (tyy cI cJ cZ cM) A ((fun (u9 : (Nat × (Nat → Nat))) => match u9.1 with | 0 => [(p0, .inr (7, oM p2 i7 j7)), ((p2 48), .inl (cI, 6, .inl (upd (fun _ => 0) 3 1))), ((p2 52), .inl (cI, 22, .inl (fun _ => 0))), ((p2 49), .inl (cI, 22, .inl (fun _ => 0))), ((p2 50), .inl (cI, 22, .inl (fun _ => 0))), ((p2 51), .inl (cI, 22, .inl (fun _ => 0))), ((p2 53), .inl (cI, 22, .inl (fun _ => 0))), ((p2 14), .inl (cI, 2, .inl (fun _ => 0))), ((p2 31), .inl (cI, 2, .inl (fun _ => 0))), ((p2 18), .inl (cI, 2, .inl (fun _ => 0)))] | 1 => [(p0, .inr (7, oM p2 i7 j7)), ((p2 48), .inl (cI, 6, .inl (upd (fun _ => 0) 3 1))), ((p2 52), .inl (cI, 22, .inl (fun _ => 0))), ((p2 49), .inl (cI, 22, .inl (fun _ => 0))), ((p2 50), .inl (cI, 22, .inl (fun _ => 0))), ((p2 51), .inl (cI, 22, .inl (fun _ => 0))), ((p2 53), .inl (cI, 22, .inl (fun _ => 0))), ((p2 14), .inl (cI, 2, .inl (fun _ => 0))), ((p2 31), .inl (cI, 2, .inl (fun _ => 0))), ((p2 18), .inl (cI, 2, .inl (fun _ => 0)))] | 2 => [((p2 48), .inl (cI, 6, .inl (fun _ => 0))), ((p2 53), .inl (cI, 22, .inl (upd (fun _ => 0) 2 0))), ((p2 14), .inl (cI, 2, .inl (fun _ => 0))), ((p2 31), .inl (cI, 2, .inl (fun _ => 0))), ((p2 18), .inl (cI, 2, .inl (fun _ => 0)))] | _ => []) u)) A) sz (by decide +kernel) rfl (Nat.le_of_ble_eq_true rfl) (fun p e s m args below meth c A ls H B hP hD hS hl => ?_)
  obtain ⟨hx, hb, hml, hown, hts, hr, hlk, hnm, hK, hA, hN⟩ := id B
  have hown : s.vm.findClass RX7 = some m.cls := hown
  have hl : lv_has ls 6 [(0, .ref p0), (1, .int p1)] := hl
  have w_0 : (Cond.fieldLink RX7 171 "WishSeaModel" "dayOf" "[I").before args s = true := hts _ (List.mem_of_getElem? (i := 1) rfl)
  have hinX7 : ∀ w ∈ u_ws RX7 TX7 92, w ∈ wsX7_days := fun _ h => List.mem_cons_of_mem _ (List.mem_append_right _ h)
  refine lv_iload_n hx hb dX7_days_0 rfl (lv_at hl 1 rfl) ?_
  refine lv_iconst (v := 1) hx hb dX7_days_1 (by decide +kernel) ?_
  refine lv_bipush (v := 40) hx hb dX7_days_2 (by decide +kernel) ?_
  refine k_ci (wc := []) (wr := [(p0, .inr (7, oM p2 i7 j7)), ((p2 48), .inl (cI, 6, .inl (fun _ => 0))), ((p2 52), .inl (cI, 22, .inl (fun _ => 0))), ((p2 49), .inl (cI, 22, .inl (fun _ => 0))), ((p2 50), .inl (cI, 22, .inl (fun _ => 0))), ((p2 51), .inl (cI, 22, .inl (fun _ => 0))), ((p2 53), .inl (cI, 22, .inl (fun _ => 0))), ((p2 14), .inl (cI, 2, .inl (fun _ => 0))), ((p2 31), .inl (cI, 2, .inl (fun _ => 0))), ((p2 18), .inl (cI, 2, .inl (fun _ => 0)))]) (fun hPc hDc => va_runS (As := [.int p1, .int 1, .int 40]) (rest := []) ⟨hx, hb, hml, hown, hts⟩ (c_X7_is_v5 l dC dI cI cJ cZ cM p1 H.size) (va_cwS 3 hts gX7_days_X7_is rfl rfl rfl (by decide +kernel) ⟨(Nat.le_of_ble_eq_true rfl), (Nat.le_of_ble_eq_true rfl)⟩) (k_pS hPc hDc hK hN) rfl rfl hl.1 rfl (lv_room (Nat.le_of_ble_eq_true rfl)) dX7_days_4 ⟨(Nat.le_of_ble_eq_true rfl), (Nat.le_of_ble_eq_true rfl)⟩) hP hD hS hA [] [0, 1, 2, 3, 4, 5, 6, 7, 8, 9] rfl rfl rfl rfl (by decide) (fun _ => rfl) 0 0 rfl rfl (fun r_1 u_2 H locs hw hP hD hS => ?_)
  obtain ⟨k_u_2, u_u_2⟩ := u_2
  rcases k_u_2 with _ | _ | _ | k_u_2
  · obtain ⟨c_3, rfl⟩ : (p1.toInt < 1) ∧ r_1 = 0 := hw
    have hP : va_P (dC, dI) vwCl [(p0, .inr (7, oM p2 i7 j7)), ((p2 48), .inl (cI, 6, .inl (fun _ => 0))), ((p2 52), .inl (cI, 22, .inl (fun _ => 0))), ((p2 49), .inl (cI, 22, .inl (fun _ => 0))), ((p2 50), .inl (cI, 22, .inl (fun _ => 0))), ((p2 51), .inl (cI, 22, .inl (fun _ => 0))), ((p2 53), .inl (cI, 22, .inl (fun _ => 0))), ((p2 14), .inl (cI, 2, .inl (fun _ => 0))), ((p2 31), .inl (cI, 2, .inl (fun _ => 0))), ((p2 18), .inl (cI, 2, .inl (fun _ => 0)))] H := hP
    have hD : va_D A [(p0, .inr (7, oM p2 i7 j7)), ((p2 48), .inl (cI, 6, .inl (fun _ => 0))), ((p2 52), .inl (cI, 22, .inl (fun _ => 0))), ((p2 49), .inl (cI, 22, .inl (fun _ => 0))), ((p2 50), .inl (cI, 22, .inl (fun _ => 0))), ((p2 51), .inl (cI, 22, .inl (fun _ => 0))), ((p2 53), .inl (cI, 22, .inl (fun _ => 0))), ((p2 14), .inl (cI, 2, .inl (fun _ => 0))), ((p2 31), .inl (cI, 2, .inl (fun _ => 0))), ((p2 18), .inl (cI, 2, .inl (fun _ => 0)))] := hD
    refine lv_if_eq (tgt := 24) hx hb dX7_days_7 (by decide) (fun _ => ?_) (fun q9 => absurd q9 (by decide +kernel))
    refine lv_aload_n hx hb dX7_days_24 rfl (lv_at hl 0 rfl) ?_
    refine lv_iconst (v := 3) hx hb dX7_days_25 (by decide +kernel) ?_
    refine k_ci (wc := [(p0, .inr (7, oM p2 i7 j7)), ((p2 48), .inl (cI, 6, .inl (fun _ => 0)))]) (wr := [((p2 52), .inl (cI, 22, .inl (fun _ => 0))), ((p2 49), .inl (cI, 22, .inl (fun _ => 0))), ((p2 50), .inl (cI, 22, .inl (fun _ => 0))), ((p2 51), .inl (cI, 22, .inl (fun _ => 0))), ((p2 53), .inl (cI, 22, .inl (fun _ => 0))), ((p2 14), .inl (cI, 2, .inl (fun _ => 0))), ((p2 31), .inl (cI, 2, .inl (fun _ => 0))), ((p2 18), .inl (cI, 2, .inl (fun _ => 0)))]) (fun hPc hDc => va_runV (As := [.int 3]) (rest := []) ⟨hx, hb, hml, hown, hts⟩ (c_X7_refuses_v5 l dC dI cI cJ cZ cM p0 p2 H.size) (cwV 1 hts gX7_days_X7_refuses rfl rfl rfl (by decide +kernel) ⟨(Nat.le_of_ble_eq_true rfl), (Nat.le_of_ble_eq_true rfl)⟩) (k_pV hPc hDc hK hN hP (q0 := 0) (ci := 7) rfl rfl) rfl rfl hl.1 rfl (lv_room (Nat.le_of_ble_eq_true rfl)) dX7_days_26 ⟨(Nat.le_of_ble_eq_true rfl), (Nat.le_of_ble_eq_true rfl)⟩) hP hD hS hA [0, 1] [2, 3, 4, 5, 6, 7, 8, 9] rfl rfl rfl rfl (by decide) (fun _ => rfl) 0 0 rfl rfl (fun r_8 u_9 H locs hw hP hD hS => ?_)
    obtain rfl : r_8 = (-1) := hw
    have hP : va_P (dC, dI) vwCl [((p2 52), .inl (cI, 22, .inl (fun _ => 0))), ((p2 49), .inl (cI, 22, .inl (fun _ => 0))), ((p2 50), .inl (cI, 22, .inl (fun _ => 0))), ((p2 51), .inl (cI, 22, .inl (fun _ => 0))), ((p2 53), .inl (cI, 22, .inl (fun _ => 0))), ((p2 14), .inl (cI, 2, .inl (fun _ => 0))), ((p2 31), .inl (cI, 2, .inl (fun _ => 0))), ((p2 18), .inl (cI, 2, .inl (fun _ => 0))), (p0, .inr (7, oM p2 i7 j7)), ((p2 48), .inl (cI, 6, .inl (upd (fun _ => 0) 3 1)))] H := hP
    have hD : va_D A [((p2 52), .inl (cI, 22, .inl (fun _ => 0))), ((p2 49), .inl (cI, 22, .inl (fun _ => 0))), ((p2 50), .inl (cI, 22, .inl (fun _ => 0))), ((p2 51), .inl (cI, 22, .inl (fun _ => 0))), ((p2 53), .inl (cI, 22, .inl (fun _ => 0))), ((p2 14), .inl (cI, 2, .inl (fun _ => 0))), ((p2 31), .inl (cI, 2, .inl (fun _ => 0))), ((p2 18), .inl (cI, 2, .inl (fun _ => 0))), (p0, .inr (7, oM p2 i7 j7)), ((p2 48), .inl (cI, 6, .inl (upd (fun _ => 0) 3 1)))] := hD
    exact k_ri B hP hD hS dX7_days_29 (0, (fun _ => 0)) [8, 9, 0, 1, 2, 3, 4, 5, 6, 7] rfl rfl rfl (Nat.le_of_ble_eq_true rfl) (Nat.le_of_ble_eq_true rfl) ⟨c_3, rfl⟩
  · obtain ⟨c_4, c_5, rfl⟩ : (1 ≤ p1.toInt) ∧ (40 < p1.toInt) ∧ r_1 = 0 := hw
    have hP : va_P (dC, dI) vwCl [(p0, .inr (7, oM p2 i7 j7)), ((p2 48), .inl (cI, 6, .inl (fun _ => 0))), ((p2 52), .inl (cI, 22, .inl (fun _ => 0))), ((p2 49), .inl (cI, 22, .inl (fun _ => 0))), ((p2 50), .inl (cI, 22, .inl (fun _ => 0))), ((p2 51), .inl (cI, 22, .inl (fun _ => 0))), ((p2 53), .inl (cI, 22, .inl (fun _ => 0))), ((p2 14), .inl (cI, 2, .inl (fun _ => 0))), ((p2 31), .inl (cI, 2, .inl (fun _ => 0))), ((p2 18), .inl (cI, 2, .inl (fun _ => 0)))] H := hP
    have hD : va_D A [(p0, .inr (7, oM p2 i7 j7)), ((p2 48), .inl (cI, 6, .inl (fun _ => 0))), ((p2 52), .inl (cI, 22, .inl (fun _ => 0))), ((p2 49), .inl (cI, 22, .inl (fun _ => 0))), ((p2 50), .inl (cI, 22, .inl (fun _ => 0))), ((p2 51), .inl (cI, 22, .inl (fun _ => 0))), ((p2 53), .inl (cI, 22, .inl (fun _ => 0))), ((p2 14), .inl (cI, 2, .inl (fun _ => 0))), ((p2 31), .inl (cI, 2, .inl (fun _ => 0))), ((p2 18), .inl (cI, 2, .inl (fun _ => 0)))] := hD
    refine lv_if_eq (tgt := 24) hx hb dX7_days_7 (by decide) (fun _ => ?_) (fun q9 => absurd q9 (by decide +kernel))
    refine lv_aload_n hx hb dX7_days_24 rfl (lv_at hl 0 rfl) ?_
    refine lv_iconst (v := 3) hx hb dX7_days_25 (by decide +kernel) ?_
    refine k_ci (wc := [(p0, .inr (7, oM p2 i7 j7)), ((p2 48), .inl (cI, 6, .inl (fun _ => 0)))]) (wr := [((p2 52), .inl (cI, 22, .inl (fun _ => 0))), ((p2 49), .inl (cI, 22, .inl (fun _ => 0))), ((p2 50), .inl (cI, 22, .inl (fun _ => 0))), ((p2 51), .inl (cI, 22, .inl (fun _ => 0))), ((p2 53), .inl (cI, 22, .inl (fun _ => 0))), ((p2 14), .inl (cI, 2, .inl (fun _ => 0))), ((p2 31), .inl (cI, 2, .inl (fun _ => 0))), ((p2 18), .inl (cI, 2, .inl (fun _ => 0)))]) (fun hPc hDc => va_runV (As := [.int 3]) (rest := []) ⟨hx, hb, hml, hown, hts⟩ (c_X7_refuses_v5 l dC dI cI cJ cZ cM p0 p2 H.size) (cwV 1 hts gX7_days_X7_refuses rfl rfl rfl (by decide +kernel) ⟨(Nat.le_of_ble_eq_true rfl), (Nat.le_of_ble_eq_true rfl)⟩) (k_pV hPc hDc hK hN hP (q0 := 0) (ci := 7) rfl rfl) rfl rfl hl.1 rfl (lv_room (Nat.le_of_ble_eq_true rfl)) dX7_days_26 ⟨(Nat.le_of_ble_eq_true rfl), (Nat.le_of_ble_eq_true rfl)⟩) hP hD hS hA [0, 1] [2, 3, 4, 5, 6, 7, 8, 9] rfl rfl rfl rfl (by decide) (fun _ => rfl) 0 0 rfl rfl (fun r_10 u_11 H locs hw hP hD hS => ?_)
    obtain rfl : r_10 = (-1) := hw
    have hP : va_P (dC, dI) vwCl [((p2 52), .inl (cI, 22, .inl (fun _ => 0))), ((p2 49), .inl (cI, 22, .inl (fun _ => 0))), ((p2 50), .inl (cI, 22, .inl (fun _ => 0))), ((p2 51), .inl (cI, 22, .inl (fun _ => 0))), ((p2 53), .inl (cI, 22, .inl (fun _ => 0))), ((p2 14), .inl (cI, 2, .inl (fun _ => 0))), ((p2 31), .inl (cI, 2, .inl (fun _ => 0))), ((p2 18), .inl (cI, 2, .inl (fun _ => 0))), (p0, .inr (7, oM p2 i7 j7)), ((p2 48), .inl (cI, 6, .inl (upd (fun _ => 0) 3 1)))] H := hP
    have hD : va_D A [((p2 52), .inl (cI, 22, .inl (fun _ => 0))), ((p2 49), .inl (cI, 22, .inl (fun _ => 0))), ((p2 50), .inl (cI, 22, .inl (fun _ => 0))), ((p2 51), .inl (cI, 22, .inl (fun _ => 0))), ((p2 53), .inl (cI, 22, .inl (fun _ => 0))), ((p2 14), .inl (cI, 2, .inl (fun _ => 0))), ((p2 31), .inl (cI, 2, .inl (fun _ => 0))), ((p2 18), .inl (cI, 2, .inl (fun _ => 0))), (p0, .inr (7, oM p2 i7 j7)), ((p2 48), .inl (cI, 6, .inl (upd (fun _ => 0) 3 1)))] := hD
    exact k_ri B hP hD hS dX7_days_29 (1, (fun _ => 0)) [8, 9, 0, 1, 2, 3, 4, 5, 6, 7] rfl rfl rfl (Nat.le_of_ble_eq_true rfl) (Nat.le_of_ble_eq_true rfl) ⟨c_4, c_5, rfl⟩
  · obtain ⟨c_6, c_7, rfl⟩ : (1 ≤ p1.toInt) ∧ (p1.toInt ≤ 40) ∧ r_1 = 1 := hw
    have hP : va_P (dC, dI) vwCl [(p0, .inr (7, oM p2 i7 j7)), ((p2 48), .inl (cI, 6, .inl (fun _ => 0))), ((p2 52), .inl (cI, 22, .inl (fun _ => 0))), ((p2 49), .inl (cI, 22, .inl (fun _ => 0))), ((p2 50), .inl (cI, 22, .inl (fun _ => 0))), ((p2 51), .inl (cI, 22, .inl (fun _ => 0))), ((p2 53), .inl (cI, 22, .inl (fun _ => 0))), ((p2 14), .inl (cI, 2, .inl (fun _ => 0))), ((p2 31), .inl (cI, 2, .inl (fun _ => 0))), ((p2 18), .inl (cI, 2, .inl (fun _ => 0)))] H := hP
    have hD : va_D A [(p0, .inr (7, oM p2 i7 j7)), ((p2 48), .inl (cI, 6, .inl (fun _ => 0))), ((p2 52), .inl (cI, 22, .inl (fun _ => 0))), ((p2 49), .inl (cI, 22, .inl (fun _ => 0))), ((p2 50), .inl (cI, 22, .inl (fun _ => 0))), ((p2 51), .inl (cI, 22, .inl (fun _ => 0))), ((p2 53), .inl (cI, 22, .inl (fun _ => 0))), ((p2 14), .inl (cI, 2, .inl (fun _ => 0))), ((p2 31), .inl (cI, 2, .inl (fun _ => 0))), ((p2 18), .inl (cI, 2, .inl (fun _ => 0)))] := hD
    refine lv_if_eq (tgt := 24) hx hb dX7_days_7 (by decide) (fun q9 => absurd q9 (by decide +kernel)) (fun _ => ?_)
    refine lv_aload_n hx hb dX7_days_10 rfl (lv_at hl 0 rfl) ?_
    refine k_get (D := (dC, dI)) (ci := 7) (v := .ref (p2 52)) (C := RX7) (T := TX7) (N := 92) hx hb hts hinX7 hown hK hP 0 rfl rfl 52 (by decide) w_0 rfl rfl dX7_days_11 ?_
    refine lv_iconst (v := 0) hx hb dX7_days_14 (by decide +kernel) ?_
    refine k_iald (v := 0) hx hb hK hP 2 0 0 rfl rfl rfl (Nat.le_of_ble_eq_true rfl) (Nat.le_of_ble_eq_true rfl) rfl dX7_days_15 ?_
    refine lv_iload_n hx hb dX7_days_16 rfl (lv_at hl 1 rfl) ?_
    refine lv_iadd hx hb dX7_days_17 ?_
    refine k_int (v := p1) (Int32.zero_add _) ?_
    refine lv_sipush (v := 9999) hx hb dX7_days_18 (by decide +kernel) ?_
    refine lv_icmp_le (tgt := 30) hx hb dX7_days_21 (by decide) (fun c_12 => ?_) (fun c_12 => ?_)
    · have c_12 : p1.toInt ≤ 9999 := k_leT rfl (by decide +kernel) c_12
      refine lv_aload_n hx hb dX7_days_30 rfl (lv_at hl 0 rfl) ?_
      refine k_cv (wc := [(p0, .inr (7, oM p2 i7 j7)), ((p2 49), .inl (cI, 22, .inl (fun _ => 0))), ((p2 50), .inl (cI, 22, .inl (fun _ => 0))), ((p2 51), .inl (cI, 22, .inl (fun _ => 0))), ((p2 52), .inl (cI, 22, .inl (fun _ => 0))), ((p2 53), .inl (cI, 22, .inl (fun _ => 0)))]) (wr := [((p2 48), .inl (cI, 6, .inl (fun _ => 0))), ((p2 14), .inl (cI, 2, .inl (fun _ => 0))), ((p2 31), .inl (cI, 2, .inl (fun _ => 0))), ((p2 18), .inl (cI, 2, .inl (fun _ => 0)))]) (fun hPc hDc => va_runV (As := []) (rest := []) ⟨hx, hb, hml, hown, hts⟩ (c_X7_keeps_v0 l dC dI cI cJ cZ cM p0 p2 H.size) (cwV 0 hts gX7_days_X7_keeps rfl rfl rfl (by decide +kernel) ⟨(Nat.le_of_ble_eq_true rfl), (Nat.le_of_ble_eq_true rfl)⟩) (k_pV hPc hDc hK hN hP (q0 := 0) (ci := 7) rfl rfl) rfl rfl hl.1 rfl (lv_room (Nat.le_of_ble_eq_true rfl)) dX7_days_31 ⟨(Nat.le_of_ble_eq_true rfl), (Nat.le_of_ble_eq_true rfl)⟩) hP hD hS hA [0, 3, 4, 5, 2, 6] [1, 7, 8, 9] rfl rfl rfl rfl (by decide) (fun _ => rfl) 0 0 rfl rfl (fun u_14 H locs hw hP hD hS => ?_)
      have hP : va_P (dC, dI) vwCl [((p2 48), .inl (cI, 6, .inl (fun _ => 0))), ((p2 14), .inl (cI, 2, .inl (fun _ => 0))), ((p2 31), .inl (cI, 2, .inl (fun _ => 0))), ((p2 18), .inl (cI, 2, .inl (fun _ => 0))), (p0, .inr (7, oM p2 (upd i7 59 1) j7)), ((p2 49), .inl (cI, 22, .inl (upd (fun _ => 0) 2 0))), ((p2 50), .inl (cI, 22, .inl (upd (fun _ => 0) 2 0))), ((p2 51), .inl (cI, 22, .inl (upd (fun _ => 0) 2 0))), ((p2 52), .inl (cI, 22, .inl (upd (fun _ => 0) 2 0))), ((p2 53), .inl (cI, 22, .inl (upd (fun _ => 0) 2 0)))] H := hP
      have hD : va_D A [((p2 48), .inl (cI, 6, .inl (fun _ => 0))), ((p2 14), .inl (cI, 2, .inl (fun _ => 0))), ((p2 31), .inl (cI, 2, .inl (fun _ => 0))), ((p2 18), .inl (cI, 2, .inl (fun _ => 0))), (p0, .inr (7, oM p2 (upd i7 59 1) j7)), ((p2 49), .inl (cI, 22, .inl (upd (fun _ => 0) 2 0))), ((p2 50), .inl (cI, 22, .inl (upd (fun _ => 0) 2 0))), ((p2 51), .inl (cI, 22, .inl (upd (fun _ => 0) 2 0))), ((p2 52), .inl (cI, 22, .inl (upd (fun _ => 0) 2 0))), ((p2 53), .inl (cI, 22, .inl (upd (fun _ => 0) 2 0)))] := hD
      refine lv_iconst (v := 0) hx hb dX7_days_34 (by decide +kernel) ?_
      refine lv_istore_n (lv' := [(2, .int 0), (0, .ref p0), (1, .int p1)]) hx hb dX7_days_35 rfl hl (by decide) rfl (fun ls hl => ?_)
      refine lv_iconst (v := 0) hx hb dX7_days_36 (by decide +kernel) ?_
      refine lv_istore_n (lv' := [(3, .int 0), (2, .int 0), (0, .ref p0), (1, .int p1)]) hx hb dX7_days_37 rfl hl (by decide) rfl (fun ls hl => ?_)
      have loop_k_15 : ∀ (n_k_15 : Nat) (kk_15 : Nat) (jk_15 : Int64) (f0k_15 : Nat → Int32) (f1k_15 : Nat → Int32) (f2k_15 : Nat → Int32) (f3k_15 : Nat → Int32) (h2k_15 : kk_15 ≤ 40) (g0k_15 : f0k_15 0 = 0) (g1k_15 : f1k_15 0 = 0) (g2k_15 : f2k_15 0 = 0) (g3k_15 : f3k_15 0 = (nI kk_15)) (hn_k_15 : 40 - kk_15 < n_k_15) (H : Heap) (locs : List Loc) (ls : Array Slot), va_P (dC, dI) vwCl [((p2 48), .inl (cI, 6, .inl (fun _ => 0))), ((p2 14), .inl (cI, 2, .inl (fun _ => 0))), ((p2 31), .inl (cI, 2, .inl (fun _ => 0))), ((p2 18), .inl (cI, 2, .inl (fun _ => 0))), (p0, .inr (7, oM p2 (upd i7 59 1) (vp_updL j7 60 jk_15))), ((p2 49), .inl (cI, 22, .inl f0k_15)), ((p2 50), .inl (cI, 22, .inl f1k_15)), ((p2 51), .inl (cI, 22, .inl f2k_15)), ((p2 52), .inl (cI, 22, .inl f3k_15)), ((p2 53), .inl (cI, 22, .inl (upd (fun _ => 0) 2 0)))] H → va_D A [((p2 48), .inl (cI, 6, .inl (fun _ => 0))), ((p2 14), .inl (cI, 2, .inl (fun _ => 0))), ((p2 31), .inl (cI, 2, .inl (fun _ => 0))), ((p2 18), .inl (cI, 2, .inl (fun _ => 0))), (p0, .inr (7, oM p2 (upd i7 59 1) (vp_updL j7 60 jk_15))), ((p2 49), .inl (cI, 22, .inl f0k_15)), ((p2 50), .inl (cI, 22, .inl f1k_15)), ((p2 51), .inl (cI, 22, .inl f2k_15)), ((p2 52), .inl (cI, 22, .inl f3k_15)), ((p2 53), .inl (cI, 22, .inl (upd (fun _ => 0) 2 0)))] → va_S A s.heap H locs → lv_has ls 6 [(3, .int (nI kk_15)), (2, .int 0), (0, .ref p0), (1, .int p1)] → W p l e ({ frames := 3, cells := 0, slots := 0, locals := 83 }) s m args below meth c H locs 0 0 (MQ below (va_Qi (fun (r9 : Int32) (u9 : (Nat × (Nat → Nat))) => match u9.1 with | 0 => (p1.toInt < 1) ∧ r9 = (-1) | 1 => (1 ≤ p1.toInt) ∧ (40 < p1.toInt) ∧ r9 = (-1) | 2 => (1 ≤ p1.toInt) ∧ (p1.toInt ≤ 40) ∧ (p1.toInt ≤ 9999) ∧ r9 = 0 | _ => False) (fun u => k_B (dC, dI) vwCl (tyy cI cJ cZ cM) A ((fun (u9 : (Nat × (Nat → Nat))) => match u9.1 with | 0 => [(p0, .inr (7, oM p2 i7 j7)), ((p2 48), .inl (cI, 6, .inl (upd (fun _ => 0) 3 1))), ((p2 52), .inl (cI, 22, .inl (fun _ => 0))), ((p2 49), .inl (cI, 22, .inl (fun _ => 0))), ((p2 50), .inl (cI, 22, .inl (fun _ => 0))), ((p2 51), .inl (cI, 22, .inl (fun _ => 0))), ((p2 53), .inl (cI, 22, .inl (fun _ => 0))), ((p2 14), .inl (cI, 2, .inl (fun _ => 0))), ((p2 31), .inl (cI, 2, .inl (fun _ => 0))), ((p2 18), .inl (cI, 2, .inl (fun _ => 0)))] | 1 => [(p0, .inr (7, oM p2 i7 j7)), ((p2 48), .inl (cI, 6, .inl (upd (fun _ => 0) 3 1))), ((p2 52), .inl (cI, 22, .inl (fun _ => 0))), ((p2 49), .inl (cI, 22, .inl (fun _ => 0))), ((p2 50), .inl (cI, 22, .inl (fun _ => 0))), ((p2 51), .inl (cI, 22, .inl (fun _ => 0))), ((p2 53), .inl (cI, 22, .inl (fun _ => 0))), ((p2 14), .inl (cI, 2, .inl (fun _ => 0))), ((p2 31), .inl (cI, 2, .inl (fun _ => 0))), ((p2 18), .inl (cI, 2, .inl (fun _ => 0)))] | 2 => [((p2 48), .inl (cI, 6, .inl (fun _ => 0))), ((p2 53), .inl (cI, 22, .inl (upd (fun _ => 0) 2 0))), ((p2 14), .inl (cI, 2, .inl (fun _ => 0))), ((p2 31), .inl (cI, 2, .inl (fun _ => 0))), ((p2 18), .inl (cI, 2, .inl (fun _ => 0)))] | _ => []) u)) A) args s 0 0 A) (F0 m 38 ls []) := by
        intro n_k_15
        induction n_k_15 with
        | zero => intro kk_15 jk_15 f0k_15 f1k_15 f2k_15 f3k_15 h2k_15 g0k_15 g1k_15 g2k_15 g3k_15 hn_k_15; exact absurd hn_k_15 (Nat.not_lt_zero _)
        | succ n_k_15 ih_k_15 =>
          intro kk_15 jk_15 f0k_15 f1k_15 f2k_15 f3k_15 h2k_15 g0k_15 g1k_15 g2k_15 g3k_15 hn_k_15 H locs ls hP hD hS hl
          refine lv_iload_n hx hb dX7_days_38 rfl (lv_at hl 0 rfl) ?_
          refine lv_iload_n hx hb dX7_days_39 rfl (lv_at hl 3 rfl) ?_
          refine lv_icmp_ge (tgt := 92) hx hb dX7_days_40 (by decide) (fun c_16 => ?_) (fun c_16 => ?_)
          · have c_16 : p1.toInt ≤ ((kk_15 : Nat) : Int) := k_leT rfl (nI_toInt (by omega)) c_16
            refine lv_iload_n hx hb dX7_days_92 rfl (lv_at hl 1 rfl) ?_
            exact k_ri B hP hD hS dX7_days_93 (2, (fun _ => 0)) [0, 9, 1, 2, 3] rfl rfl rfl (Nat.le_of_ble_eq_true rfl) (Nat.le_of_ble_eq_true rfl) ⟨c_6, c_7, c_12, rfl⟩
          · have c_16 : ((kk_15 : Nat) : Int) < p1.toInt := k_leF rfl (nI_toInt (by omega)) c_16
            refine lv_aload_n hx hb dX7_days_43 rfl (lv_at hl 2 rfl) ?_
            refine lv_iconst (v := 4) hx hb dX7_days_44 (by decide +kernel) ?_
            refine k_ci (wc := [(p0, .inr (7, oM p2 (upd i7 59 1) (vp_updL j7 60 jk_15)))]) (wr := [((p2 48), .inl (cI, 6, .inl (fun _ => 0))), ((p2 14), .inl (cI, 2, .inl (fun _ => 0))), ((p2 31), .inl (cI, 2, .inl (fun _ => 0))), ((p2 18), .inl (cI, 2, .inl (fun _ => 0))), ((p2 49), .inl (cI, 22, .inl f0k_15)), ((p2 50), .inl (cI, 22, .inl f1k_15)), ((p2 51), .inl (cI, 22, .inl f2k_15)), ((p2 52), .inl (cI, 22, .inl f3k_15)), ((p2 53), .inl (cI, 22, .inl (upd (fun _ => 0) 2 0)))]) (fun hPc hDc => va_runV (As := [.int 4]) (rest := []) ⟨hx, hb, hml, hown, hts⟩ (c_X7_draw_v0 l dC dI cI cJ cZ cM p0 p2 jk_15 H.size) (cwV 1 hts gX7_days_X7_draw rfl rfl rfl (by decide +kernel) ⟨(Nat.le_of_ble_eq_true rfl), (Nat.le_of_ble_eq_true rfl)⟩) (k_pV hPc hDc hK hN hP (q0 := 4) (ci := 7) rfl rfl) rfl rfl hl.1 rfl (lv_room (Nat.le_of_ble_eq_true rfl)) dX7_days_45 ⟨(Nat.le_of_ble_eq_true rfl), (Nat.le_of_ble_eq_true rfl)⟩) hP hD hS hA [4] [0, 1, 2, 3, 5, 6, 7, 8, 9] rfl rfl rfl rfl (by decide) (fun _ => rfl) 0 0 rfl rfl (fun r_17 u_18 H locs hw hP hD hS => ?_)
            obtain rfl : r_17 = ((((((1103515245 * jk_15) + 12345) - ((1103515245 * jk_15) + 12345) / 2147483648 * 2147483648) / 64) - ((((1103515245 * jk_15) + 12345) - ((1103515245 * jk_15) + 12345) / 2147483648 * 2147483648) / 64) / 4 * 4).toInt32) := hw
            have hP : va_P (dC, dI) vwCl [((p2 48), .inl (cI, 6, .inl (fun _ => 0))), ((p2 14), .inl (cI, 2, .inl (fun _ => 0))), ((p2 31), .inl (cI, 2, .inl (fun _ => 0))), ((p2 18), .inl (cI, 2, .inl (fun _ => 0))), ((p2 49), .inl (cI, 22, .inl f0k_15)), ((p2 50), .inl (cI, 22, .inl f1k_15)), ((p2 51), .inl (cI, 22, .inl f2k_15)), ((p2 52), .inl (cI, 22, .inl f3k_15)), ((p2 53), .inl (cI, 22, .inl (upd (fun _ => 0) 2 0))), (p0, .inr (7, oM p2 (upd i7 59 1) (vp_updL j7 60 (((1103515245 * jk_15) + 12345) - ((1103515245 * jk_15) + 12345) / 2147483648 * 2147483648))))] H := hP
            have hD : va_D A [((p2 48), .inl (cI, 6, .inl (fun _ => 0))), ((p2 14), .inl (cI, 2, .inl (fun _ => 0))), ((p2 31), .inl (cI, 2, .inl (fun _ => 0))), ((p2 18), .inl (cI, 2, .inl (fun _ => 0))), ((p2 49), .inl (cI, 22, .inl f0k_15)), ((p2 50), .inl (cI, 22, .inl f1k_15)), ((p2 51), .inl (cI, 22, .inl f2k_15)), ((p2 52), .inl (cI, 22, .inl f3k_15)), ((p2 53), .inl (cI, 22, .inl (upd (fun _ => 0) 2 0))), (p0, .inr (7, oM p2 (upd i7 59 1) (vp_updL j7 60 (((1103515245 * jk_15) + 12345) - ((1103515245 * jk_15) + 12345) / 2147483648 * 2147483648))))] := hD
            refine lv_istore (lv' := [(4, .int ((((((1103515245 * jk_15) + 12345) - ((1103515245 * jk_15) + 12345) / 2147483648 * 2147483648) / 64) - ((((1103515245 * jk_15) + 12345) - ((1103515245 * jk_15) + 12345) / 2147483648 * 2147483648) / 64) / 4 * 4).toInt32)), (3, .int (nI kk_15)), (2, .int 0), (0, .ref p0), (1, .int p1)]) hx hb dX7_days_48 hl (by decide) rfl (fun ls hl => ?_)
            refine lv_iconst (v := 0) hx hb dX7_days_50 (by decide +kernel) ?_
            refine lv_istore (lv' := [(5, .int 0), (4, .int ((((((1103515245 * jk_15) + 12345) - ((1103515245 * jk_15) + 12345) / 2147483648 * 2147483648) / 64) - ((((1103515245 * jk_15) + 12345) - ((1103515245 * jk_15) + 12345) / 2147483648 * 2147483648) / 64) / 4 * 4).toInt32)), (3, .int (nI kk_15)), (2, .int 0), (0, .ref p0), (1, .int p1)]) hx hb dX7_days_51 hl (by decide) rfl (fun ls hl => ?_)
            have loop_k_19 : ∀ (n_k_19 : Nat) (ik_19 : Int32) (ok_19 : Int32)  (hn_k_19 : (ok_19.toInt - ik_19.toInt).toNat < n_k_19) (H : Heap) (locs : List Loc) (ls : Array Slot), va_P (dC, dI) vwCl [((p2 48), .inl (cI, 6, .inl (fun _ => 0))), ((p2 14), .inl (cI, 2, .inl (fun _ => 0))), ((p2 31), .inl (cI, 2, .inl (fun _ => 0))), ((p2 18), .inl (cI, 2, .inl (fun _ => 0))), ((p2 49), .inl (cI, 22, .inl f0k_15)), ((p2 50), .inl (cI, 22, .inl f1k_15)), ((p2 51), .inl (cI, 22, .inl f2k_15)), ((p2 52), .inl (cI, 22, .inl f3k_15)), ((p2 53), .inl (cI, 22, .inl (upd (fun _ => 0) 2 0))), (p0, .inr (7, oM p2 (upd i7 59 1) (vp_updL j7 60 (((1103515245 * jk_15) + 12345) - ((1103515245 * jk_15) + 12345) / 2147483648 * 2147483648))))] H → va_D A [((p2 48), .inl (cI, 6, .inl (fun _ => 0))), ((p2 14), .inl (cI, 2, .inl (fun _ => 0))), ((p2 31), .inl (cI, 2, .inl (fun _ => 0))), ((p2 18), .inl (cI, 2, .inl (fun _ => 0))), ((p2 49), .inl (cI, 22, .inl f0k_15)), ((p2 50), .inl (cI, 22, .inl f1k_15)), ((p2 51), .inl (cI, 22, .inl f2k_15)), ((p2 52), .inl (cI, 22, .inl f3k_15)), ((p2 53), .inl (cI, 22, .inl (upd (fun _ => 0) 2 0))), (p0, .inr (7, oM p2 (upd i7 59 1) (vp_updL j7 60 (((1103515245 * jk_15) + 12345) - ((1103515245 * jk_15) + 12345) / 2147483648 * 2147483648))))] → va_S A s.heap H locs → lv_has ls 6 [(5, .int ik_19), (4, .int ok_19), (3, .int (nI kk_15)), (2, .int 0), (0, .ref p0), (1, .int p1)] → W p l e ({ frames := 3, cells := 0, slots := 0, locals := 83 }) s m args below meth c H locs 0 0 (MQ below (va_Qi (fun (r9 : Int32) (u9 : (Nat × (Nat → Nat))) => match u9.1 with | 0 => (p1.toInt < 1) ∧ r9 = (-1) | 1 => (1 ≤ p1.toInt) ∧ (40 < p1.toInt) ∧ r9 = (-1) | 2 => (1 ≤ p1.toInt) ∧ (p1.toInt ≤ 40) ∧ (p1.toInt ≤ 9999) ∧ r9 = 0 | _ => False) (fun u => k_B (dC, dI) vwCl (tyy cI cJ cZ cM) A ((fun (u9 : (Nat × (Nat → Nat))) => match u9.1 with | 0 => [(p0, .inr (7, oM p2 i7 j7)), ((p2 48), .inl (cI, 6, .inl (upd (fun _ => 0) 3 1))), ((p2 52), .inl (cI, 22, .inl (fun _ => 0))), ((p2 49), .inl (cI, 22, .inl (fun _ => 0))), ((p2 50), .inl (cI, 22, .inl (fun _ => 0))), ((p2 51), .inl (cI, 22, .inl (fun _ => 0))), ((p2 53), .inl (cI, 22, .inl (fun _ => 0))), ((p2 14), .inl (cI, 2, .inl (fun _ => 0))), ((p2 31), .inl (cI, 2, .inl (fun _ => 0))), ((p2 18), .inl (cI, 2, .inl (fun _ => 0)))] | 1 => [(p0, .inr (7, oM p2 i7 j7)), ((p2 48), .inl (cI, 6, .inl (upd (fun _ => 0) 3 1))), ((p2 52), .inl (cI, 22, .inl (fun _ => 0))), ((p2 49), .inl (cI, 22, .inl (fun _ => 0))), ((p2 50), .inl (cI, 22, .inl (fun _ => 0))), ((p2 51), .inl (cI, 22, .inl (fun _ => 0))), ((p2 53), .inl (cI, 22, .inl (fun _ => 0))), ((p2 14), .inl (cI, 2, .inl (fun _ => 0))), ((p2 31), .inl (cI, 2, .inl (fun _ => 0))), ((p2 18), .inl (cI, 2, .inl (fun _ => 0)))] | 2 => [((p2 48), .inl (cI, 6, .inl (fun _ => 0))), ((p2 53), .inl (cI, 22, .inl (upd (fun _ => 0) 2 0))), ((p2 14), .inl (cI, 2, .inl (fun _ => 0))), ((p2 31), .inl (cI, 2, .inl (fun _ => 0))), ((p2 18), .inl (cI, 2, .inl (fun _ => 0)))] | _ => []) u)) A) args s 0 0 A) (F0 m 53 ls []) := by
              intro n_k_19
              induction n_k_19 with
              | zero => intro ik_19 ok_19  hn_k_19; exact absurd hn_k_19 (Nat.not_lt_zero _)
              | succ n_k_19 ih_k_19 =>
                intro ik_19 ok_19  hn_k_19 H locs ls hP hD hS hl
                refine lv_iload hx hb dX7_days_53 (lv_at hl 0 rfl) ?_
                refine lv_iload hx hb dX7_days_55 (lv_at hl 1 rfl) ?_
                refine lv_icmp_ge (tgt := 81) hx hb dX7_days_57 (by decide) (fun c_20 => ?_) (fun c_20 => ?_)
                · have c_20 : ok_19.toInt ≤ ik_19.toInt := k_leT rfl rfl c_20
                  refine lv_aload_n hx hb dX7_days_81 rfl (lv_at hl 4 rfl) ?_
                  refine lv_iconst (v := 0) hx hb dX7_days_82 (by decide +kernel) ?_
                  refine k_cv (wc := [(p0, .inr (7, oM p2 (upd i7 59 1) (vp_updL j7 60 (((1103515245 * jk_15) + 12345) - ((1103515245 * jk_15) + 12345) / 2147483648 * 2147483648)))), ((p2 49), .inl (cI, 22, .inl f0k_15)), ((p2 14), .inl (cI, 2, .inl (fun _ => 0))), ((p2 50), .inl (cI, 22, .inl f1k_15)), ((p2 31), .inl (cI, 2, .inl (fun _ => 0))), ((p2 51), .inl (cI, 22, .inl f2k_15)), ((p2 52), .inl (cI, 22, .inl f3k_15))]) (wr := [((p2 48), .inl (cI, 6, .inl (fun _ => 0))), ((p2 18), .inl (cI, 2, .inl (fun _ => 0))), ((p2 53), .inl (cI, 22, .inl (upd (fun _ => 0) 2 0)))]) (fun hPc hDc => va_runV (As := [.int 0]) (rest := []) ⟨hx, hb, hml, hown, hts⟩ (c_X7_dayEnds_v1 l dC dI cI cJ cZ cM p0 p2 jk_15 f0k_15 f1k_15 f2k_15 f3k_15 kk_15 g0k_15 g1k_15 g2k_15 g3k_15 H.size) (cwV 1 hts gX7_days_X7_dayEnds rfl rfl rfl (by decide +kernel) ⟨(Nat.le_of_ble_eq_true rfl), (Nat.le_of_ble_eq_true rfl)⟩) (k_pV hPc hDc hK hN hP (q0 := 9) (ci := 7) rfl rfl) rfl rfl hl.1 rfl (lv_room (Nat.le_of_ble_eq_true rfl)) dX7_days_83 ⟨(Nat.le_of_ble_eq_true rfl), (Nat.le_of_ble_eq_true rfl)⟩) hP hD hS hA [9, 4, 1, 5, 2, 6, 7] [0, 3, 8] rfl rfl rfl rfl (by decide) (fun _ => rfl) 0 0 rfl rfl (fun u_22 H locs hw hP hD hS => ?_)
                  have hP : va_P (dC, dI) vwCl [((p2 48), .inl (cI, 6, .inl (fun _ => 0))), ((p2 18), .inl (cI, 2, .inl (fun _ => 0))), ((p2 53), .inl (cI, 22, .inl (upd (fun _ => 0) 2 0))), (p0, .inr (7, oM p2 (upd i7 59 1) (vp_updL j7 60 (((1103515245 * jk_15) + 12345) - ((1103515245 * jk_15) + 12345) / 2147483648 * 2147483648)))), ((p2 49), .inl (cI, 22, .inl (upd f0k_15 0 0))), ((p2 14), .inl (cI, 2, .inl (fun _ => 0))), ((p2 50), .inl (cI, 22, .inl (upd f1k_15 0 0))), ((p2 31), .inl (cI, 2, .inl (fun _ => 0))), ((p2 51), .inl (cI, 22, .inl (upd f2k_15 0 0))), ((p2 52), .inl (cI, 22, .inl (upd f3k_15 0 (nI (kk_15 + 1)))))] H := hP
                  have hD : va_D A [((p2 48), .inl (cI, 6, .inl (fun _ => 0))), ((p2 18), .inl (cI, 2, .inl (fun _ => 0))), ((p2 53), .inl (cI, 22, .inl (upd (fun _ => 0) 2 0))), (p0, .inr (7, oM p2 (upd i7 59 1) (vp_updL j7 60 (((1103515245 * jk_15) + 12345) - ((1103515245 * jk_15) + 12345) / 2147483648 * 2147483648)))), ((p2 49), .inl (cI, 22, .inl (upd f0k_15 0 0))), ((p2 14), .inl (cI, 2, .inl (fun _ => 0))), ((p2 50), .inl (cI, 22, .inl (upd f1k_15 0 0))), ((p2 31), .inl (cI, 2, .inl (fun _ => 0))), ((p2 51), .inl (cI, 22, .inl (upd f2k_15 0 0))), ((p2 52), .inl (cI, 22, .inl (upd f3k_15 0 (nI (kk_15 + 1)))))] := hD
                  refine lv_iinc (v := (nI (kk_15 + 1))) (lv' := [(3, .int (nI (kk_15 + 1))), (5, .int ik_19), (4, .int ok_19), (2, .int 0), (0, .ref p0), (1, .int p1)]) hx hb dX7_days_86 hl (k := 2) rfl (nI_1 _) (by decide) rfl (fun ls hl => ?_)
                  refine lv_goto (tgt := 38) hx hb dX7_days_89 (by decide) ?_
                  exact ih_k_15 (kk_15 + 1) (((1103515245 * jk_15) + 12345) - ((1103515245 * jk_15) + 12345) / 2147483648 * 2147483648) (upd f0k_15 0 0) (upd f1k_15 0 0) (upd f2k_15 0 0) (upd f3k_15 0 (nI (kk_15 + 1))) (by omega) rfl rfl rfl rfl (by omega) H locs ls (hP.sub [0, 5, 7, 1, 3, 4, 6, 8, 9, 2] rfl) (hD.sub [0, 5, 7, 1, 3, 4, 6, 8, 9, 2] (by decide) rfl) hS (lv_sub hl [0, 3, 4, 5] rfl)
                · have c_20 : ik_19.toInt < ok_19.toInt := k_leF rfl rfl c_20
                  refine lv_iload_n hx hb dX7_days_60 rfl (lv_at hl 3 rfl) ?_
                  refine lv_aload_n hx hb dX7_days_61 rfl (lv_at hl 4 rfl) ?_
                  refine k_ci (wc := [(p0, .inr (7, oM p2 (upd i7 59 1) (vp_updL j7 60 (((1103515245 * jk_15) + 12345) - ((1103515245 * jk_15) + 12345) / 2147483648 * 2147483648)))), ((p2 18), .inl (cI, 2, .inl (fun _ => 0)))]) (wr := [((p2 48), .inl (cI, 6, .inl (fun _ => 0))), ((p2 14), .inl (cI, 2, .inl (fun _ => 0))), ((p2 31), .inl (cI, 2, .inl (fun _ => 0))), ((p2 49), .inl (cI, 22, .inl f0k_15)), ((p2 50), .inl (cI, 22, .inl f1k_15)), ((p2 51), .inl (cI, 22, .inl f2k_15)), ((p2 52), .inl (cI, 22, .inl f3k_15)), ((p2 53), .inl (cI, 22, .inl (upd (fun _ => 0) 2 0)))]) (fun hPc hDc => va_runV (As := []) (rest := [.int 0]) ⟨hx, hb, hml, hown, hts⟩ (c_X7_saysSome_v0 l dC dI cI cJ cZ cM p0 p2 jk_15 H.size) (cwV 0 hts gX7_days_X7_saysSome rfl rfl rfl (by decide +kernel) ⟨(Nat.le_of_ble_eq_true rfl), (Nat.le_of_ble_eq_true rfl)⟩) (k_pV hPc hDc hK hN hP (q0 := 9) (ci := 7) rfl rfl) rfl rfl hl.1 rfl (lv_room (Nat.le_of_ble_eq_true rfl)) dX7_days_62 ⟨(Nat.le_of_ble_eq_true rfl), (Nat.le_of_ble_eq_true rfl)⟩) hP hD hS hA [9, 3] [0, 1, 2, 4, 5, 6, 7, 8] rfl rfl rfl rfl (by decide) (fun _ => rfl) 0 0 rfl rfl (fun r_23 u_24 H locs hw hP hD hS => ?_)
                  obtain rfl : r_23 = 0 := hw
                  have hP : va_P (dC, dI) vwCl [((p2 48), .inl (cI, 6, .inl (fun _ => 0))), ((p2 14), .inl (cI, 2, .inl (fun _ => 0))), ((p2 31), .inl (cI, 2, .inl (fun _ => 0))), ((p2 49), .inl (cI, 22, .inl f0k_15)), ((p2 50), .inl (cI, 22, .inl f1k_15)), ((p2 51), .inl (cI, 22, .inl f2k_15)), ((p2 52), .inl (cI, 22, .inl f3k_15)), ((p2 53), .inl (cI, 22, .inl (upd (fun _ => 0) 2 0))), (p0, .inr (7, oM p2 (upd i7 59 1) (vp_updL j7 60 (((1103515245 * jk_15) + 12345) - ((1103515245 * jk_15) + 12345) / 2147483648 * 2147483648)))), ((p2 18), .inl (cI, 2, .inl (fun _ => 0)))] H := hP
                  have hD : va_D A [((p2 48), .inl (cI, 6, .inl (fun _ => 0))), ((p2 14), .inl (cI, 2, .inl (fun _ => 0))), ((p2 31), .inl (cI, 2, .inl (fun _ => 0))), ((p2 49), .inl (cI, 22, .inl f0k_15)), ((p2 50), .inl (cI, 22, .inl f1k_15)), ((p2 51), .inl (cI, 22, .inl f2k_15)), ((p2 52), .inl (cI, 22, .inl f3k_15)), ((p2 53), .inl (cI, 22, .inl (upd (fun _ => 0) 2 0))), (p0, .inr (7, oM p2 (upd i7 59 1) (vp_updL j7 60 (((1103515245 * jk_15) + 12345) - ((1103515245 * jk_15) + 12345) / 2147483648 * 2147483648)))), ((p2 18), .inl (cI, 2, .inl (fun _ => 0)))] := hD
                  refine lv_if_eq (tgt := 72) hx hb dX7_days_65 (by decide) (fun _ => ?_) (fun q9 => absurd q9 (by decide +kernel))
                  refine lv_iconst (v := 0) hx hb dX7_days_72 (by decide +kernel) ?_
                  refine lv_iadd hx hb dX7_days_73 ?_
                  refine k_int (v := 0) (by decide +kernel) ?_
                  refine lv_istore_n (lv' := [(2, .int 0), (5, .int ik_19), (4, .int ok_19), (3, .int (nI kk_15)), (0, .ref p0), (1, .int p1)]) hx hb dX7_days_74 rfl hl (by decide) rfl (fun ls hl => ?_)
                  refine lv_iinc (v := (ik_19 + 1)) (lv' := [(5, .int (ik_19 + 1)), (2, .int 0), (4, .int ok_19), (3, .int (nI kk_15)), (0, .ref p0), (1, .int p1)]) hx hb dX7_days_75 hl (k := 1) rfl rfl (by decide) rfl (fun ls hl => ?_)
                  refine lv_goto (tgt := 53) hx hb dX7_days_78 (by decide) ?_
                  have inc_k_19 := k_inc (x := ik_19) (y := ok_19) (by omega)
                  exact ih_k_19 (ik_19 + 1) ok_19  (by omega) H locs ls (hP.sub [0, 1, 2, 9, 3, 4, 5, 6, 7, 8] rfl) (hD.sub [0, 1, 2, 9, 3, 4, 5, 6, 7, 8] (by decide) rfl) hS (lv_sub hl [0, 2, 3, 1, 4, 5] rfl)
            exact loop_k_19 _ 0 ((((((1103515245 * jk_15) + 12345) - ((1103515245 * jk_15) + 12345) / 2147483648 * 2147483648) / 64) - ((((1103515245 * jk_15) + 12345) - ((1103515245 * jk_15) + 12345) / 2147483648 * 2147483648) / 64) / 4 * 4).toInt32)  (Nat.lt_succ_self _) H locs ls hP hD hS hl
      exact loop_k_15 _ 0 1 (upd (fun _ => 0) 2 0) (upd (fun _ => 0) 2 0) (upd (fun _ => 0) 2 0) (upd (fun _ => 0) 2 0) (by omega) rfl rfl rfl rfl (Nat.lt_succ_self _) H locs ls hP hD hS hl
    · have c_12 : 9999 < p1.toInt := k_leF rfl (by decide +kernel) c_12
      exfalso; omega
  · exact False.elim hw
set_option maxHeartbeats 4000000 in
set_option maxRecDepth 100000 in
theorem c_X7_is_v6 (l : Launch) (dC : Nat → ClassId) (dI : Nat → Nat → Nat) (cI cJ cZ cM : ClassId) (p0 : Int32)   : k_Mi l yX7_is wsX7_is ({ frames := 1, cells := 0, slots := 0, locals := 40 }) (dC, dI) vwCl (tyy cI cJ cZ cM) [] [.int p0, .int 0, .int 8] 0 0 (fun (u9 : (Nat × (Nat → Nat))) => []) (fun (r9 : Int32) (u9 : (Nat × (Nat → Nat))) => match u9.1 with | 0 => (p0.toInt < 0) ∧ r9 = 0 | 1 => (0 ≤ p0.toInt) ∧ (8 < p0.toInt) ∧ r9 = 0 | 2 => (0 ≤ p0.toInt) ∧ (p0.toInt ≤ 8) ∧ r9 = 1 | _ => False) := by
  refine fun sz => k_enter (cc := cX7_is) (maxL := 3) (ret := some (.boolean)) (Qc := fun A => va_Qi (fun (r9 : Int32) (u9 : (Nat × (Nat → Nat))) => match u9.1 with | 0 => (p0.toInt < 0) ∧ r9 = 0 | 1 => (0 ≤ p0.toInt) ∧ (8 < p0.toInt) ∧ r9 = 0 | 2 => (0 ≤ p0.toInt) ∧ (p0.toInt ≤ 8) ∧ r9 = 1 | _ => False) (fun u => k_B (dC, dI) vwCl (tyy cI cJ cZ cM) A ((fun (u9 : (Nat × (Nat → Nat))) => []) u)) A) sz (by decide +kernel) rfl (Nat.le_of_ble_eq_true rfl) (fun p e s m args below meth c A ls H B hP hD hS hl => ?_)
  obtain ⟨hx, hb, hml, hown, hts, hr, hlk, hnm, hK, hA, hN⟩ := id B
  have hown : s.vm.findClass RX7 = some m.cls := hown
  have hl : lv_has ls 3 [(0, .int p0), (1, .int 0), (2, .int 8)] := hl
  refine lv_iload_n hx hb dX7_is_0 rfl (lv_at hl 0 rfl) ?_
  refine lv_iload_n hx hb dX7_is_1 rfl (lv_at hl 1 rfl) ?_
  refine lv_icmp_lt (tgt := 14) hx hb dX7_is_2 (by decide) (fun c_1 => ?_) (fun c_1 => ?_)
  · have c_1 : p0.toInt < 0 := k_ltT rfl (by decide +kernel) c_1
    refine lv_iconst (v := 0) hx hb dX7_is_14 (by decide +kernel) ?_
    exact k_ri B hP hD hS dX7_is_15 (0, (fun _ => 0)) [] rfl rfl rfl (Nat.le_of_ble_eq_true rfl) (Nat.le_of_ble_eq_true rfl) ⟨c_1, rfl⟩
  · have c_1 : 0 ≤ p0.toInt := k_ltF rfl (by decide +kernel) c_1
    refine lv_iload_n hx hb dX7_is_5 rfl (lv_at hl 0 rfl) ?_
    refine lv_iload_n hx hb dX7_is_6 rfl (lv_at hl 2 rfl) ?_
    refine lv_icmp_gt (tgt := 14) hx hb dX7_is_7 (by decide) (fun c_2 => ?_) (fun c_2 => ?_)
    · have c_2 : 8 < p0.toInt := k_ltT (by decide +kernel) rfl c_2
      refine lv_iconst (v := 0) hx hb dX7_is_14 (by decide +kernel) ?_
      exact k_ri B hP hD hS dX7_is_15 (1, (fun _ => 0)) [] rfl rfl rfl (Nat.le_of_ble_eq_true rfl) (Nat.le_of_ble_eq_true rfl) ⟨c_1, c_2, rfl⟩
    · have c_2 : p0.toInt ≤ 8 := k_ltF (by decide +kernel) rfl c_2
      refine lv_iconst (v := 1) hx hb dX7_is_10 (by decide +kernel) ?_
      refine lv_goto (tgt := 15) hx hb dX7_is_11 (by decide) ?_
      exact k_ri B hP hD hS dX7_is_15 (2, (fun _ => 0)) [] rfl rfl rfl (Nat.le_of_ble_eq_true rfl) (Nat.le_of_ble_eq_true rfl) ⟨c_1, c_2, rfl⟩
