set_option maxHeartbeats 4000000 in
set_option maxRecDepth 100000 in
theorem c_X7_is_v7 (l : Launch) (dC : Nat → ClassId) (dI : Nat → Nat → Nat) (cI cJ cZ cM : ClassId) (p0 : Int32)   : k_Mi l yX7_is wsX7_is ({ frames := 1, cells := 0, slots := 0, locals := 40 }) (dC, dI) vwCl (tyy cI cJ cZ cM) [] [.int p0, .int 0, .int 0] 0 0 (fun (u9 : (Nat × (Nat → Nat))) => []) (fun (r9 : Int32) (u9 : (Nat × (Nat → Nat))) => match u9.1 with | 0 => (p0.toInt < 0) ∧ r9 = 0 | 1 => (0 ≤ p0.toInt) ∧ (0 < p0.toInt) ∧ r9 = 0 | 2 => (0 ≤ p0.toInt) ∧ (p0.toInt ≤ 0) ∧ r9 = 1 | _ => False) := by
  refine fun sz => k_enter (cc := cX7_is) (maxL := 3) (ret := some (.boolean)) (Qc := fun A => va_Qi (fun (r9 : Int32) (u9 : (Nat × (Nat → Nat))) => match u9.1 with | 0 => (p0.toInt < 0) ∧ r9 = 0 | 1 => (0 ≤ p0.toInt) ∧ (0 < p0.toInt) ∧ r9 = 0 | 2 => (0 ≤ p0.toInt) ∧ (p0.toInt ≤ 0) ∧ r9 = 1 | _ => False) (fun u => k_B (dC, dI) vwCl (tyy cI cJ cZ cM) A ((fun (u9 : (Nat × (Nat → Nat))) => []) u)) A) sz (by decide +kernel) rfl (Nat.le_of_ble_eq_true rfl) (fun p e s m args below meth c A ls H B hP hD hS hl => ?_)
  obtain ⟨hx, hb, hml, hown, hts, hr, hlk, hnm, hK, hA, hN⟩ := id B
  have hown : s.vm.findClass RX7 = some m.cls := hown
  have hl : lv_has ls 3 [(0, .int p0), (1, .int 0), (2, .int 0)] := hl
  refine lv_iload_n hx hb dX7_is_0 rfl (lv_at hl 0 rfl) ?_
  refine lv_iload_n hx hb dX7_is_1 rfl (lv_at hl 1 rfl) ?_
  refine lv_icmp_lt (tgt := 14) hx hb dX7_is_2 (by decide) (fun c_1 => ?_) (fun c_1 => ?_)
  · have c_1 : p0.toInt < 0 := k_ltT rfl (by decide +kernel) c_1
    refine lv_iconst (v := 0) hx hb dX7_is_14 (by decide +kernel) ?_
    exact k_ri B hP hD hS dX7_is_15 (0, (fun _ => 0)) [] rfl rfl rfl (Nat.le_of_ble_eq_true rfl) (Nat.le_of_ble_eq_true rfl) ⟨c_1, rfl⟩
  · have c_1 : 0 ≤ p0.toInt := k_ltF rfl (by decide +kernel) c_1
    refine lv_iload_n hx hb dX7_is_5 rfl (lv_at hl 0 rfl) ?_
    refine lv_iload_n hx hb dX7_is_6 rfl (lv_at hl 2 rfl) ?_
    refine lv_icmp_gt (tgt := 14) hx hb dX7_is_7 (by decide) (fun c_2 => ?_) (fun c_2 => ?_)
    · have c_2 : 0 < p0.toInt := k_ltT (by decide +kernel) rfl c_2
      refine lv_iconst (v := 0) hx hb dX7_is_14 (by decide +kernel) ?_
      exact k_ri B hP hD hS dX7_is_15 (1, (fun _ => 0)) [] rfl rfl rfl (Nat.le_of_ble_eq_true rfl) (Nat.le_of_ble_eq_true rfl) ⟨c_1, c_2, rfl⟩
    · have c_2 : p0.toInt ≤ 0 := k_ltF (by decide +kernel) rfl c_2
      refine lv_iconst (v := 1) hx hb dX7_is_10 (by decide +kernel) ?_
      refine lv_goto (tgt := 15) hx hb dX7_is_11 (by decide) ?_
      exact k_ri B hP hD hS dX7_is_15 (2, (fun _ => 0)) [] rfl rfl rfl (Nat.le_of_ble_eq_true rfl) (Nat.le_of_ble_eq_true rfl) ⟨c_1, c_2, rfl⟩
set_option maxHeartbeats 4000000 in
set_option maxRecDepth 100000 in
theorem c_X7_finds_v0 (l : Launch) (dC : Nat → ClassId) (dI : Nat → Nat → Nat) (cI cJ cZ cM : ClassId) (p0 : Nat) (p1 : Int32) (p2 : Nat → Nat) (b_0 : 0 ≤ p1.toInt) (t_0 : p1.toInt ≤ 0)  : k_Mv l yX7_finds wsX7_finds ({ frames := 3, cells := 0, slots := 0, locals := 88 }) (dC, dI) vwCl (tyy cI cJ cZ cM) [(p0, .inr (7, oM p2 i7 j7)), ((p2 49), .inl (cI, 22, .inl (fun _ => 0))), ((p2 50), .inl (cI, 22, .inl (fun _ => 0))), ((p2 72), .inl (cI, 9216, .inl (fun _ => 0))), ((p2 14), .inl (cI, 2, .inl (fun _ => 0))), ((p2 18), .inl (cI, 2, .inl (fun _ => 0)))] [.ref p0, .int p1] 0 0 (fun (u9 : Unit) => [(p0, .inr (7, oM p2 (upd (upd i7 75 0) 76 0) j7)), ((p2 49), .inl (cI, 22, .inl (fun _ => 0))), ((p2 50), .inl (cI, 22, .inl (fun _ => 0))), ((p2 72), .inl (cI, 9216, .inl (upd (fun _ => (-1)) 0 0))), ((p2 14), .inl (cI, 2, .inl (fun _ => 0))), ((p2 18), .inl (cI, 2, .inl (fun _ => 0)))]) (fun (u9 : Unit) => True) := by
  refine fun sz => k_enter (cc := cX7_finds) (maxL := 5) (ret := none) (Qc := fun A => va_Qv (fun (u9 : Unit) => True) (fun u => k_B (dC, dI) vwCl (tyy cI cJ cZ cM) A ((fun (u9 : Unit) => [(p0, .inr (7, oM p2 (upd (upd i7 75 0) 76 0) j7)), ((p2 49), .inl (cI, 22, .inl (fun _ => 0))), ((p2 50), .inl (cI, 22, .inl (fun _ => 0))), ((p2 72), .inl (cI, 9216, .inl (upd (fun _ => (-1)) 0 0))), ((p2 14), .inl (cI, 2, .inl (fun _ => 0))), ((p2 18), .inl (cI, 2, .inl (fun _ => 0)))]) u)) A) sz (by decide +kernel) rfl (Nat.le_of_ble_eq_true rfl) (fun p e s m args below meth c A ls H B hP hD hS hl => ?_)
  obtain ⟨hx, hb, hml, hown, hts, hr, hlk, hnm, hK, hA, hN⟩ := id B
  have hown : s.vm.findClass RX7 = some m.cls := hown
  have hl : lv_has ls 5 [(0, .ref p0), (1, .int p1)] := hl
  have w_0 : (Cond.fieldLink RX7 240 "WishSeaModel" "foundRung" "I").before args s = true := hts _ (List.mem_of_getElem? (i := 1) rfl)
  have w_1 : (Cond.fieldLink RX7 54 "WishSeaModel" "things" "[I").before args s = true := hts _ (List.mem_of_getElem? (i := 2) rfl)
  have w_2 : (Cond.fieldLink RX7 51 "WishSeaModel" "bank" "I").before args s = true := hts _ (List.mem_of_getElem? (i := 3) rfl)
  have w_3 : (Cond.fieldLink RX7 231 "WishSeaModel" "rungSea" "[I").before args s = true := hts _ (List.mem_of_getElem? (i := 4) rfl)
  have w_4 : (Cond.fieldLink RX7 243 "WishSeaModel" "foundSet" "I").before args s = true := hts _ (List.mem_of_getElem? (i := 5) rfl)
  have hinX7 : ∀ w ∈ u_ws RX7 TX7 92, w ∈ wsX7_finds := fun _ h => List.mem_cons_of_mem _ (List.mem_append_right _ h)
  rcases (show p1.toInt = 0 by omega) with c_1
  obtain rfl : p1 = 0 := k_eqL (by decide +kernel) c_1
  refine lv_aload_n hx hb dX7_finds_0 rfl (lv_at hl 0 rfl) ?_
  refine k_cv (wc := [(p0, .inr (7, oM p2 i7 j7)), ((p2 49), .inl (cI, 22, .inl (fun _ => 0))), ((p2 50), .inl (cI, 22, .inl (fun _ => 0))), ((p2 72), .inl (cI, 9216, .inl (fun _ => 0))), ((p2 14), .inl (cI, 2, .inl (fun _ => 0))), ((p2 18), .inl (cI, 2, .inl (fun _ => 0)))]) (wr := []) (fun hPc hDc => va_runV (As := []) (rest := []) ⟨hx, hb, hml, hown, hts⟩ (c_X7_climbs_v0 l dC dI cI cJ cZ cM p0 p2 H.size) (cwV 0 hts gX7_finds_X7_climbs rfl rfl rfl (by decide +kernel) ⟨(Nat.le_of_ble_eq_true rfl), (Nat.le_of_ble_eq_true rfl)⟩) (k_pV hPc hDc hK hN hP (q0 := 0) (ci := 7) rfl rfl) rfl rfl hl.1 rfl (lv_room (Nat.le_of_ble_eq_true rfl)) dX7_finds_1 ⟨(Nat.le_of_ble_eq_true rfl), (Nat.le_of_ble_eq_true rfl)⟩) hP hD hS hA [0, 1, 2, 3, 4, 5] [] rfl rfl rfl rfl (by decide) (fun _ => rfl) 0 0 rfl rfl (fun u_3 H locs hw hP hD hS => ?_)
  have hP : va_P (dC, dI) vwCl [(p0, .inr (7, oM p2 i7 j7)), ((p2 49), .inl (cI, 22, .inl (fun _ => 0))), ((p2 50), .inl (cI, 22, .inl (fun _ => 0))), ((p2 72), .inl (cI, 9216, .inl (upd (fun _ => (-1)) 0 0))), ((p2 14), .inl (cI, 2, .inl (fun _ => 0))), ((p2 18), .inl (cI, 2, .inl (fun _ => 0)))] H := hP
  have hD : va_D A [(p0, .inr (7, oM p2 i7 j7)), ((p2 49), .inl (cI, 22, .inl (fun _ => 0))), ((p2 50), .inl (cI, 22, .inl (fun _ => 0))), ((p2 72), .inl (cI, 9216, .inl (upd (fun _ => (-1)) 0 0))), ((p2 14), .inl (cI, 2, .inl (fun _ => 0))), ((p2 18), .inl (cI, 2, .inl (fun _ => 0)))] := hD
  refine lv_aload_n hx hb dX7_finds_4 rfl (lv_at hl 0 rfl) ?_
  refine lv_iconst (v := (-1)) hx hb dX7_finds_5 (by decide +kernel) ?_
  refine k_put (D := (dC, dI)) (ci := 7) (v := .int (-1)) (C := RX7) (T := TX7) (N := 92) (ws' := [(p0, .inr (7, oM p2 (upd i7 75 (-1)) j7)), ((p2 49), .inl (cI, 22, .inl (fun _ => 0))), ((p2 50), .inl (cI, 22, .inl (fun _ => 0))), ((p2 72), .inl (cI, 9216, .inl (upd (fun _ => (-1)) 0 0))), ((p2 14), .inl (cI, 2, .inl (fun _ => 0))), ((p2 18), .inl (cI, 2, .inl (fun _ => 0)))]) hx hb hts hinX7 tyX7 tyX7_ok nmX7 hown hK hP hD hS 0 rfl rfl 75 (by decide) w_0 rfl rfl rfl rfl (Nat.le_of_ble_eq_true rfl) rfl dX7_finds_6 (fun H locs hP hD hS => ?_)
  refine lv_iconst (v := 0) hx hb dX7_finds_9 (by decide +kernel) ?_
  refine lv_istore_n (lv' := [(2, .int 0), (0, .ref p0), (1, .int 0)]) hx hb dX7_finds_10 rfl hl (by decide) rfl (fun ls hl => ?_)
  refine lv_iload_n hx hb dX7_finds_11 rfl (lv_at hl 0 rfl) ?_
  refine lv_bipush (v := 8) hx hb dX7_finds_12 (by decide +kernel) ?_
  refine lv_icmp_gt (tgt := 129) hx hb dX7_finds_14 (by decide) (fun q9 => absurd q9 (by decide +kernel)) (fun _ => ?_)
  refine lv_aload_n hx hb dX7_finds_17 rfl (lv_at hl 1 rfl) ?_
  refine k_get (D := (dC, dI)) (ci := 7) (v := .int (-1)) (C := RX7) (T := TX7) (N := 92) hx hb hts hinX7 hown hK hP 0 rfl rfl 75 (by decide) w_0 rfl rfl dX7_finds_18 ?_
  refine lv_iconst (v := (-1)) hx hb dX7_finds_21 (by decide +kernel) ?_
  refine lv_icmp_ne (tgt := 129) hx hb dX7_finds_22 (by decide) (fun q9 => absurd q9 (by decide +kernel)) (fun _ => ?_)
  refine lv_iconst (v := 0) hx hb dX7_finds_25 (by decide +kernel) ?_
  refine lv_istore_n (lv' := [(3, .int 0), (2, .int 0), (0, .ref p0), (1, .int 0)]) hx hb dX7_finds_26 rfl hl (by decide) rfl (fun ls hl => ?_)
  refine lv_iload_n hx hb dX7_finds_27 rfl (lv_at hl 0 rfl) ?_
  refine lv_iconst (v := 1) hx hb dX7_finds_28 (by decide +kernel) ?_
  refine lv_aload_n hx hb dX7_finds_29 rfl (lv_at hl 2 rfl) ?_
  refine k_get (D := (dC, dI)) (ci := 7) (v := .ref (p2 14)) (C := RX7) (T := TX7) (N := 92) hx hb hts hinX7 hown hK hP 0 rfl rfl 14 (by decide) w_1 rfl rfl dX7_finds_30 ?_
  refine lv_aload_n hx hb dX7_finds_33 rfl (lv_at hl 2 rfl) ?_
  refine k_get (D := (dC, dI)) (ci := 7) (v := .int 0) (C := RX7) (T := TX7) (N := 92) hx hb hts hinX7 hown hK hP 0 rfl rfl 13 (by decide) w_2 rfl rfl dX7_finds_34 ?_
  refine k_iald (v := 0) hx hb hK hP 4 0 0 rfl rfl rfl (Nat.le_of_ble_eq_true rfl) (Nat.le_of_ble_eq_true rfl) rfl dX7_finds_37 ?_
  refine lv_ishl hx hb dX7_finds_38 ?_
  refine k_int (v := 1) (by decide +kernel) ?_
  refine lv_icmp_ge (tgt := 123) hx hb dX7_finds_39 (by decide) (fun q9 => absurd q9 (by decide +kernel)) (fun _ => ?_)
  refine lv_aload_n hx hb dX7_finds_42 rfl (lv_at hl 2 rfl) ?_
  refine k_get (D := (dC, dI)) (ci := 7) (v := .ref (p2 72)) (C := RX7) (T := TX7) (N := 92) hx hb hts hinX7 hown hK hP 0 rfl rfl 72 (by decide) w_3 rfl rfl dX7_finds_43 ?_
  refine lv_sipush (v := 1024) hx hb dX7_finds_46 (by decide +kernel) ?_
  refine lv_iload_n hx hb dX7_finds_49 rfl (lv_at hl 1 rfl) ?_
  refine lv_imul hx hb dX7_finds_50 ?_
  refine k_int (v := 0) (by decide +kernel) ?_
  refine lv_iload_n hx hb dX7_finds_51 rfl (lv_at hl 0 rfl) ?_
  refine lv_iadd hx hb dX7_finds_52 ?_
  refine k_int (v := 0) (by decide +kernel) ?_
  refine k_iald (v := 0) hx hb hK hP 3 0 0 rfl rfl rfl (Nat.le_of_ble_eq_true rfl) (Nat.le_of_ble_eq_true rfl) rfl dX7_finds_53 ?_
  refine lv_istore (lv' := [(4, .int 0), (3, .int 0), (2, .int 0), (0, .ref p0), (1, .int 0)]) hx hb dX7_finds_54 hl (by decide) rfl (fun ls hl => ?_)
  refine lv_iload hx hb dX7_finds_56 (lv_at hl 0 rfl) ?_
  refine lv_iconst (v := (-1)) hx hb dX7_finds_58 (by decide +kernel) ?_
  refine lv_icmp_eq (tgt := 117) hx hb dX7_finds_59 (by decide) (fun q9 => absurd q9 (by decide +kernel)) (fun _ => ?_)
  refine lv_iload_n hx hb dX7_finds_62 rfl (lv_at hl 4 rfl) ?_
  refine lv_iconst (v := (-1)) hx hb dX7_finds_63 (by decide +kernel) ?_
  refine lv_icmp_ne (tgt := 79) hx hb dX7_finds_64 (by decide) (fun _ => ?_) (fun q9 => absurd q9 (by decide +kernel))
  refine lv_iload_n hx hb dX7_finds_79 rfl (lv_at hl 4 rfl) ?_
  refine lv_iload_n hx hb dX7_finds_80 rfl (lv_at hl 1 rfl) ?_
  refine lv_iconst (v := (-1)) hx hb dX7_finds_81 (by decide +kernel) ?_
  refine lv_ixor hx hb dX7_finds_82 ?_
  refine k_int (v := (-1)) (by decide +kernel) ?_
  refine lv_iand hx hb dX7_finds_83 ?_
  refine k_int (v := 0) (by decide +kernel) ?_
  refine lv_if_ne (tgt := 117) hx hb dX7_finds_84 (by decide) (fun q9 => absurd q9 (by decide +kernel)) (fun _ => ?_)
  refine lv_aload_n hx hb dX7_finds_87 rfl (lv_at hl 3 rfl) ?_
  refine k_get (D := (dC, dI)) (ci := 7) (v := .int (-1)) (C := RX7) (T := TX7) (N := 92) hx hb hts hinX7 hown hK hP 0 rfl rfl 75 (by decide) w_0 rfl rfl dX7_finds_88 ?_
  refine lv_iconst (v := (-1)) hx hb dX7_finds_91 (by decide +kernel) ?_
  refine lv_icmp_eq (tgt := 107) hx hb dX7_finds_92 (by decide) (fun _ => ?_) (fun q9 => absurd q9 (by decide +kernel))
  refine lv_aload_n hx hb dX7_finds_107 rfl (lv_at hl 3 rfl) ?_
  refine lv_iload_n hx hb dX7_finds_108 rfl (lv_at hl 2 rfl) ?_
  refine k_put (D := (dC, dI)) (ci := 7) (v := .int 0) (C := RX7) (T := TX7) (N := 92) (ws' := [(p0, .inr (7, oM p2 (upd i7 75 0) j7)), ((p2 49), .inl (cI, 22, .inl (fun _ => 0))), ((p2 50), .inl (cI, 22, .inl (fun _ => 0))), ((p2 72), .inl (cI, 9216, .inl (upd (fun _ => (-1)) 0 0))), ((p2 14), .inl (cI, 2, .inl (fun _ => 0))), ((p2 18), .inl (cI, 2, .inl (fun _ => 0)))]) hx hb hts hinX7 tyX7 tyX7_ok nmX7 hown hK hP hD hS 0 rfl rfl 75 (by decide) w_0 rfl rfl rfl rfl (Nat.le_of_ble_eq_true rfl) rfl dX7_finds_109 (fun H locs hP hD hS => ?_)
  refine lv_aload_n hx hb dX7_finds_112 rfl (lv_at hl 3 rfl) ?_
  refine lv_iload_n hx hb dX7_finds_113 rfl (lv_at hl 1 rfl) ?_
  refine k_put (D := (dC, dI)) (ci := 7) (v := .int 0) (C := RX7) (T := TX7) (N := 92) (ws' := [(p0, .inr (7, oM p2 (upd (upd i7 75 0) 76 0) j7)), ((p2 49), .inl (cI, 22, .inl (fun _ => 0))), ((p2 50), .inl (cI, 22, .inl (fun _ => 0))), ((p2 72), .inl (cI, 9216, .inl (upd (fun _ => (-1)) 0 0))), ((p2 14), .inl (cI, 2, .inl (fun _ => 0))), ((p2 18), .inl (cI, 2, .inl (fun _ => 0)))]) hx hb hts hinX7 tyX7 tyX7_ok nmX7 hown hK hP hD hS 0 rfl rfl 76 (by decide) w_4 rfl rfl rfl rfl (Nat.le_of_ble_eq_true rfl) rfl dX7_finds_114 (fun H locs hP hD hS => ?_)
  refine lv_iinc (v := 1) (lv' := [(3, .int 1), (4, .int 0), (2, .int 0), (0, .ref p0), (1, .int 0)]) hx hb dX7_finds_117 hl (k := 1) rfl (by decide +kernel) (by decide) rfl (fun ls hl => ?_)
  refine lv_goto (tgt := 27) hx hb dX7_finds_120 (by decide) ?_
  refine lv_iload_n hx hb dX7_finds_27 rfl (lv_at hl 0 rfl) ?_
  refine lv_iconst (v := 1) hx hb dX7_finds_28 (by decide +kernel) ?_
  refine lv_aload_n hx hb dX7_finds_29 rfl (lv_at hl 3 rfl) ?_
  refine k_get (D := (dC, dI)) (ci := 7) (v := .ref (p2 14)) (C := RX7) (T := TX7) (N := 92) hx hb hts hinX7 hown hK hP 0 rfl rfl 14 (by decide) w_1 rfl rfl dX7_finds_30 ?_
  refine lv_aload_n hx hb dX7_finds_33 rfl (lv_at hl 3 rfl) ?_
  refine k_get (D := (dC, dI)) (ci := 7) (v := .int 0) (C := RX7) (T := TX7) (N := 92) hx hb hts hinX7 hown hK hP 0 rfl rfl 13 (by decide) w_2 rfl rfl dX7_finds_34 ?_
  refine k_iald (v := 0) hx hb hK hP 4 0 0 rfl rfl rfl (Nat.le_of_ble_eq_true rfl) (Nat.le_of_ble_eq_true rfl) rfl dX7_finds_37 ?_
  refine lv_ishl hx hb dX7_finds_38 ?_
  refine k_int (v := 1) (by decide +kernel) ?_
  refine lv_icmp_ge (tgt := 123) hx hb dX7_finds_39 (by decide) (fun _ => ?_) (fun q9 => absurd q9 (by decide +kernel))
  refine lv_iinc (v := 1) (lv' := [(2, .int 1), (3, .int 1), (4, .int 0), (0, .ref p0), (1, .int 0)]) hx hb dX7_finds_123 hl (k := 2) rfl (by decide +kernel) (by decide) rfl (fun ls hl => ?_)
  refine lv_goto (tgt := 11) hx hb dX7_finds_126 (by decide) ?_
  refine lv_iload_n hx hb dX7_finds_11 rfl (lv_at hl 0 rfl) ?_
  refine lv_bipush (v := 8) hx hb dX7_finds_12 (by decide +kernel) ?_
  refine lv_icmp_gt (tgt := 129) hx hb dX7_finds_14 (by decide) (fun q9 => absurd q9 (by decide +kernel)) (fun _ => ?_)
  refine lv_aload_n hx hb dX7_finds_17 rfl (lv_at hl 3 rfl) ?_
  refine k_get (D := (dC, dI)) (ci := 7) (v := .int 0) (C := RX7) (T := TX7) (N := 92) hx hb hts hinX7 hown hK hP 0 rfl rfl 75 (by decide) w_0 rfl rfl dX7_finds_18 ?_
  refine lv_iconst (v := (-1)) hx hb dX7_finds_21 (by decide +kernel) ?_
  refine lv_icmp_ne (tgt := 129) hx hb dX7_finds_22 (by decide) (fun _ => ?_) (fun q9 => absurd q9 (by decide +kernel))
  exact k_rv B hP hD hS dX7_finds_129 () [0, 1, 2, 3, 4, 5] rfl rfl (Nat.le_of_ble_eq_true rfl) (Nat.le_of_ble_eq_true rfl) trivial
set_option maxHeartbeats 4000000 in
set_option maxRecDepth 100000 in
theorem c_X7_is_v8 (l : Launch) (dC : Nat → ClassId) (dI : Nat → Nat → Nat) (cI cJ cZ cM : ClassId) (p0 : Int32)   : k_Mi l yX7_is wsX7_is ({ frames := 1, cells := 0, slots := 0, locals := 40 }) (dC, dI) vwCl (tyy cI cJ cZ cM) [] [.int p0, .int 10, .int 9] 0 0 (fun (u9 : Unit) => []) (fun (r9 : Int32) (u9 : Unit) => r9 = 0) := by
  refine fun sz => k_enter (cc := cX7_is) (maxL := 3) (ret := some (.boolean)) (Qc := fun A => va_Qi (fun (r9 : Int32) (u9 : Unit) => r9 = 0) (fun u => k_B (dC, dI) vwCl (tyy cI cJ cZ cM) A ((fun (u9 : Unit) => []) u)) A) sz (by decide +kernel) rfl (Nat.le_of_ble_eq_true rfl) (fun p e s m args below meth c A ls H B hP hD hS hl => ?_)
  obtain ⟨hx, hb, hml, hown, hts, hr, hlk, hnm, hK, hA, hN⟩ := id B
  have hown : s.vm.findClass RX7 = some m.cls := hown
  have hl : lv_has ls 3 [(0, .int p0), (1, .int 10), (2, .int 9)] := hl
  refine lv_iload_n hx hb dX7_is_0 rfl (lv_at hl 0 rfl) ?_
  refine lv_iload_n hx hb dX7_is_1 rfl (lv_at hl 1 rfl) ?_
  refine lv_icmp_lt (tgt := 14) hx hb dX7_is_2 (by decide) (fun c_1 => ?_) (fun c_1 => ?_)
  · have c_1 : p0.toInt < 10 := k_ltT rfl (by decide +kernel) c_1
    refine lv_iconst (v := 0) hx hb dX7_is_14 (by decide +kernel) ?_
    exact k_ri B hP hD hS dX7_is_15 () [] rfl rfl rfl (Nat.le_of_ble_eq_true rfl) (Nat.le_of_ble_eq_true rfl) rfl
  · have c_1 : 10 ≤ p0.toInt := k_ltF rfl (by decide +kernel) c_1
    refine lv_iload_n hx hb dX7_is_5 rfl (lv_at hl 0 rfl) ?_
    refine lv_iload_n hx hb dX7_is_6 rfl (lv_at hl 2 rfl) ?_
    refine lv_icmp_gt (tgt := 14) hx hb dX7_is_7 (by decide) (fun c_2 => ?_) (fun c_2 => ?_)
    · have c_2 : 9 < p0.toInt := k_ltT (by decide +kernel) rfl c_2
      refine lv_iconst (v := 0) hx hb dX7_is_14 (by decide +kernel) ?_
      exact k_ri B hP hD hS dX7_is_15 () [] rfl rfl rfl (Nat.le_of_ble_eq_true rfl) (Nat.le_of_ble_eq_true rfl) rfl
    · have c_2 : p0.toInt ≤ 9 := k_ltF (by decide +kernel) rfl c_2
      exfalso; omega
set_option maxHeartbeats 4000000 in
set_option maxRecDepth 100000 in
theorem c_X7_foundSea_v0 (l : Launch) (dC : Nat → ClassId) (dI : Nat → Nat → Nat) (cI cJ cZ cM : ClassId) (p0 : Nat) (p1 : Nat → Nat)   : k_Mi l yX7_foundSea wsX7_foundSea ({ frames := 1, cells := 0, slots := 0, locals := 40 }) (dC, dI) vwCl (tyy cI cJ cZ cM) [(p0, .inr (7, oM p1 (upd (upd i7 75 0) 76 0) j7)), ((p1 72), .inl (cI, 9216, .inl (upd (fun _ => (-1)) 0 0)))] [.ref p0] 0 0 (fun (u9 : Unit) => [(p0, .inr (7, oM p1 (upd (upd i7 75 0) 76 0) j7)), ((p1 72), .inl (cI, 9216, .inl (upd (fun _ => (-1)) 0 0)))]) (fun (r9 : Int32) (u9 : Unit) => r9 = 0) := by
  refine fun sz => k_enter (cc := cX7_foundSea) (maxL := 1) (ret := some (.int)) (Qc := fun A => va_Qi (fun (r9 : Int32) (u9 : Unit) => r9 = 0) (fun u => k_B (dC, dI) vwCl (tyy cI cJ cZ cM) A ((fun (u9 : Unit) => [(p0, .inr (7, oM p1 (upd (upd i7 75 0) 76 0) j7)), ((p1 72), .inl (cI, 9216, .inl (upd (fun _ => (-1)) 0 0)))]) u)) A) sz (by decide +kernel) rfl (Nat.le_of_ble_eq_true rfl) (fun p e s m args below meth c A ls H B hP hD hS hl => ?_)
  obtain ⟨hx, hb, hml, hown, hts, hr, hlk, hnm, hK, hA, hN⟩ := id B
  have hown : s.vm.findClass RX7 = some m.cls := hown
  have hl : lv_has ls 1 [(0, .ref p0)] := hl
  have w_0 : (Cond.fieldLink RX7 231 "WishSeaModel" "rungSea" "[I").before args s = true := hts _ (List.mem_of_getElem? (i := 1) rfl)
  have w_1 : (Cond.fieldLink RX7 240 "WishSeaModel" "foundRung" "I").before args s = true := hts _ (List.mem_of_getElem? (i := 2) rfl)
  have w_2 : (Cond.fieldLink RX7 243 "WishSeaModel" "foundSet" "I").before args s = true := hts _ (List.mem_of_getElem? (i := 3) rfl)
  have hinX7 : ∀ w ∈ u_ws RX7 TX7 92, w ∈ wsX7_foundSea := fun _ h => List.mem_cons_of_mem _ (List.mem_append_right _ h)
  refine lv_aload_n hx hb dX7_foundSea_0 rfl (lv_at hl 0 rfl) ?_
  refine k_get (D := (dC, dI)) (ci := 7) (v := .ref (p1 72)) (C := RX7) (T := TX7) (N := 92) hx hb hts hinX7 hown hK hP 0 rfl rfl 72 (by decide) w_0 rfl rfl dX7_foundSea_1 ?_
  refine lv_sipush (v := 1024) hx hb dX7_foundSea_4 (by decide +kernel) ?_
  refine lv_aload_n hx hb dX7_foundSea_7 rfl (lv_at hl 0 rfl) ?_
  refine k_get (D := (dC, dI)) (ci := 7) (v := .int 0) (C := RX7) (T := TX7) (N := 92) hx hb hts hinX7 hown hK hP 0 rfl rfl 75 (by decide) w_1 rfl rfl dX7_foundSea_8 ?_
  refine lv_imul hx hb dX7_foundSea_11 ?_
  refine k_int (v := 0) (by decide +kernel) ?_
  refine lv_aload_n hx hb dX7_foundSea_12 rfl (lv_at hl 0 rfl) ?_
  refine k_get (D := (dC, dI)) (ci := 7) (v := .int 0) (C := RX7) (T := TX7) (N := 92) hx hb hts hinX7 hown hK hP 0 rfl rfl 76 (by decide) w_2 rfl rfl dX7_foundSea_13 ?_
  refine lv_iadd hx hb dX7_foundSea_16 ?_
  refine k_int (v := 0) (by decide +kernel) ?_
  refine k_iald (v := 0) hx hb hK hP 1 0 0 rfl rfl rfl (Nat.le_of_ble_eq_true rfl) (Nat.le_of_ble_eq_true rfl) rfl dX7_foundSea_17 ?_
  exact k_ri B hP hD hS dX7_foundSea_18 () [0, 1] rfl rfl rfl (Nat.le_of_ble_eq_true rfl) (Nat.le_of_ble_eq_true rfl) rfl
set_option maxHeartbeats 4000000 in
set_option maxRecDepth 100000 in
theorem c_X7_fewest_v0 (l : Launch) (dC : Nat → ClassId) (dI : Nat → Nat → Nat) (cI cJ cZ cM : ClassId) (p0 : Nat) (p1 : Int32) (p2 : Int32) (p3 : Nat → Nat)   : k_Mi l yX7_fewest wsX7_fewest ({ frames := 4, cells := 0, slots := 0, locals := 112 }) (dC, dI) vwCl (tyy cI cJ cZ cM) [(p0, .inr (7, oM p3 i7 j7)), ((p3 14), .inl (cI, 2, .inl (fun _ => 0))), ((p3 49), .inl (cI, 22, .inl (fun _ => 0))), ((p3 50), .inl (cI, 22, .inl (fun _ => 0))), ((p3 72), .inl (cI, 9216, .inl (fun _ => 0))), ((p3 18), .inl (cI, 2, .inl (fun _ => 0)))] [.ref p0, .int p1, .int p2] 0 0 (fun (u9 : (Nat × (Nat → Nat))) => match u9.1 with | 0 => [(p0, .inr (7, oM p3 i7 j7)), ((p3 14), .inl (cI, 2, .inl (fun _ => 0))), ((p3 49), .inl (cI, 22, .inl (fun _ => 0))), ((p3 50), .inl (cI, 22, .inl (fun _ => 0))), ((p3 72), .inl (cI, 9216, .inl (fun _ => 0))), ((p3 18), .inl (cI, 2, .inl (fun _ => 0)))] | 1 => [(p0, .inr (7, oM p3 i7 j7)), ((p3 14), .inl (cI, 2, .inl (fun _ => 0))), ((p3 49), .inl (cI, 22, .inl (fun _ => 0))), ((p3 50), .inl (cI, 22, .inl (fun _ => 0))), ((p3 72), .inl (cI, 9216, .inl (fun _ => 0))), ((p3 18), .inl (cI, 2, .inl (fun _ => 0)))] | 2 => [(p0, .inr (7, oM p3 (upd (upd i7 75 0) 76 0) j7)), ((p3 14), .inl (cI, 2, .inl (fun _ => 0))), ((p3 49), .inl (cI, 22, .inl (fun _ => 0))), ((p3 50), .inl (cI, 22, .inl (fun _ => 0))), ((p3 72), .inl (cI, 9216, .inl (upd (fun _ => (-1)) 0 0))), ((p3 18), .inl (cI, 2, .inl (fun _ => 0)))] | 3 => [(p0, .inr (7, oM p3 (upd (upd i7 75 0) 76 0) j7)), ((p3 14), .inl (cI, 2, .inl (fun _ => 0))), ((p3 49), .inl (cI, 22, .inl (fun _ => 0))), ((p3 50), .inl (cI, 22, .inl (fun _ => 0))), ((p3 72), .inl (cI, 9216, .inl (upd (fun _ => (-1)) 0 0))), ((p3 18), .inl (cI, 2, .inl (fun _ => 0)))] | 4 => [(p0, .inr (7, oM p3 (upd (upd i7 75 0) 76 0) j7)), ((p3 14), .inl (cI, 2, .inl (fun _ => 0))), ((p3 49), .inl (cI, 22, .inl (fun _ => 0))), ((p3 50), .inl (cI, 22, .inl (fun _ => 0))), ((p3 72), .inl (cI, 9216, .inl (upd (fun _ => (-1)) 0 0))), ((p3 18), .inl (cI, 2, .inl (fun _ => 0)))] | 5 => [(p0, .inr (7, oM p3 (upd (upd i7 75 0) 76 0) j7)), ((p3 14), .inl (cI, 2, .inl (fun _ => 0))), ((p3 49), .inl (cI, 22, .inl (fun _ => 0))), ((p3 50), .inl (cI, 22, .inl (fun _ => 0))), ((p3 72), .inl (cI, 9216, .inl (upd (fun _ => (-1)) 0 0))), ((p3 18), .inl (cI, 2, .inl (fun _ => 0)))] | _ => []) (fun (r9 : Int32) (u9 : (Nat × (Nat → Nat))) => match u9.1 with | 0 => (p1.toInt < 0) ∧ r9 = (-1) | 1 => (0 ≤ p1.toInt) ∧ (0 < p1.toInt) ∧ r9 = (-1) | 2 => (0 ≤ p1.toInt) ∧ (p1.toInt ≤ 0) ∧ (¬ p2.toInt = 0) ∧ (¬ p2.toInt = 1) ∧ (¬ p2.toInt = 2) ∧ r9 = (-1) | 3 => (0 ≤ p1.toInt) ∧ (p1.toInt ≤ 0) ∧ (¬ p2.toInt = 0) ∧ (¬ p2.toInt = 1) ∧ (p2.toInt = 2) ∧ r9 = 0 | 4 => (0 ≤ p1.toInt) ∧ (p1.toInt ≤ 0) ∧ (¬ p2.toInt = 0) ∧ (p2.toInt = 1) ∧ r9 = 0 | 5 => (0 ≤ p1.toInt) ∧ (p1.toInt ≤ 0) ∧ (p2.toInt = 0) ∧ r9 = 0 | _ => False) := by
  refine fun sz => k_enter (cc := cX7_fewest) (maxL := 3) (ret := some (.int)) (Qc := fun A => va_Qi (fun (r9 : Int32) (u9 : (Nat × (Nat → Nat))) => match u9.1 with | 0 => (p1.toInt < 0) ∧ r9 = (-1) | 1 => (0 ≤ p1.toInt) ∧ (0 < p1.toInt) ∧ r9 = (-1) | 2 => (0 ≤ p1.toInt) ∧ (p1.toInt ≤ 0) ∧ (¬ p2.toInt = 0) ∧ (¬ p2.toInt = 1) ∧ (¬ p2.toInt = 2) ∧ r9 = (-1) | 3 => (0 ≤ p1.toInt) ∧ (p1.toInt ≤ 0) ∧ (¬ p2.toInt = 0) ∧ (¬ p2.toInt = 1) ∧ (p2.toInt = 2) ∧ r9 = 0 | 4 => (0 ≤ p1.toInt) ∧ (p1.toInt ≤ 0) ∧ (¬ p2.toInt = 0) ∧ (p2.toInt = 1) ∧ r9 = 0 | 5 => (0 ≤ p1.toInt) ∧ (p1.toInt ≤ 0) ∧ (p2.toInt = 0) ∧ r9 = 0 | _ => False) (fun u => k_B (dC, dI) vwCl (tyy cI cJ cZ cM) A ((fun (u9 : (Nat × (Nat → Nat))) => match u9.1 with | 0 => [(p0, .inr (7, oM p3 i7 j7)), ((p3 14), .inl (cI, 2, .inl (fun _ => 0))), ((p3 49), .inl (cI, 22, .inl (fun _ => 0))), ((p3 50), .inl (cI, 22, .inl (fun _ => 0))), ((p3 72), .inl (cI, 9216, .inl (fun _ => 0))), ((p3 18), .inl (cI, 2, .inl (fun _ => 0)))] | 1 => [(p0, .inr (7, oM p3 i7 j7)), ((p3 14), .inl (cI, 2, .inl (fun _ => 0))), ((p3 49), .inl (cI, 22, .inl (fun _ => 0))), ((p3 50), .inl (cI, 22, .inl (fun _ => 0))), ((p3 72), .inl (cI, 9216, .inl (fun _ => 0))), ((p3 18), .inl (cI, 2, .inl (fun _ => 0)))] | 2 => [(p0, .inr (7, oM p3 (upd (upd i7 75 0) 76 0) j7)), ((p3 14), .inl (cI, 2, .inl (fun _ => 0))), ((p3 49), .inl (cI, 22, .inl (fun _ => 0))), ((p3 50), .inl (cI, 22, .inl (fun _ => 0))), ((p3 72), .inl (cI, 9216, .inl (upd (fun _ => (-1)) 0 0))), ((p3 18), .inl (cI, 2, .inl (fun _ => 0)))] | 3 => [(p0, .inr (7, oM p3 (upd (upd i7 75 0) 76 0) j7)), ((p3 14), .inl (cI, 2, .inl (fun _ => 0))), ((p3 49), .inl (cI, 22, .inl (fun _ => 0))), ((p3 50), .inl (cI, 22, .inl (fun _ => 0))), ((p3 72), .inl (cI, 9216, .inl (upd (fun _ => (-1)) 0 0))), ((p3 18), .inl (cI, 2, .inl (fun _ => 0)))] | 4 => [(p0, .inr (7, oM p3 (upd (upd i7 75 0) 76 0) j7)), ((p3 14), .inl (cI, 2, .inl (fun _ => 0))), ((p3 49), .inl (cI, 22, .inl (fun _ => 0))), ((p3 50), .inl (cI, 22, .inl (fun _ => 0))), ((p3 72), .inl (cI, 9216, .inl (upd (fun _ => (-1)) 0 0))), ((p3 18), .inl (cI, 2, .inl (fun _ => 0)))] | 5 => [(p0, .inr (7, oM p3 (upd (upd i7 75 0) 76 0) j7)), ((p3 14), .inl (cI, 2, .inl (fun _ => 0))), ((p3 49), .inl (cI, 22, .inl (fun _ => 0))), ((p3 50), .inl (cI, 22, .inl (fun _ => 0))), ((p3 72), .inl (cI, 9216, .inl (upd (fun _ => (-1)) 0 0))), ((p3 18), .inl (cI, 2, .inl (fun _ => 0)))] | _ => []) u)) A) sz (by decide +kernel) rfl (Nat.le_of_ble_eq_true rfl) (fun p e s m args below meth c A ls H B hP hD hS hl => ?_)
  obtain ⟨hx, hb, hml, hown, hts, hr, hlk, hnm, hK, hA, hN⟩ := id B
  have hown : s.vm.findClass RX7 = some m.cls := hown
  have hl : lv_has ls 3 [(0, .ref p0), (1, .int p1), (2, .int p2)] := hl
  have w_0 : (Cond.fieldLink RX7 54 "WishSeaModel" "things" "[I").before args s = true := hts _ (List.mem_of_getElem? (i := 1) rfl)
  have w_1 : (Cond.fieldLink RX7 51 "WishSeaModel" "bank" "I").before args s = true := hts _ (List.mem_of_getElem? (i := 2) rfl)
  have w_2 : (Cond.fieldLink RX7 240 "WishSeaModel" "foundRung" "I").before args s = true := hts _ (List.mem_of_getElem? (i := 3) rfl)
  have w_3 : (Cond.fieldLink RX7 243 "WishSeaModel" "foundSet" "I").before args s = true := hts _ (List.mem_of_getElem? (i := 4) rfl)
  have hinX7 : ∀ w ∈ u_ws RX7 TX7 92, w ∈ wsX7_fewest := fun _ h => List.mem_cons_of_mem _ (List.mem_append_right _ h)
  refine lv_iload_n hx hb dX7_fewest_0 rfl (lv_at hl 1 rfl) ?_
  refine lv_iconst (v := 0) hx hb dX7_fewest_1 (by decide +kernel) ?_
  refine lv_iconst (v := 1) hx hb dX7_fewest_2 (by decide +kernel) ?_
  refine lv_aload_n hx hb dX7_fewest_3 rfl (lv_at hl 0 rfl) ?_
  refine k_get (D := (dC, dI)) (ci := 7) (v := .ref (p3 14)) (C := RX7) (T := TX7) (N := 92) hx hb hts hinX7 hown hK hP 0 rfl rfl 14 (by decide) w_0 rfl rfl dX7_fewest_4 ?_
  refine lv_aload_n hx hb dX7_fewest_7 rfl (lv_at hl 0 rfl) ?_
  refine k_get (D := (dC, dI)) (ci := 7) (v := .int 0) (C := RX7) (T := TX7) (N := 92) hx hb hts hinX7 hown hK hP 0 rfl rfl 13 (by decide) w_1 rfl rfl dX7_fewest_8 ?_
  refine k_iald (v := 0) hx hb hK hP 1 0 0 rfl rfl rfl (Nat.le_of_ble_eq_true rfl) (Nat.le_of_ble_eq_true rfl) rfl dX7_fewest_11 ?_
  refine lv_ishl hx hb dX7_fewest_12 ?_
  refine k_int (v := 1) (by decide +kernel) ?_
  refine lv_iconst (v := 1) hx hb dX7_fewest_13 (by decide +kernel) ?_
  refine lv_isub hx hb dX7_fewest_14 ?_
  refine k_int (v := 0) (by decide +kernel) ?_
  refine k_ci (wc := []) (wr := [(p0, .inr (7, oM p3 i7 j7)), ((p3 14), .inl (cI, 2, .inl (fun _ => 0))), ((p3 49), .inl (cI, 22, .inl (fun _ => 0))), ((p3 50), .inl (cI, 22, .inl (fun _ => 0))), ((p3 72), .inl (cI, 9216, .inl (fun _ => 0))), ((p3 18), .inl (cI, 2, .inl (fun _ => 0)))]) (fun hPc hDc => va_runS (As := [.int p1, .int 0, .int 0]) (rest := []) ⟨hx, hb, hml, hown, hts⟩ (c_X7_is_v7 l dC dI cI cJ cZ cM p1 H.size) (va_cwS 3 hts gX7_fewest_X7_is rfl rfl rfl (by decide +kernel) ⟨(Nat.le_of_ble_eq_true rfl), (Nat.le_of_ble_eq_true rfl)⟩) (k_pS hPc hDc hK hN) rfl rfl hl.1 rfl (lv_room (Nat.le_of_ble_eq_true rfl)) dX7_fewest_15 ⟨(Nat.le_of_ble_eq_true rfl), (Nat.le_of_ble_eq_true rfl)⟩) hP hD hS hA [] [0, 1, 2, 3, 4, 5] rfl rfl rfl rfl (by decide) (fun _ => rfl) 0 0 rfl rfl (fun r_1 u_2 H locs hw hP hD hS => ?_)
  obtain ⟨k_u_2, u_u_2⟩ := u_2
  rcases k_u_2 with _ | _ | _ | k_u_2
  · obtain ⟨c_3, rfl⟩ : (p1.toInt < 0) ∧ r_1 = 0 := hw
    have hP : va_P (dC, dI) vwCl [(p0, .inr (7, oM p3 i7 j7)), ((p3 14), .inl (cI, 2, .inl (fun _ => 0))), ((p3 49), .inl (cI, 22, .inl (fun _ => 0))), ((p3 50), .inl (cI, 22, .inl (fun _ => 0))), ((p3 72), .inl (cI, 9216, .inl (fun _ => 0))), ((p3 18), .inl (cI, 2, .inl (fun _ => 0)))] H := hP
    have hD : va_D A [(p0, .inr (7, oM p3 i7 j7)), ((p3 14), .inl (cI, 2, .inl (fun _ => 0))), ((p3 49), .inl (cI, 22, .inl (fun _ => 0))), ((p3 50), .inl (cI, 22, .inl (fun _ => 0))), ((p3 72), .inl (cI, 9216, .inl (fun _ => 0))), ((p3 18), .inl (cI, 2, .inl (fun _ => 0)))] := hD
    refine lv_if_ne (tgt := 23) hx hb dX7_fewest_18 (by decide) (fun q9 => absurd q9 (by decide +kernel)) (fun _ => ?_)
    refine lv_iconst (v := (-1)) hx hb dX7_fewest_21 (by decide +kernel) ?_
    exact k_ri B hP hD hS dX7_fewest_22 (0, (fun _ => 0)) [0, 1, 2, 3, 4, 5] rfl rfl rfl (Nat.le_of_ble_eq_true rfl) (Nat.le_of_ble_eq_true rfl) ⟨c_3, rfl⟩
  · obtain ⟨c_4, c_5, rfl⟩ : (0 ≤ p1.toInt) ∧ (0 < p1.toInt) ∧ r_1 = 0 := hw
    have hP : va_P (dC, dI) vwCl [(p0, .inr (7, oM p3 i7 j7)), ((p3 14), .inl (cI, 2, .inl (fun _ => 0))), ((p3 49), .inl (cI, 22, .inl (fun _ => 0))), ((p3 50), .inl (cI, 22, .inl (fun _ => 0))), ((p3 72), .inl (cI, 9216, .inl (fun _ => 0))), ((p3 18), .inl (cI, 2, .inl (fun _ => 0)))] H := hP
    have hD : va_D A [(p0, .inr (7, oM p3 i7 j7)), ((p3 14), .inl (cI, 2, .inl (fun _ => 0))), ((p3 49), .inl (cI, 22, .inl (fun _ => 0))), ((p3 50), .inl (cI, 22, .inl (fun _ => 0))), ((p3 72), .inl (cI, 9216, .inl (fun _ => 0))), ((p3 18), .inl (cI, 2, .inl (fun _ => 0)))] := hD
    refine lv_if_ne (tgt := 23) hx hb dX7_fewest_18 (by decide) (fun q9 => absurd q9 (by decide +kernel)) (fun _ => ?_)
    refine lv_iconst (v := (-1)) hx hb dX7_fewest_21 (by decide +kernel) ?_
    exact k_ri B hP hD hS dX7_fewest_22 (1, (fun _ => 0)) [0, 1, 2, 3, 4, 5] rfl rfl rfl (Nat.le_of_ble_eq_true rfl) (Nat.le_of_ble_eq_true rfl) ⟨c_4, c_5, rfl⟩
  · obtain ⟨c_6, c_7, rfl⟩ : (0 ≤ p1.toInt) ∧ (p1.toInt ≤ 0) ∧ r_1 = 1 := hw
    have hP : va_P (dC, dI) vwCl [(p0, .inr (7, oM p3 i7 j7)), ((p3 14), .inl (cI, 2, .inl (fun _ => 0))), ((p3 49), .inl (cI, 22, .inl (fun _ => 0))), ((p3 50), .inl (cI, 22, .inl (fun _ => 0))), ((p3 72), .inl (cI, 9216, .inl (fun _ => 0))), ((p3 18), .inl (cI, 2, .inl (fun _ => 0)))] H := hP
    have hD : va_D A [(p0, .inr (7, oM p3 i7 j7)), ((p3 14), .inl (cI, 2, .inl (fun _ => 0))), ((p3 49), .inl (cI, 22, .inl (fun _ => 0))), ((p3 50), .inl (cI, 22, .inl (fun _ => 0))), ((p3 72), .inl (cI, 9216, .inl (fun _ => 0))), ((p3 18), .inl (cI, 2, .inl (fun _ => 0)))] := hD
    refine lv_if_ne (tgt := 23) hx hb dX7_fewest_18 (by decide) (fun _ => ?_) (fun q9 => absurd q9 (by decide +kernel))
    refine lv_aload_n hx hb dX7_fewest_23 rfl (lv_at hl 0 rfl) ?_
    refine lv_iload_n hx hb dX7_fewest_24 rfl (lv_at hl 1 rfl) ?_
    refine k_cv (wc := [(p0, .inr (7, oM p3 i7 j7)), ((p3 49), .inl (cI, 22, .inl (fun _ => 0))), ((p3 50), .inl (cI, 22, .inl (fun _ => 0))), ((p3 72), .inl (cI, 9216, .inl (fun _ => 0))), ((p3 14), .inl (cI, 2, .inl (fun _ => 0))), ((p3 18), .inl (cI, 2, .inl (fun _ => 0)))]) (wr := []) (fun hPc hDc => va_runV (As := [.int p1]) (rest := []) ⟨hx, hb, hml, hown, hts⟩ (c_X7_finds_v0 l dC dI cI cJ cZ cM p0 p1 p3 (by omega) (by omega) H.size) (cwV 1 hts gX7_fewest_X7_finds rfl rfl rfl (by decide +kernel) ⟨(Nat.le_of_ble_eq_true rfl), (Nat.le_of_ble_eq_true rfl)⟩) (k_pV hPc hDc hK hN hP (q0 := 0) (ci := 7) rfl rfl) rfl rfl hl.1 rfl (lv_room (Nat.le_of_ble_eq_true rfl)) dX7_fewest_25 ⟨(Nat.le_of_ble_eq_true rfl), (Nat.le_of_ble_eq_true rfl)⟩) hP hD hS hA [0, 2, 3, 4, 1, 5] [] rfl rfl rfl rfl (by decide) (fun _ => rfl) 0 0 rfl rfl (fun u_9 H locs hw hP hD hS => ?_)
    have hP : va_P (dC, dI) vwCl [(p0, .inr (7, oM p3 (upd (upd i7 75 0) 76 0) j7)), ((p3 49), .inl (cI, 22, .inl (fun _ => 0))), ((p3 50), .inl (cI, 22, .inl (fun _ => 0))), ((p3 72), .inl (cI, 9216, .inl (upd (fun _ => (-1)) 0 0))), ((p3 14), .inl (cI, 2, .inl (fun _ => 0))), ((p3 18), .inl (cI, 2, .inl (fun _ => 0)))] H := hP
    have hD : va_D A [(p0, .inr (7, oM p3 (upd (upd i7 75 0) 76 0) j7)), ((p3 49), .inl (cI, 22, .inl (fun _ => 0))), ((p3 50), .inl (cI, 22, .inl (fun _ => 0))), ((p3 72), .inl (cI, 9216, .inl (upd (fun _ => (-1)) 0 0))), ((p3 14), .inl (cI, 2, .inl (fun _ => 0))), ((p3 18), .inl (cI, 2, .inl (fun _ => 0)))] := hD
    refine lv_aload_n hx hb dX7_fewest_28 rfl (lv_at hl 0 rfl) ?_
    refine k_get (D := (dC, dI)) (ci := 7) (v := .int 0) (C := RX7) (T := TX7) (N := 92) hx hb hts hinX7 hown hK hP 0 rfl rfl 75 (by decide) w_2 rfl rfl dX7_fewest_29 ?_
    refine lv_iconst (v := (-1)) hx hb dX7_fewest_32 (by decide +kernel) ?_
    refine lv_icmp_ne (tgt := 38) hx hb dX7_fewest_33 (by decide) (fun _ => ?_) (fun q9 => absurd q9 (by decide +kernel))
    refine lv_iload_n hx hb dX7_fewest_38 rfl (lv_at hl 2 rfl) ?_
    refine lv_if_ne (tgt := 49) hx hb dX7_fewest_39 (by decide) (fun c_10 => ?_) (fun c_10 => ?_)
    · have c_10 : ¬ p2.toInt = 0 := k_eqF rfl (by decide +kernel) c_10
      refine lv_iload_n hx hb dX7_fewest_49 rfl (lv_at hl 2 rfl) ?_
      refine lv_iconst (v := 1) hx hb dX7_fewest_50 (by decide +kernel) ?_
      refine lv_icmp_ne (tgt := 61) hx hb dX7_fewest_51 (by decide) (fun c_11 => ?_) (fun c_11 => ?_)
      · have c_11 : ¬ p2.toInt = 1 := k_eqF rfl (by decide +kernel) c_11
        refine lv_iload_n hx hb dX7_fewest_61 rfl (lv_at hl 2 rfl) ?_
        refine lv_iconst (v := 2) hx hb dX7_fewest_62 (by decide +kernel) ?_
        refine lv_icmp_ne (tgt := 73) hx hb dX7_fewest_63 (by decide) (fun c_12 => ?_) (fun c_12 => ?_)
        · have c_12 : ¬ p2.toInt = 2 := k_eqF rfl (by decide +kernel) c_12
          refine lv_iload_n hx hb dX7_fewest_73 rfl (lv_at hl 2 rfl) ?_
          refine lv_bipush (v := 10) hx hb dX7_fewest_74 (by decide +kernel) ?_
          refine lv_bipush (v := 9) hx hb dX7_fewest_76 (by decide +kernel) ?_
          refine lv_aload_n hx hb dX7_fewest_78 rfl (lv_at hl 0 rfl) ?_
          refine k_get (D := (dC, dI)) (ci := 7) (v := .int 0) (C := RX7) (T := TX7) (N := 92) hx hb hts hinX7 hown hK hP 0 rfl rfl 75 (by decide) w_2 rfl rfl dX7_fewest_79 ?_
          refine lv_iadd hx hb dX7_fewest_82 ?_
          refine k_int (v := 9) (by decide +kernel) ?_
          refine k_ci (wc := []) (wr := [(p0, .inr (7, oM p3 (upd (upd i7 75 0) 76 0) j7)), ((p3 49), .inl (cI, 22, .inl (fun _ => 0))), ((p3 50), .inl (cI, 22, .inl (fun _ => 0))), ((p3 72), .inl (cI, 9216, .inl (upd (fun _ => (-1)) 0 0))), ((p3 14), .inl (cI, 2, .inl (fun _ => 0))), ((p3 18), .inl (cI, 2, .inl (fun _ => 0)))]) (fun hPc hDc => va_runS (As := [.int p2, .int 10, .int 9]) (rest := []) ⟨hx, hb, hml, hown, hts⟩ (c_X7_is_v8 l dC dI cI cJ cZ cM p2 H.size) (va_cwS 3 hts gX7_fewest_X7_is rfl rfl rfl (by decide +kernel) ⟨(Nat.le_of_ble_eq_true rfl), (Nat.le_of_ble_eq_true rfl)⟩) (k_pS hPc hDc hK hN) rfl rfl hl.1 rfl (lv_room (Nat.le_of_ble_eq_true rfl)) dX7_fewest_83 ⟨(Nat.le_of_ble_eq_true rfl), (Nat.le_of_ble_eq_true rfl)⟩) hP hD hS hA [] [0, 1, 2, 3, 4, 5] rfl rfl rfl rfl (by decide) (fun _ => rfl) 0 0 rfl rfl (fun r_13 u_14 H locs hw hP hD hS => ?_)
          obtain rfl : r_13 = 0 := hw
          have hP : va_P (dC, dI) vwCl [(p0, .inr (7, oM p3 (upd (upd i7 75 0) 76 0) j7)), ((p3 49), .inl (cI, 22, .inl (fun _ => 0))), ((p3 50), .inl (cI, 22, .inl (fun _ => 0))), ((p3 72), .inl (cI, 9216, .inl (upd (fun _ => (-1)) 0 0))), ((p3 14), .inl (cI, 2, .inl (fun _ => 0))), ((p3 18), .inl (cI, 2, .inl (fun _ => 0)))] H := hP
          have hD : va_D A [(p0, .inr (7, oM p3 (upd (upd i7 75 0) 76 0) j7)), ((p3 49), .inl (cI, 22, .inl (fun _ => 0))), ((p3 50), .inl (cI, 22, .inl (fun _ => 0))), ((p3 72), .inl (cI, 9216, .inl (upd (fun _ => (-1)) 0 0))), ((p3 14), .inl (cI, 2, .inl (fun _ => 0))), ((p3 18), .inl (cI, 2, .inl (fun _ => 0)))] := hD
          refine lv_if_eq (tgt := 100) hx hb dX7_fewest_86 (by decide) (fun _ => ?_) (fun q9 => absurd q9 (by decide +kernel))
          refine lv_iconst (v := (-1)) hx hb dX7_fewest_100 (by decide +kernel) ?_
          exact k_ri B hP hD hS dX7_fewest_101 (2, (fun _ => 0)) [0, 4, 1, 2, 3, 5] rfl rfl rfl (Nat.le_of_ble_eq_true rfl) (Nat.le_of_ble_eq_true rfl) ⟨c_6, c_7, c_10, c_11, c_12, rfl⟩
        · have c_12 : p2.toInt = 2 := k_eqT rfl (by decide +kernel) c_12
          refine lv_aload_n hx hb dX7_fewest_66 rfl (lv_at hl 0 rfl) ?_
          refine k_get (D := (dC, dI)) (ci := 7) (v := .int 0) (C := RX7) (T := TX7) (N := 92) hx hb hts hinX7 hown hK hP 0 rfl rfl 76 (by decide) w_3 rfl rfl dX7_fewest_67 ?_
          refine lv_goto (tgt := 101) hx hb dX7_fewest_70 (by decide) ?_
          exact k_ri B hP hD hS dX7_fewest_101 (3, (fun _ => 0)) [0, 4, 1, 2, 3, 5] rfl rfl rfl (Nat.le_of_ble_eq_true rfl) (Nat.le_of_ble_eq_true rfl) ⟨c_6, c_7, c_10, c_11, c_12, rfl⟩
      · have c_11 : p2.toInt = 1 := k_eqT rfl (by decide +kernel) c_11
        refine lv_aload_n hx hb dX7_fewest_54 rfl (lv_at hl 0 rfl) ?_
        refine k_ci (wc := [(p0, .inr (7, oM p3 (upd (upd i7 75 0) 76 0) j7)), ((p3 72), .inl (cI, 9216, .inl (upd (fun _ => (-1)) 0 0)))]) (wr := [((p3 49), .inl (cI, 22, .inl (fun _ => 0))), ((p3 50), .inl (cI, 22, .inl (fun _ => 0))), ((p3 14), .inl (cI, 2, .inl (fun _ => 0))), ((p3 18), .inl (cI, 2, .inl (fun _ => 0)))]) (fun hPc hDc => va_runV (As := []) (rest := []) ⟨hx, hb, hml, hown, hts⟩ (c_X7_foundSea_v0 l dC dI cI cJ cZ cM p0 p3 H.size) (cwV 0 hts gX7_fewest_X7_foundSea rfl rfl rfl (by decide +kernel) ⟨(Nat.le_of_ble_eq_true rfl), (Nat.le_of_ble_eq_true rfl)⟩) (k_pV hPc hDc hK hN hP (q0 := 0) (ci := 7) rfl rfl) rfl rfl hl.1 rfl (lv_room (Nat.le_of_ble_eq_true rfl)) dX7_fewest_55 ⟨(Nat.le_of_ble_eq_true rfl), (Nat.le_of_ble_eq_true rfl)⟩) hP hD hS hA [0, 3] [1, 2, 4, 5] rfl rfl rfl rfl (by decide) (fun _ => rfl) 0 0 rfl rfl (fun r_15 u_16 H locs hw hP hD hS => ?_)
        obtain rfl : r_15 = 0 := hw
        have hP : va_P (dC, dI) vwCl [((p3 49), .inl (cI, 22, .inl (fun _ => 0))), ((p3 50), .inl (cI, 22, .inl (fun _ => 0))), ((p3 14), .inl (cI, 2, .inl (fun _ => 0))), ((p3 18), .inl (cI, 2, .inl (fun _ => 0))), (p0, .inr (7, oM p3 (upd (upd i7 75 0) 76 0) j7)), ((p3 72), .inl (cI, 9216, .inl (upd (fun _ => (-1)) 0 0)))] H := hP
        have hD : va_D A [((p3 49), .inl (cI, 22, .inl (fun _ => 0))), ((p3 50), .inl (cI, 22, .inl (fun _ => 0))), ((p3 14), .inl (cI, 2, .inl (fun _ => 0))), ((p3 18), .inl (cI, 2, .inl (fun _ => 0))), (p0, .inr (7, oM p3 (upd (upd i7 75 0) 76 0) j7)), ((p3 72), .inl (cI, 9216, .inl (upd (fun _ => (-1)) 0 0)))] := hD
        refine lv_goto (tgt := 101) hx hb dX7_fewest_58 (by decide) ?_
        exact k_ri B hP hD hS dX7_fewest_101 (4, (fun _ => 0)) [4, 2, 0, 1, 5, 3] rfl rfl rfl (Nat.le_of_ble_eq_true rfl) (Nat.le_of_ble_eq_true rfl) ⟨c_6, c_7, c_10, c_11, rfl⟩
    · have c_10 : p2.toInt = 0 := k_eqT rfl (by decide +kernel) c_10
      refine lv_aload_n hx hb dX7_fewest_42 rfl (lv_at hl 0 rfl) ?_
      refine k_get (D := (dC, dI)) (ci := 7) (v := .int 0) (C := RX7) (T := TX7) (N := 92) hx hb hts hinX7 hown hK hP 0 rfl rfl 75 (by decide) w_2 rfl rfl dX7_fewest_43 ?_
      refine lv_goto (tgt := 101) hx hb dX7_fewest_46 (by decide) ?_
      exact k_ri B hP hD hS dX7_fewest_101 (5, (fun _ => 0)) [0, 4, 1, 2, 3, 5] rfl rfl rfl (Nat.le_of_ble_eq_true rfl) (Nat.le_of_ble_eq_true rfl) ⟨c_6, c_7, c_10, rfl⟩
  · exact False.elim hw
set_option maxHeartbeats 4000000 in
set_option maxRecDepth 100000 in
theorem c_X7_is_v9 (l : Launch) (dC : Nat → ClassId) (dI : Nat → Nat → Nat) (cI cJ cZ cM : ClassId) (p0 : Int32)   : k_Mi l yX7_is wsX7_is ({ frames := 1, cells := 0, slots := 0, locals := 40 }) (dC, dI) vwCl (tyy cI cJ cZ cM) [] [.int p0, .int 0, .int 3] 0 0 (fun (u9 : (Nat × (Nat → Nat))) => []) (fun (r9 : Int32) (u9 : (Nat × (Nat → Nat))) => match u9.1 with | 0 => (p0.toInt < 0) ∧ r9 = 0 | 1 => (0 ≤ p0.toInt) ∧ (3 < p0.toInt) ∧ r9 = 0 | 2 => (0 ≤ p0.toInt) ∧ (p0.toInt ≤ 3) ∧ r9 = 1 | _ => False) := by
  refine fun sz => k_enter (cc := cX7_is) (maxL := 3) (ret := some (.boolean)) (Qc := fun A => va_Qi (fun (r9 : Int32) (u9 : (Nat × (Nat → Nat))) => match u9.1 with | 0 => (p0.toInt < 0) ∧ r9 = 0 | 1 => (0 ≤ p0.toInt) ∧ (3 < p0.toInt) ∧ r9 = 0 | 2 => (0 ≤ p0.toInt) ∧ (p0.toInt ≤ 3) ∧ r9 = 1 | _ => False) (fun u => k_B (dC, dI) vwCl (tyy cI cJ cZ cM) A ((fun (u9 : (Nat × (Nat → Nat))) => []) u)) A) sz (by decide +kernel) rfl (Nat.le_of_ble_eq_true rfl) (fun p e s m args below meth c A ls H B hP hD hS hl => ?_)
  obtain ⟨hx, hb, hml, hown, hts, hr, hlk, hnm, hK, hA, hN⟩ := id B
  have hown : s.vm.findClass RX7 = some m.cls := hown
  have hl : lv_has ls 3 [(0, .int p0), (1, .int 0), (2, .int 3)] := hl
  refine lv_iload_n hx hb dX7_is_0 rfl (lv_at hl 0 rfl) ?_
  refine lv_iload_n hx hb dX7_is_1 rfl (lv_at hl 1 rfl) ?_
  refine lv_icmp_lt (tgt := 14) hx hb dX7_is_2 (by decide) (fun c_1 => ?_) (fun c_1 => ?_)
  · have c_1 : p0.toInt < 0 := k_ltT rfl (by decide +kernel) c_1
    refine lv_iconst (v := 0) hx hb dX7_is_14 (by decide +kernel) ?_
    exact k_ri B hP hD hS dX7_is_15 (0, (fun _ => 0)) [] rfl rfl rfl (Nat.le_of_ble_eq_true rfl) (Nat.le_of_ble_eq_true rfl) ⟨c_1, rfl⟩
  · have c_1 : 0 ≤ p0.toInt := k_ltF rfl (by decide +kernel) c_1
    refine lv_iload_n hx hb dX7_is_5 rfl (lv_at hl 0 rfl) ?_
    refine lv_iload_n hx hb dX7_is_6 rfl (lv_at hl 2 rfl) ?_
    refine lv_icmp_gt (tgt := 14) hx hb dX7_is_7 (by decide) (fun c_2 => ?_) (fun c_2 => ?_)
    · have c_2 : 3 < p0.toInt := k_ltT (by decide +kernel) rfl c_2
      refine lv_iconst (v := 0) hx hb dX7_is_14 (by decide +kernel) ?_
      exact k_ri B hP hD hS dX7_is_15 (1, (fun _ => 0)) [] rfl rfl rfl (Nat.le_of_ble_eq_true rfl) (Nat.le_of_ble_eq_true rfl) ⟨c_1, c_2, rfl⟩
    · have c_2 : p0.toInt ≤ 3 := k_ltF (by decide +kernel) rfl c_2
      refine lv_iconst (v := 1) hx hb dX7_is_10 (by decide +kernel) ?_
      refine lv_goto (tgt := 15) hx hb dX7_is_11 (by decide) ?_
      exact k_ri B hP hD hS dX7_is_15 (2, (fun _ => 0)) [] rfl rfl rfl (Nat.le_of_ble_eq_true rfl) (Nat.le_of_ble_eq_true rfl) ⟨c_1, c_2, rfl⟩
set_option maxHeartbeats 4000000 in
set_option maxRecDepth 100000 in
theorem c_X7_worthOf_v3 (l : Launch) (dC : Nat → ClassId) (dI : Nat → Nat → Nat) (cI cJ cZ cM : ClassId) (p0 : Nat) (p1 : Nat → Nat)   : k_Mi l yX7_worthOf wsX7_worthOf ({ frames := 1, cells := 0, slots := 0, locals := 40 }) (dC, dI) vwCl (tyy cI cJ cZ cM) [(p0, .inr (7, oM p1 (upd i7 75 (-1)) j7)), ((p1 14), .inl (cI, 2, .inl (fun _ => 0)))] [.ref p0, .int 0] 0 0 (fun (u9 : Unit) => [(p0, .inr (7, oM p1 (upd i7 75 (-1)) j7)), ((p1 14), .inl (cI, 2, .inl (fun _ => 0)))]) (fun (r9 : Int32) (u9 : Unit) => r9 = 0) := by
  refine fun sz => k_enter (cc := cX7_worthOf) (maxL := 4) (ret := some (.int)) (Qc := fun A => va_Qi (fun (r9 : Int32) (u9 : Unit) => r9 = 0) (fun u => k_B (dC, dI) vwCl (tyy cI cJ cZ cM) A ((fun (u9 : Unit) => [(p0, .inr (7, oM p1 (upd i7 75 (-1)) j7)), ((p1 14), .inl (cI, 2, .inl (fun _ => 0)))]) u)) A) sz (by decide +kernel) rfl (Nat.le_of_ble_eq_true rfl) (fun p e s m args below meth c A ls H B hP hD hS hl => ?_)
  obtain ⟨hx, hb, hml, hown, hts, hr, hlk, hnm, hK, hA, hN⟩ := id B
  have hown : s.vm.findClass RX7 = some m.cls := hown
  have hl : lv_has ls 4 [(0, .ref p0), (1, .int 0)] := hl
  have w_0 : (Cond.fieldLink RX7 54 "WishSeaModel" "things" "[I").before args s = true := hts _ (List.mem_of_getElem? (i := 1) rfl)
  have w_1 : (Cond.fieldLink RX7 51 "WishSeaModel" "bank" "I").before args s = true := hts _ (List.mem_of_getElem? (i := 2) rfl)
  have hinX7 : ∀ w ∈ u_ws RX7 TX7 92, w ∈ wsX7_worthOf := fun _ h => List.mem_cons_of_mem _ (List.mem_append_right _ h)
  refine lv_iconst (v := 0) hx hb dX7_worthOf_0 (by decide +kernel) ?_
  refine lv_istore_n (lv' := [(2, .int 0), (0, .ref p0), (1, .int 0)]) hx hb dX7_worthOf_1 rfl hl (by decide) rfl (fun ls hl => ?_)
  refine lv_iconst (v := 0) hx hb dX7_worthOf_2 (by decide +kernel) ?_
  refine lv_istore_n (lv' := [(3, .int 0), (2, .int 0), (0, .ref p0), (1, .int 0)]) hx hb dX7_worthOf_3 rfl hl (by decide) rfl (fun ls hl => ?_)
  refine lv_iload_n hx hb dX7_worthOf_4 rfl (lv_at hl 0 rfl) ?_
  refine lv_aload_n hx hb dX7_worthOf_5 rfl (lv_at hl 2 rfl) ?_
  refine k_get (D := (dC, dI)) (ci := 7) (v := .ref (p1 14)) (C := RX7) (T := TX7) (N := 92) hx hb hts hinX7 hown hK hP 0 rfl rfl 14 (by decide) w_0 rfl rfl dX7_worthOf_6 ?_
  refine lv_aload_n hx hb dX7_worthOf_9 rfl (lv_at hl 2 rfl) ?_
  refine k_get (D := (dC, dI)) (ci := 7) (v := .int 0) (C := RX7) (T := TX7) (N := 92) hx hb hts hinX7 hown hK hP 0 rfl rfl 13 (by decide) w_1 rfl rfl dX7_worthOf_10 ?_
  refine k_iald (v := 0) hx hb hK hP 1 0 0 rfl rfl rfl (Nat.le_of_ble_eq_true rfl) (Nat.le_of_ble_eq_true rfl) rfl dX7_worthOf_13 ?_
  refine lv_icmp_ge (tgt := 52) hx hb dX7_worthOf_14 (by decide) (fun _ => ?_) (fun q9 => absurd q9 (by decide +kernel))
  refine lv_iload_n hx hb dX7_worthOf_52 rfl (lv_at hl 1 rfl) ?_
  exact k_ri B hP hD hS dX7_worthOf_53 () [0, 1] rfl rfl rfl (Nat.le_of_ble_eq_true rfl) (Nat.le_of_ble_eq_true rfl) rfl
set_option maxHeartbeats 4000000 in
set_option maxRecDepth 100000 in
theorem c_X7_most_v0 (l : Launch) (dC : Nat → ClassId) (dI : Nat → Nat → Nat) (cI cJ cZ cM : ClassId) (p0 : Nat) (p1 : Int32) (p2 : Int32) (p3 : Nat → Nat)   : k_Mi l yX7_most wsX7_most ({ frames := 3, cells := 0, slots := 0, locals := 88 }) (dC, dI) vwCl (tyy cI cJ cZ cM) [(p0, .inr (7, oM p3 i7 j7)), ((p3 49), .inl (cI, 22, .inl (fun _ => 0))), ((p3 50), .inl (cI, 22, .inl (fun _ => 0))), ((p3 72), .inl (cI, 9216, .inl (fun _ => 0))), ((p3 14), .inl (cI, 2, .inl (fun _ => 0))), ((p3 18), .inl (cI, 2, .inl (fun _ => 0)))] [.ref p0, .int p1, .int p2] 0 0 (fun (u9 : (Nat × (Nat → Nat))) => match u9.1 with | 0 => [(p0, .inr (7, oM p3 i7 j7)), ((p3 49), .inl (cI, 22, .inl (fun _ => 0))), ((p3 50), .inl (cI, 22, .inl (fun _ => 0))), ((p3 72), .inl (cI, 9216, .inl (fun _ => 0))), ((p3 14), .inl (cI, 2, .inl (fun _ => 0))), ((p3 18), .inl (cI, 2, .inl (fun _ => 0)))] | 1 => [(p0, .inr (7, oM p3 i7 j7)), ((p3 49), .inl (cI, 22, .inl (fun _ => 0))), ((p3 50), .inl (cI, 22, .inl (fun _ => 0))), ((p3 72), .inl (cI, 9216, .inl (fun _ => 0))), ((p3 14), .inl (cI, 2, .inl (fun _ => 0))), ((p3 18), .inl (cI, 2, .inl (fun _ => 0)))] | 2 => [(p0, .inr (7, oM p3 i7 j7)), ((p3 49), .inl (cI, 22, .inl (fun _ => 0))), ((p3 50), .inl (cI, 22, .inl (fun _ => 0))), ((p3 72), .inl (cI, 9216, .inl (fun _ => 0))), ((p3 14), .inl (cI, 2, .inl (fun _ => 0))), ((p3 18), .inl (cI, 2, .inl (fun _ => 0)))] | 3 => [(p0, .inr (7, oM p3 i7 j7)), ((p3 49), .inl (cI, 22, .inl (fun _ => 0))), ((p3 50), .inl (cI, 22, .inl (fun _ => 0))), ((p3 72), .inl (cI, 9216, .inl (fun _ => 0))), ((p3 14), .inl (cI, 2, .inl (fun _ => 0))), ((p3 18), .inl (cI, 2, .inl (fun _ => 0)))] | 4 => [(p0, .inr (7, oM p3 (upd (upd i7 75 0) 76 0) j7)), ((p3 49), .inl (cI, 22, .inl (fun _ => 0))), ((p3 50), .inl (cI, 22, .inl (fun _ => 0))), ((p3 72), .inl (cI, 9216, .inl (upd (fun _ => (-1)) 0 0))), ((p3 14), .inl (cI, 2, .inl (fun _ => 0))), ((p3 18), .inl (cI, 2, .inl (fun _ => 0)))] | 5 => [(p0, .inr (7, oM p3 (upd (upd i7 75 0) 76 0) j7)), ((p3 49), .inl (cI, 22, .inl (fun _ => 0))), ((p3 50), .inl (cI, 22, .inl (fun _ => 0))), ((p3 72), .inl (cI, 9216, .inl (upd (fun _ => (-1)) 0 0))), ((p3 14), .inl (cI, 2, .inl (fun _ => 0))), ((p3 18), .inl (cI, 2, .inl (fun _ => 0)))] | 6 => [(p0, .inr (7, oM p3 (upd (upd i7 75 0) 76 0) j7)), ((p3 49), .inl (cI, 22, .inl (fun _ => 0))), ((p3 50), .inl (cI, 22, .inl (fun _ => 0))), ((p3 72), .inl (cI, 9216, .inl (upd (fun _ => (-1)) 0 0))), ((p3 14), .inl (cI, 2, .inl (fun _ => 0))), ((p3 18), .inl (cI, 2, .inl (fun _ => 0)))] | 7 => [(p0, .inr (7, oM p3 (upd (upd i7 75 0) 76 0) j7)), ((p3 49), .inl (cI, 22, .inl (fun _ => 0))), ((p3 50), .inl (cI, 22, .inl (fun _ => 0))), ((p3 72), .inl (cI, 9216, .inl (upd (fun _ => (-1)) 0 0))), ((p3 14), .inl (cI, 2, .inl (fun _ => 0))), ((p3 18), .inl (cI, 2, .inl (fun _ => 0)))] | 8 => [(p0, .inr (7, oM p3 (upd (upd i7 75 0) 76 0) j7)), ((p3 49), .inl (cI, 22, .inl (fun _ => 0))), ((p3 50), .inl (cI, 22, .inl (fun _ => 0))), ((p3 72), .inl (cI, 9216, .inl (upd (fun _ => (-1)) 0 0))), ((p3 14), .inl (cI, 2, .inl (fun _ => 0))), ((p3 18), .inl (cI, 2, .inl (fun _ => 0)))] | 9 => [(p0, .inr (7, oM p3 (upd (upd i7 75 0) 76 0) j7)), ((p3 49), .inl (cI, 22, .inl (fun _ => 0))), ((p3 50), .inl (cI, 22, .inl (fun _ => 0))), ((p3 72), .inl (cI, 9216, .inl (upd (fun _ => (-1)) 0 0))), ((p3 14), .inl (cI, 2, .inl (fun _ => 0))), ((p3 18), .inl (cI, 2, .inl (fun _ => 0)))] | 10 => [(p0, .inr (7, oM p3 (upd (upd i7 75 0) 76 0) j7)), ((p3 49), .inl (cI, 22, .inl (fun _ => 0))), ((p3 50), .inl (cI, 22, .inl (fun _ => 0))), ((p3 72), .inl (cI, 9216, .inl (upd (fun _ => (-1)) 0 0))), ((p3 14), .inl (cI, 2, .inl (fun _ => 0))), ((p3 18), .inl (cI, 2, .inl (fun _ => 0)))] | 11 => [(p0, .inr (7, oM p3 (upd (upd i7 75 0) 76 0) j7)), ((p3 49), .inl (cI, 22, .inl (fun _ => 0))), ((p3 50), .inl (cI, 22, .inl (fun _ => 0))), ((p3 72), .inl (cI, 9216, .inl (upd (fun _ => (-1)) 0 0))), ((p3 14), .inl (cI, 2, .inl (fun _ => 0))), ((p3 18), .inl (cI, 2, .inl (fun _ => 0)))] | 12 => [(p0, .inr (7, oM p3 (upd (upd i7 75 0) 76 0) j7)), ((p3 49), .inl (cI, 22, .inl (fun _ => 0))), ((p3 50), .inl (cI, 22, .inl (fun _ => 0))), ((p3 72), .inl (cI, 9216, .inl (upd (fun _ => (-1)) 0 0))), ((p3 14), .inl (cI, 2, .inl (fun _ => 0))), ((p3 18), .inl (cI, 2, .inl (fun _ => 0)))] | 13 => [(p0, .inr (7, oM p3 (upd (upd i7 75 0) 76 0) j7)), ((p3 49), .inl (cI, 22, .inl (fun _ => 0))), ((p3 50), .inl (cI, 22, .inl (fun _ => 0))), ((p3 72), .inl (cI, 9216, .inl (upd (fun _ => (-1)) 0 0))), ((p3 14), .inl (cI, 2, .inl (fun _ => 0))), ((p3 18), .inl (cI, 2, .inl (fun _ => 0)))] | 14 => [(p0, .inr (7, oM p3 (upd (upd i7 75 0) 76 0) j7)), ((p3 49), .inl (cI, 22, .inl (fun _ => 0))), ((p3 50), .inl (cI, 22, .inl (fun _ => 0))), ((p3 72), .inl (cI, 9216, .inl (upd (fun _ => (-1)) 0 0))), ((p3 14), .inl (cI, 2, .inl (fun _ => 0))), ((p3 18), .inl (cI, 2, .inl (fun _ => 0)))] | 15 => [(p0, .inr (7, oM p3 (upd (upd i7 75 0) 76 0) j7)), ((p3 49), .inl (cI, 22, .inl (fun _ => 0))), ((p3 50), .inl (cI, 22, .inl (fun _ => 0))), ((p3 72), .inl (cI, 9216, .inl (upd (fun _ => (-1)) 0 0))), ((p3 14), .inl (cI, 2, .inl (fun _ => 0))), ((p3 18), .inl (cI, 2, .inl (fun _ => 0)))] | 16 => [(p0, .inr (7, oM p3 (upd (upd i7 75 0) 76 0) j7)), ((p3 49), .inl (cI, 22, .inl (fun _ => 0))), ((p3 50), .inl (cI, 22, .inl (fun _ => 0))), ((p3 72), .inl (cI, 9216, .inl (upd (fun _ => (-1)) 0 0))), ((p3 14), .inl (cI, 2, .inl (fun _ => 0))), ((p3 18), .inl (cI, 2, .inl (fun _ => 0)))] | 17 => [(p0, .inr (7, oM p3 (upd (upd i7 75 0) 76 0) j7)), ((p3 49), .inl (cI, 22, .inl (fun _ => 0))), ((p3 50), .inl (cI, 22, .inl (fun _ => 0))), ((p3 72), .inl (cI, 9216, .inl (upd (fun _ => (-1)) 0 0))), ((p3 14), .inl (cI, 2, .inl (fun _ => 0))), ((p3 18), .inl (cI, 2, .inl (fun _ => 0)))] | 18 => [(p0, .inr (7, oM p3 (upd (upd i7 75 0) 76 0) j7)), ((p3 49), .inl (cI, 22, .inl (fun _ => 0))), ((p3 50), .inl (cI, 22, .inl (fun _ => 0))), ((p3 72), .inl (cI, 9216, .inl (upd (fun _ => (-1)) 0 0))), ((p3 14), .inl (cI, 2, .inl (fun _ => 0))), ((p3 18), .inl (cI, 2, .inl (fun _ => 0)))] | 19 => [(p0, .inr (7, oM p3 (upd (upd i7 75 0) 76 0) j7)), ((p3 49), .inl (cI, 22, .inl (fun _ => 0))), ((p3 50), .inl (cI, 22, .inl (fun _ => 0))), ((p3 72), .inl (cI, 9216, .inl (upd (fun _ => (-1)) 0 0))), ((p3 14), .inl (cI, 2, .inl (fun _ => 0))), ((p3 18), .inl (cI, 2, .inl (fun _ => 0)))] | 20 => [(p0, .inr (7, oM p3 (upd (upd i7 75 0) 76 0) j7)), ((p3 49), .inl (cI, 22, .inl (fun _ => 0))), ((p3 50), .inl (cI, 22, .inl (fun _ => 0))), ((p3 72), .inl (cI, 9216, .inl (upd (fun _ => (-1)) 0 0))), ((p3 14), .inl (cI, 2, .inl (fun _ => 0))), ((p3 18), .inl (cI, 2, .inl (fun _ => 0)))] | 21 => [(p0, .inr (7, oM p3 (upd (upd i7 75 0) 76 0) j7)), ((p3 49), .inl (cI, 22, .inl (fun _ => 0))), ((p3 50), .inl (cI, 22, .inl (fun _ => 0))), ((p3 72), .inl (cI, 9216, .inl (upd (fun _ => (-1)) 0 0))), ((p3 14), .inl (cI, 2, .inl (fun _ => 0))), ((p3 18), .inl (cI, 2, .inl (fun _ => 0)))] | 22 => [(p0, .inr (7, oM p3 (upd (upd i7 75 0) 76 0) j7)), ((p3 49), .inl (cI, 22, .inl (fun _ => 0))), ((p3 50), .inl (cI, 22, .inl (fun _ => 0))), ((p3 72), .inl (cI, 9216, .inl (upd (fun _ => (-1)) 0 0))), ((p3 14), .inl (cI, 2, .inl (fun _ => 0))), ((p3 18), .inl (cI, 2, .inl (fun _ => 0)))] | 23 => [(p0, .inr (7, oM p3 (upd (upd i7 75 0) 76 0) j7)), ((p3 49), .inl (cI, 22, .inl (fun _ => 0))), ((p3 50), .inl (cI, 22, .inl (fun _ => 0))), ((p3 72), .inl (cI, 9216, .inl (upd (fun _ => (-1)) 0 0))), ((p3 14), .inl (cI, 2, .inl (fun _ => 0))), ((p3 18), .inl (cI, 2, .inl (fun _ => 0)))] | 24 => [(p0, .inr (7, oM p3 (upd (upd i7 75 0) 76 0) j7)), ((p3 49), .inl (cI, 22, .inl (fun _ => 0))), ((p3 50), .inl (cI, 22, .inl (fun _ => 0))), ((p3 72), .inl (cI, 9216, .inl (upd (fun _ => (-1)) 0 0))), ((p3 14), .inl (cI, 2, .inl (fun _ => 0))), ((p3 18), .inl (cI, 2, .inl (fun _ => 0)))] | 25 => [(p0, .inr (7, oM p3 (upd (upd i7 75 0) 76 0) j7)), ((p3 49), .inl (cI, 22, .inl (fun _ => 0))), ((p3 50), .inl (cI, 22, .inl (fun _ => 0))), ((p3 72), .inl (cI, 9216, .inl (upd (fun _ => (-1)) 0 0))), ((p3 14), .inl (cI, 2, .inl (fun _ => 0))), ((p3 18), .inl (cI, 2, .inl (fun _ => 0)))] | 26 => [(p0, .inr (7, oM p3 (upd (upd i7 75 0) 76 0) j7)), ((p3 49), .inl (cI, 22, .inl (fun _ => 0))), ((p3 50), .inl (cI, 22, .inl (fun _ => 0))), ((p3 72), .inl (cI, 9216, .inl (upd (fun _ => (-1)) 0 0))), ((p3 14), .inl (cI, 2, .inl (fun _ => 0))), ((p3 18), .inl (cI, 2, .inl (fun _ => 0)))] | 27 => [(p0, .inr (7, oM p3 (upd (upd i7 75 0) 76 0) j7)), ((p3 49), .inl (cI, 22, .inl (fun _ => 0))), ((p3 50), .inl (cI, 22, .inl (fun _ => 0))), ((p3 72), .inl (cI, 9216, .inl (upd (fun _ => (-1)) 0 0))), ((p3 14), .inl (cI, 2, .inl (fun _ => 0))), ((p3 18), .inl (cI, 2, .inl (fun _ => 0)))] | 28 => [(p0, .inr (7, oM p3 (upd (upd i7 75 0) 76 0) j7)), ((p3 49), .inl (cI, 22, .inl (fun _ => 0))), ((p3 50), .inl (cI, 22, .inl (fun _ => 0))), ((p3 72), .inl (cI, 9216, .inl (upd (fun _ => (-1)) 0 0))), ((p3 14), .inl (cI, 2, .inl (fun _ => 0))), ((p3 18), .inl (cI, 2, .inl (fun _ => 0)))] | 29 => [(p0, .inr (7, oM p3 (upd (upd i7 75 0) 76 0) j7)), ((p3 49), .inl (cI, 22, .inl (fun _ => 0))), ((p3 50), .inl (cI, 22, .inl (fun _ => 0))), ((p3 72), .inl (cI, 9216, .inl (upd (fun _ => (-1)) 0 0))), ((p3 14), .inl (cI, 2, .inl (fun _ => 0))), ((p3 18), .inl (cI, 2, .inl (fun _ => 0)))] | 30 => [(p0, .inr (7, oM p3 (upd (upd i7 75 0) 76 0) j7)), ((p3 49), .inl (cI, 22, .inl (fun _ => 0))), ((p3 50), .inl (cI, 22, .inl (fun _ => 0))), ((p3 72), .inl (cI, 9216, .inl (upd (fun _ => (-1)) 0 0))), ((p3 14), .inl (cI, 2, .inl (fun _ => 0))), ((p3 18), .inl (cI, 2, .inl (fun _ => 0)))] | 31 => [(p0, .inr (7, oM p3 (upd (upd i7 75 0) 76 0) j7)), ((p3 49), .inl (cI, 22, .inl (fun _ => 0))), ((p3 50), .inl (cI, 22, .inl (fun _ => 0))), ((p3 72), .inl (cI, 9216, .inl (upd (fun _ => (-1)) 0 0))), ((p3 14), .inl (cI, 2, .inl (fun _ => 0))), ((p3 18), .inl (cI, 2, .inl (fun _ => 0)))] | 32 => [(p0, .inr (7, oM p3 (upd (upd i7 75 0) 76 0) j7)), ((p3 49), .inl (cI, 22, .inl (fun _ => 0))), ((p3 50), .inl (cI, 22, .inl (fun _ => 0))), ((p3 72), .inl (cI, 9216, .inl (upd (fun _ => (-1)) 0 0))), ((p3 14), .inl (cI, 2, .inl (fun _ => 0))), ((p3 18), .inl (cI, 2, .inl (fun _ => 0)))] | 33 => [(p0, .inr (7, oM p3 (upd (upd i7 75 0) 76 0) j7)), ((p3 49), .inl (cI, 22, .inl (fun _ => 0))), ((p3 50), .inl (cI, 22, .inl (fun _ => 0))), ((p3 72), .inl (cI, 9216, .inl (upd (fun _ => (-1)) 0 0))), ((p3 14), .inl (cI, 2, .inl (fun _ => 0))), ((p3 18), .inl (cI, 2, .inl (fun _ => 0)))] | 34 => [(p0, .inr (7, oM p3 (upd (upd i7 75 0) 76 0) j7)), ((p3 49), .inl (cI, 22, .inl (fun _ => 0))), ((p3 50), .inl (cI, 22, .inl (fun _ => 0))), ((p3 72), .inl (cI, 9216, .inl (upd (fun _ => (-1)) 0 0))), ((p3 14), .inl (cI, 2, .inl (fun _ => 0))), ((p3 18), .inl (cI, 2, .inl (fun _ => 0)))] | 35 => [(p0, .inr (7, oM p3 (upd (upd i7 75 0) 76 0) j7)), ((p3 49), .inl (cI, 22, .inl (fun _ => 0))), ((p3 50), .inl (cI, 22, .inl (fun _ => 0))), ((p3 72), .inl (cI, 9216, .inl (upd (fun _ => (-1)) 0 0))), ((p3 14), .inl (cI, 2, .inl (fun _ => 0))), ((p3 18), .inl (cI, 2, .inl (fun _ => 0)))] | 36 => [(p0, .inr (7, oM p3 (upd (upd i7 75 0) 76 0) j7)), ((p3 49), .inl (cI, 22, .inl (fun _ => 0))), ((p3 50), .inl (cI, 22, .inl (fun _ => 0))), ((p3 72), .inl (cI, 9216, .inl (upd (fun _ => (-1)) 0 0))), ((p3 14), .inl (cI, 2, .inl (fun _ => 0))), ((p3 18), .inl (cI, 2, .inl (fun _ => 0)))] | 37 => [(p0, .inr (7, oM p3 (upd (upd i7 75 0) 76 0) j7)), ((p3 49), .inl (cI, 22, .inl (fun _ => 0))), ((p3 50), .inl (cI, 22, .inl (fun _ => 0))), ((p3 72), .inl (cI, 9216, .inl (upd (fun _ => (-1)) 0 0))), ((p3 14), .inl (cI, 2, .inl (fun _ => 0))), ((p3 18), .inl (cI, 2, .inl (fun _ => 0)))] | 38 => [(p0, .inr (7, oM p3 (upd (upd i7 75 0) 76 0) j7)), ((p3 49), .inl (cI, 22, .inl (fun _ => 0))), ((p3 50), .inl (cI, 22, .inl (fun _ => 0))), ((p3 72), .inl (cI, 9216, .inl (upd (fun _ => (-1)) 0 0))), ((p3 14), .inl (cI, 2, .inl (fun _ => 0))), ((p3 18), .inl (cI, 2, .inl (fun _ => 0)))] | 39 => [(p0, .inr (7, oM p3 (upd (upd i7 75 0) 76 0) j7)), ((p3 49), .inl (cI, 22, .inl (fun _ => 0))), ((p3 50), .inl (cI, 22, .inl (fun _ => 0))), ((p3 72), .inl (cI, 9216, .inl (upd (fun _ => (-1)) 0 0))), ((p3 14), .inl (cI, 2, .inl (fun _ => 0))), ((p3 18), .inl (cI, 2, .inl (fun _ => 0)))] | _ => []) (fun (r9 : Int32) (u9 : (Nat × (Nat → Nat))) => match u9.1 with | 0 => (p1.toInt < 0) ∧ r9 = (-1) | 1 => (0 ≤ p1.toInt) ∧ (8 < p1.toInt) ∧ r9 = (-1) | 2 => (0 ≤ p1.toInt) ∧ (p1.toInt ≤ 8) ∧ (p2.toInt < 0) ∧ r9 = (-1) | 3 => (0 ≤ p1.toInt) ∧ (p1.toInt ≤ 8) ∧ (0 ≤ p2.toInt) ∧ (3 < p2.toInt) ∧ r9 = (-1) | 4 => (0 ≤ p1.toInt) ∧ (p1.toInt ≤ 8) ∧ (0 ≤ p2.toInt) ∧ (p2.toInt ≤ 3) ∧ (0 ≤ p1.toInt) ∧ (p1.toInt < 1) ∧ (¬ p2.toInt = 0) ∧ (¬ p2.toInt = 1) ∧ (¬ p2.toInt = 2) ∧ r9 = 0 | 5 => (0 ≤ p1.toInt) ∧ (p1.toInt ≤ 8) ∧ (0 ≤ p2.toInt) ∧ (p2.toInt ≤ 3) ∧ (0 ≤ p1.toInt) ∧ (p1.toInt < 1) ∧ (¬ p2.toInt = 0) ∧ (¬ p2.toInt = 1) ∧ (p2.toInt = 2) ∧ r9 = 0 | 6 => (0 ≤ p1.toInt) ∧ (p1.toInt ≤ 8) ∧ (0 ≤ p2.toInt) ∧ (p2.toInt ≤ 3) ∧ (0 ≤ p1.toInt) ∧ (p1.toInt < 1) ∧ (¬ p2.toInt = 0) ∧ (p2.toInt = 1) ∧ r9 = 0 | 7 => (0 ≤ p1.toInt) ∧ (p1.toInt ≤ 8) ∧ (0 ≤ p2.toInt) ∧ (p2.toInt ≤ 3) ∧ (0 ≤ p1.toInt) ∧ (p1.toInt < 1) ∧ (p2.toInt = 0) ∧ r9 = 0 | 8 => (0 ≤ p1.toInt) ∧ (p1.toInt ≤ 8) ∧ (0 ≤ p2.toInt) ∧ (p2.toInt ≤ 3) ∧ (0 ≤ p1.toInt) ∧ (1 ≤ p1.toInt) ∧ (p1.toInt < 2) ∧ (¬ p2.toInt = 0) ∧ (¬ p2.toInt = 1) ∧ (¬ p2.toInt = 2) ∧ r9 = 0 | 9 => (0 ≤ p1.toInt) ∧ (p1.toInt ≤ 8) ∧ (0 ≤ p2.toInt) ∧ (p2.toInt ≤ 3) ∧ (0 ≤ p1.toInt) ∧ (1 ≤ p1.toInt) ∧ (p1.toInt < 2) ∧ (¬ p2.toInt = 0) ∧ (¬ p2.toInt = 1) ∧ (p2.toInt = 2) ∧ r9 = 0 | 10 => (0 ≤ p1.toInt) ∧ (p1.toInt ≤ 8) ∧ (0 ≤ p2.toInt) ∧ (p2.toInt ≤ 3) ∧ (0 ≤ p1.toInt) ∧ (1 ≤ p1.toInt) ∧ (p1.toInt < 2) ∧ (¬ p2.toInt = 0) ∧ (p2.toInt = 1) ∧ r9 = 0 | 11 => (0 ≤ p1.toInt) ∧ (p1.toInt ≤ 8) ∧ (0 ≤ p2.toInt) ∧ (p2.toInt ≤ 3) ∧ (0 ≤ p1.toInt) ∧ (1 ≤ p1.toInt) ∧ (p1.toInt < 2) ∧ (p2.toInt = 0) ∧ r9 = 0 | 12 => (0 ≤ p1.toInt) ∧ (p1.toInt ≤ 8) ∧ (0 ≤ p2.toInt) ∧ (p2.toInt ≤ 3) ∧ (0 ≤ p1.toInt) ∧ (1 ≤ p1.toInt) ∧ (2 ≤ p1.toInt) ∧ (p1.toInt < 3) ∧ (¬ p2.toInt = 0) ∧ (¬ p2.toInt = 1) ∧ (¬ p2.toInt = 2) ∧ r9 = 0 | 13 => (0 ≤ p1.toInt) ∧ (p1.toInt ≤ 8) ∧ (0 ≤ p2.toInt) ∧ (p2.toInt ≤ 3) ∧ (0 ≤ p1.toInt) ∧ (1 ≤ p1.toInt) ∧ (2 ≤ p1.toInt) ∧ (p1.toInt < 3) ∧ (¬ p2.toInt = 0) ∧ (¬ p2.toInt = 1) ∧ (p2.toInt = 2) ∧ r9 = 0 | 14 => (0 ≤ p1.toInt) ∧ (p1.toInt ≤ 8) ∧ (0 ≤ p2.toInt) ∧ (p2.toInt ≤ 3) ∧ (0 ≤ p1.toInt) ∧ (1 ≤ p1.toInt) ∧ (2 ≤ p1.toInt) ∧ (p1.toInt < 3) ∧ (¬ p2.toInt = 0) ∧ (p2.toInt = 1) ∧ r9 = 0 | 15 => (0 ≤ p1.toInt) ∧ (p1.toInt ≤ 8) ∧ (0 ≤ p2.toInt) ∧ (p2.toInt ≤ 3) ∧ (0 ≤ p1.toInt) ∧ (1 ≤ p1.toInt) ∧ (2 ≤ p1.toInt) ∧ (p1.toInt < 3) ∧ (p2.toInt = 0) ∧ r9 = 0 | 16 => (0 ≤ p1.toInt) ∧ (p1.toInt ≤ 8) ∧ (0 ≤ p2.toInt) ∧ (p2.toInt ≤ 3) ∧ (0 ≤ p1.toInt) ∧ (1 ≤ p1.toInt) ∧ (2 ≤ p1.toInt) ∧ (3 ≤ p1.toInt) ∧ (p1.toInt < 4) ∧ (¬ p2.toInt = 0) ∧ (¬ p2.toInt = 1) ∧ (¬ p2.toInt = 2) ∧ r9 = 0 | 17 => (0 ≤ p1.toInt) ∧ (p1.toInt ≤ 8) ∧ (0 ≤ p2.toInt) ∧ (p2.toInt ≤ 3) ∧ (0 ≤ p1.toInt) ∧ (1 ≤ p1.toInt) ∧ (2 ≤ p1.toInt) ∧ (3 ≤ p1.toInt) ∧ (p1.toInt < 4) ∧ (¬ p2.toInt = 0) ∧ (¬ p2.toInt = 1) ∧ (p2.toInt = 2) ∧ r9 = 0 | 18 => (0 ≤ p1.toInt) ∧ (p1.toInt ≤ 8) ∧ (0 ≤ p2.toInt) ∧ (p2.toInt ≤ 3) ∧ (0 ≤ p1.toInt) ∧ (1 ≤ p1.toInt) ∧ (2 ≤ p1.toInt) ∧ (3 ≤ p1.toInt) ∧ (p1.toInt < 4) ∧ (¬ p2.toInt = 0) ∧ (p2.toInt = 1) ∧ r9 = 0 | 19 => (0 ≤ p1.toInt) ∧ (p1.toInt ≤ 8) ∧ (0 ≤ p2.toInt) ∧ (p2.toInt ≤ 3) ∧ (0 ≤ p1.toInt) ∧ (1 ≤ p1.toInt) ∧ (2 ≤ p1.toInt) ∧ (3 ≤ p1.toInt) ∧ (p1.toInt < 4) ∧ (p2.toInt = 0) ∧ r9 = 0 | 20 => (0 ≤ p1.toInt) ∧ (p1.toInt ≤ 8) ∧ (0 ≤ p2.toInt) ∧ (p2.toInt ≤ 3) ∧ (0 ≤ p1.toInt) ∧ (1 ≤ p1.toInt) ∧ (2 ≤ p1.toInt) ∧ (3 ≤ p1.toInt) ∧ (4 ≤ p1.toInt) ∧ (p1.toInt < 5) ∧ (¬ p2.toInt = 0) ∧ (¬ p2.toInt = 1) ∧ (¬ p2.toInt = 2) ∧ r9 = 0 | 21 => (0 ≤ p1.toInt) ∧ (p1.toInt ≤ 8) ∧ (0 ≤ p2.toInt) ∧ (p2.toInt ≤ 3) ∧ (0 ≤ p1.toInt) ∧ (1 ≤ p1.toInt) ∧ (2 ≤ p1.toInt) ∧ (3 ≤ p1.toInt) ∧ (4 ≤ p1.toInt) ∧ (p1.toInt < 5) ∧ (¬ p2.toInt = 0) ∧ (¬ p2.toInt = 1) ∧ (p2.toInt = 2) ∧ r9 = 0 | 22 => (0 ≤ p1.toInt) ∧ (p1.toInt ≤ 8) ∧ (0 ≤ p2.toInt) ∧ (p2.toInt ≤ 3) ∧ (0 ≤ p1.toInt) ∧ (1 ≤ p1.toInt) ∧ (2 ≤ p1.toInt) ∧ (3 ≤ p1.toInt) ∧ (4 ≤ p1.toInt) ∧ (p1.toInt < 5) ∧ (¬ p2.toInt = 0) ∧ (p2.toInt = 1) ∧ r9 = 0 | 23 => (0 ≤ p1.toInt) ∧ (p1.toInt ≤ 8) ∧ (0 ≤ p2.toInt) ∧ (p2.toInt ≤ 3) ∧ (0 ≤ p1.toInt) ∧ (1 ≤ p1.toInt) ∧ (2 ≤ p1.toInt) ∧ (3 ≤ p1.toInt) ∧ (4 ≤ p1.toInt) ∧ (p1.toInt < 5) ∧ (p2.toInt = 0) ∧ r9 = 0 | 24 => (0 ≤ p1.toInt) ∧ (p1.toInt ≤ 8) ∧ (0 ≤ p2.toInt) ∧ (p2.toInt ≤ 3) ∧ (0 ≤ p1.toInt) ∧ (1 ≤ p1.toInt) ∧ (2 ≤ p1.toInt) ∧ (3 ≤ p1.toInt) ∧ (4 ≤ p1.toInt) ∧ (5 ≤ p1.toInt) ∧ (p1.toInt < 6) ∧ (¬ p2.toInt = 0) ∧ (¬ p2.toInt = 1) ∧ (¬ p2.toInt = 2) ∧ r9 = 0 | 25 => (0 ≤ p1.toInt) ∧ (p1.toInt ≤ 8) ∧ (0 ≤ p2.toInt) ∧ (p2.toInt ≤ 3) ∧ (0 ≤ p1.toInt) ∧ (1 ≤ p1.toInt) ∧ (2 ≤ p1.toInt) ∧ (3 ≤ p1.toInt) ∧ (4 ≤ p1.toInt) ∧ (5 ≤ p1.toInt) ∧ (p1.toInt < 6) ∧ (¬ p2.toInt = 0) ∧ (¬ p2.toInt = 1) ∧ (p2.toInt = 2) ∧ r9 = 0 | 26 => (0 ≤ p1.toInt) ∧ (p1.toInt ≤ 8) ∧ (0 ≤ p2.toInt) ∧ (p2.toInt ≤ 3) ∧ (0 ≤ p1.toInt) ∧ (1 ≤ p1.toInt) ∧ (2 ≤ p1.toInt) ∧ (3 ≤ p1.toInt) ∧ (4 ≤ p1.toInt) ∧ (5 ≤ p1.toInt) ∧ (p1.toInt < 6) ∧ (¬ p2.toInt = 0) ∧ (p2.toInt = 1) ∧ r9 = 0 | 27 => (0 ≤ p1.toInt) ∧ (p1.toInt ≤ 8) ∧ (0 ≤ p2.toInt) ∧ (p2.toInt ≤ 3) ∧ (0 ≤ p1.toInt) ∧ (1 ≤ p1.toInt) ∧ (2 ≤ p1.toInt) ∧ (3 ≤ p1.toInt) ∧ (4 ≤ p1.toInt) ∧ (5 ≤ p1.toInt) ∧ (p1.toInt < 6) ∧ (p2.toInt = 0) ∧ r9 = 0 | 28 => (0 ≤ p1.toInt) ∧ (p1.toInt ≤ 8) ∧ (0 ≤ p2.toInt) ∧ (p2.toInt ≤ 3) ∧ (0 ≤ p1.toInt) ∧ (1 ≤ p1.toInt) ∧ (2 ≤ p1.toInt) ∧ (3 ≤ p1.toInt) ∧ (4 ≤ p1.toInt) ∧ (5 ≤ p1.toInt) ∧ (6 ≤ p1.toInt) ∧ (p1.toInt < 7) ∧ (¬ p2.toInt = 0) ∧ (¬ p2.toInt = 1) ∧ (¬ p2.toInt = 2) ∧ r9 = 0 | 29 => (0 ≤ p1.toInt) ∧ (p1.toInt ≤ 8) ∧ (0 ≤ p2.toInt) ∧ (p2.toInt ≤ 3) ∧ (0 ≤ p1.toInt) ∧ (1 ≤ p1.toInt) ∧ (2 ≤ p1.toInt) ∧ (3 ≤ p1.toInt) ∧ (4 ≤ p1.toInt) ∧ (5 ≤ p1.toInt) ∧ (6 ≤ p1.toInt) ∧ (p1.toInt < 7) ∧ (¬ p2.toInt = 0) ∧ (¬ p2.toInt = 1) ∧ (p2.toInt = 2) ∧ r9 = 0 | 30 => (0 ≤ p1.toInt) ∧ (p1.toInt ≤ 8) ∧ (0 ≤ p2.toInt) ∧ (p2.toInt ≤ 3) ∧ (0 ≤ p1.toInt) ∧ (1 ≤ p1.toInt) ∧ (2 ≤ p1.toInt) ∧ (3 ≤ p1.toInt) ∧ (4 ≤ p1.toInt) ∧ (5 ≤ p1.toInt) ∧ (6 ≤ p1.toInt) ∧ (p1.toInt < 7) ∧ (¬ p2.toInt = 0) ∧ (p2.toInt = 1) ∧ r9 = 0 | 31 => (0 ≤ p1.toInt) ∧ (p1.toInt ≤ 8) ∧ (0 ≤ p2.toInt) ∧ (p2.toInt ≤ 3) ∧ (0 ≤ p1.toInt) ∧ (1 ≤ p1.toInt) ∧ (2 ≤ p1.toInt) ∧ (3 ≤ p1.toInt) ∧ (4 ≤ p1.toInt) ∧ (5 ≤ p1.toInt) ∧ (6 ≤ p1.toInt) ∧ (p1.toInt < 7) ∧ (p2.toInt = 0) ∧ r9 = 0 | 32 => (0 ≤ p1.toInt) ∧ (p1.toInt ≤ 8) ∧ (0 ≤ p2.toInt) ∧ (p2.toInt ≤ 3) ∧ (0 ≤ p1.toInt) ∧ (1 ≤ p1.toInt) ∧ (2 ≤ p1.toInt) ∧ (3 ≤ p1.toInt) ∧ (4 ≤ p1.toInt) ∧ (5 ≤ p1.toInt) ∧ (6 ≤ p1.toInt) ∧ (7 ≤ p1.toInt) ∧ (p1.toInt < 8) ∧ (¬ p2.toInt = 0) ∧ (¬ p2.toInt = 1) ∧ (¬ p2.toInt = 2) ∧ r9 = 0 | 33 => (0 ≤ p1.toInt) ∧ (p1.toInt ≤ 8) ∧ (0 ≤ p2.toInt) ∧ (p2.toInt ≤ 3) ∧ (0 ≤ p1.toInt) ∧ (1 ≤ p1.toInt) ∧ (2 ≤ p1.toInt) ∧ (3 ≤ p1.toInt) ∧ (4 ≤ p1.toInt) ∧ (5 ≤ p1.toInt) ∧ (6 ≤ p1.toInt) ∧ (7 ≤ p1.toInt) ∧ (p1.toInt < 8) ∧ (¬ p2.toInt = 0) ∧ (¬ p2.toInt = 1) ∧ (p2.toInt = 2) ∧ r9 = 0 | 34 => (0 ≤ p1.toInt) ∧ (p1.toInt ≤ 8) ∧ (0 ≤ p2.toInt) ∧ (p2.toInt ≤ 3) ∧ (0 ≤ p1.toInt) ∧ (1 ≤ p1.toInt) ∧ (2 ≤ p1.toInt) ∧ (3 ≤ p1.toInt) ∧ (4 ≤ p1.toInt) ∧ (5 ≤ p1.toInt) ∧ (6 ≤ p1.toInt) ∧ (7 ≤ p1.toInt) ∧ (p1.toInt < 8) ∧ (¬ p2.toInt = 0) ∧ (p2.toInt = 1) ∧ r9 = 0 | 35 => (0 ≤ p1.toInt) ∧ (p1.toInt ≤ 8) ∧ (0 ≤ p2.toInt) ∧ (p2.toInt ≤ 3) ∧ (0 ≤ p1.toInt) ∧ (1 ≤ p1.toInt) ∧ (2 ≤ p1.toInt) ∧ (3 ≤ p1.toInt) ∧ (4 ≤ p1.toInt) ∧ (5 ≤ p1.toInt) ∧ (6 ≤ p1.toInt) ∧ (7 ≤ p1.toInt) ∧ (p1.toInt < 8) ∧ (p2.toInt = 0) ∧ r9 = 0 | 36 => (0 ≤ p1.toInt) ∧ (p1.toInt ≤ 8) ∧ (0 ≤ p2.toInt) ∧ (p2.toInt ≤ 3) ∧ (0 ≤ p1.toInt) ∧ (1 ≤ p1.toInt) ∧ (2 ≤ p1.toInt) ∧ (3 ≤ p1.toInt) ∧ (4 ≤ p1.toInt) ∧ (5 ≤ p1.toInt) ∧ (6 ≤ p1.toInt) ∧ (7 ≤ p1.toInt) ∧ (8 ≤ p1.toInt) ∧ (p1.toInt < 9) ∧ (¬ p2.toInt = 0) ∧ (¬ p2.toInt = 1) ∧ (¬ p2.toInt = 2) ∧ r9 = 0 | 37 => (0 ≤ p1.toInt) ∧ (p1.toInt ≤ 8) ∧ (0 ≤ p2.toInt) ∧ (p2.toInt ≤ 3) ∧ (0 ≤ p1.toInt) ∧ (1 ≤ p1.toInt) ∧ (2 ≤ p1.toInt) ∧ (3 ≤ p1.toInt) ∧ (4 ≤ p1.toInt) ∧ (5 ≤ p1.toInt) ∧ (6 ≤ p1.toInt) ∧ (7 ≤ p1.toInt) ∧ (8 ≤ p1.toInt) ∧ (p1.toInt < 9) ∧ (¬ p2.toInt = 0) ∧ (¬ p2.toInt = 1) ∧ (p2.toInt = 2) ∧ r9 = 0 | 38 => (0 ≤ p1.toInt) ∧ (p1.toInt ≤ 8) ∧ (0 ≤ p2.toInt) ∧ (p2.toInt ≤ 3) ∧ (0 ≤ p1.toInt) ∧ (1 ≤ p1.toInt) ∧ (2 ≤ p1.toInt) ∧ (3 ≤ p1.toInt) ∧ (4 ≤ p1.toInt) ∧ (5 ≤ p1.toInt) ∧ (6 ≤ p1.toInt) ∧ (7 ≤ p1.toInt) ∧ (8 ≤ p1.toInt) ∧ (p1.toInt < 9) ∧ (¬ p2.toInt = 0) ∧ (p2.toInt = 1) ∧ r9 = 0 | 39 => (0 ≤ p1.toInt) ∧ (p1.toInt ≤ 8) ∧ (0 ≤ p2.toInt) ∧ (p2.toInt ≤ 3) ∧ (0 ≤ p1.toInt) ∧ (1 ≤ p1.toInt) ∧ (2 ≤ p1.toInt) ∧ (3 ≤ p1.toInt) ∧ (4 ≤ p1.toInt) ∧ (5 ≤ p1.toInt) ∧ (6 ≤ p1.toInt) ∧ (7 ≤ p1.toInt) ∧ (8 ≤ p1.toInt) ∧ (p1.toInt < 9) ∧ (p2.toInt = 0) ∧ r9 = 0 | _ => False) := by
  refine fun sz => k_enter (cc := cX7_most) (maxL := 9) (ret := some (.int)) (Qc := fun A => va_Qi (fun (r9 : Int32) (u9 : (Nat × (Nat → Nat))) => match u9.1 with | 0 => (p1.toInt < 0) ∧ r9 = (-1) | 1 => (0 ≤ p1.toInt) ∧ (8 < p1.toInt) ∧ r9 = (-1) | 2 => (0 ≤ p1.toInt) ∧ (p1.toInt ≤ 8) ∧ (p2.toInt < 0) ∧ r9 = (-1) | 3 => (0 ≤ p1.toInt) ∧ (p1.toInt ≤ 8) ∧ (0 ≤ p2.toInt) ∧ (3 < p2.toInt) ∧ r9 = (-1) | 4 => (0 ≤ p1.toInt) ∧ (p1.toInt ≤ 8) ∧ (0 ≤ p2.toInt) ∧ (p2.toInt ≤ 3) ∧ (0 ≤ p1.toInt) ∧ (p1.toInt < 1) ∧ (¬ p2.toInt = 0) ∧ (¬ p2.toInt = 1) ∧ (¬ p2.toInt = 2) ∧ r9 = 0 | 5 => (0 ≤ p1.toInt) ∧ (p1.toInt ≤ 8) ∧ (0 ≤ p2.toInt) ∧ (p2.toInt ≤ 3) ∧ (0 ≤ p1.toInt) ∧ (p1.toInt < 1) ∧ (¬ p2.toInt = 0) ∧ (¬ p2.toInt = 1) ∧ (p2.toInt = 2) ∧ r9 = 0 | 6 => (0 ≤ p1.toInt) ∧ (p1.toInt ≤ 8) ∧ (0 ≤ p2.toInt) ∧ (p2.toInt ≤ 3) ∧ (0 ≤ p1.toInt) ∧ (p1.toInt < 1) ∧ (¬ p2.toInt = 0) ∧ (p2.toInt = 1) ∧ r9 = 0 | 7 => (0 ≤ p1.toInt) ∧ (p1.toInt ≤ 8) ∧ (0 ≤ p2.toInt) ∧ (p2.toInt ≤ 3) ∧ (0 ≤ p1.toInt) ∧ (p1.toInt < 1) ∧ (p2.toInt = 0) ∧ r9 = 0 | 8 => (0 ≤ p1.toInt) ∧ (p1.toInt ≤ 8) ∧ (0 ≤ p2.toInt) ∧ (p2.toInt ≤ 3) ∧ (0 ≤ p1.toInt) ∧ (1 ≤ p1.toInt) ∧ (p1.toInt < 2) ∧ (¬ p2.toInt = 0) ∧ (¬ p2.toInt = 1) ∧ (¬ p2.toInt = 2) ∧ r9 = 0 | 9 => (0 ≤ p1.toInt) ∧ (p1.toInt ≤ 8) ∧ (0 ≤ p2.toInt) ∧ (p2.toInt ≤ 3) ∧ (0 ≤ p1.toInt) ∧ (1 ≤ p1.toInt) ∧ (p1.toInt < 2) ∧ (¬ p2.toInt = 0) ∧ (¬ p2.toInt = 1) ∧ (p2.toInt = 2) ∧ r9 = 0 | 10 => (0 ≤ p1.toInt) ∧ (p1.toInt ≤ 8) ∧ (0 ≤ p2.toInt) ∧ (p2.toInt ≤ 3) ∧ (0 ≤ p1.toInt) ∧ (1 ≤ p1.toInt) ∧ (p1.toInt < 2) ∧ (¬ p2.toInt = 0) ∧ (p2.toInt = 1) ∧ r9 = 0 | 11 => (0 ≤ p1.toInt) ∧ (p1.toInt ≤ 8) ∧ (0 ≤ p2.toInt) ∧ (p2.toInt ≤ 3) ∧ (0 ≤ p1.toInt) ∧ (1 ≤ p1.toInt) ∧ (p1.toInt < 2) ∧ (p2.toInt = 0) ∧ r9 = 0 | 12 => (0 ≤ p1.toInt) ∧ (p1.toInt ≤ 8) ∧ (0 ≤ p2.toInt) ∧ (p2.toInt ≤ 3) ∧ (0 ≤ p1.toInt) ∧ (1 ≤ p1.toInt) ∧ (2 ≤ p1.toInt) ∧ (p1.toInt < 3) ∧ (¬ p2.toInt = 0) ∧ (¬ p2.toInt = 1) ∧ (¬ p2.toInt = 2) ∧ r9 = 0 | 13 => (0 ≤ p1.toInt) ∧ (p1.toInt ≤ 8) ∧ (0 ≤ p2.toInt) ∧ (p2.toInt ≤ 3) ∧ (0 ≤ p1.toInt) ∧ (1 ≤ p1.toInt) ∧ (2 ≤ p1.toInt) ∧ (p1.toInt < 3) ∧ (¬ p2.toInt = 0) ∧ (¬ p2.toInt = 1) ∧ (p2.toInt = 2) ∧ r9 = 0 | 14 => (0 ≤ p1.toInt) ∧ (p1.toInt ≤ 8) ∧ (0 ≤ p2.toInt) ∧ (p2.toInt ≤ 3) ∧ (0 ≤ p1.toInt) ∧ (1 ≤ p1.toInt) ∧ (2 ≤ p1.toInt) ∧ (p1.toInt < 3) ∧ (¬ p2.toInt = 0) ∧ (p2.toInt = 1) ∧ r9 = 0 | 15 => (0 ≤ p1.toInt) ∧ (p1.toInt ≤ 8) ∧ (0 ≤ p2.toInt) ∧ (p2.toInt ≤ 3) ∧ (0 ≤ p1.toInt) ∧ (1 ≤ p1.toInt) ∧ (2 ≤ p1.toInt) ∧ (p1.toInt < 3) ∧ (p2.toInt = 0) ∧ r9 = 0 | 16 => (0 ≤ p1.toInt) ∧ (p1.toInt ≤ 8) ∧ (0 ≤ p2.toInt) ∧ (p2.toInt ≤ 3) ∧ (0 ≤ p1.toInt) ∧ (1 ≤ p1.toInt) ∧ (2 ≤ p1.toInt) ∧ (3 ≤ p1.toInt) ∧ (p1.toInt < 4) ∧ (¬ p2.toInt = 0) ∧ (¬ p2.toInt = 1) ∧ (¬ p2.toInt = 2) ∧ r9 = 0 | 17 => (0 ≤ p1.toInt) ∧ (p1.toInt ≤ 8) ∧ (0 ≤ p2.toInt) ∧ (p2.toInt ≤ 3) ∧ (0 ≤ p1.toInt) ∧ (1 ≤ p1.toInt) ∧ (2 ≤ p1.toInt) ∧ (3 ≤ p1.toInt) ∧ (p1.toInt < 4) ∧ (¬ p2.toInt = 0) ∧ (¬ p2.toInt = 1) ∧ (p2.toInt = 2) ∧ r9 = 0 | 18 => (0 ≤ p1.toInt) ∧ (p1.toInt ≤ 8) ∧ (0 ≤ p2.toInt) ∧ (p2.toInt ≤ 3) ∧ (0 ≤ p1.toInt) ∧ (1 ≤ p1.toInt) ∧ (2 ≤ p1.toInt) ∧ (3 ≤ p1.toInt) ∧ (p1.toInt < 4) ∧ (¬ p2.toInt = 0) ∧ (p2.toInt = 1) ∧ r9 = 0 | 19 => (0 ≤ p1.toInt) ∧ (p1.toInt ≤ 8) ∧ (0 ≤ p2.toInt) ∧ (p2.toInt ≤ 3) ∧ (0 ≤ p1.toInt) ∧ (1 ≤ p1.toInt) ∧ (2 ≤ p1.toInt) ∧ (3 ≤ p1.toInt) ∧ (p1.toInt < 4) ∧ (p2.toInt = 0) ∧ r9 = 0 | 20 => (0 ≤ p1.toInt) ∧ (p1.toInt ≤ 8) ∧ (0 ≤ p2.toInt) ∧ (p2.toInt ≤ 3) ∧ (0 ≤ p1.toInt) ∧ (1 ≤ p1.toInt) ∧ (2 ≤ p1.toInt) ∧ (3 ≤ p1.toInt) ∧ (4 ≤ p1.toInt) ∧ (p1.toInt < 5) ∧ (¬ p2.toInt = 0) ∧ (¬ p2.toInt = 1) ∧ (¬ p2.toInt = 2) ∧ r9 = 0 | 21 => (0 ≤ p1.toInt) ∧ (p1.toInt ≤ 8) ∧ (0 ≤ p2.toInt) ∧ (p2.toInt ≤ 3) ∧ (0 ≤ p1.toInt) ∧ (1 ≤ p1.toInt) ∧ (2 ≤ p1.toInt) ∧ (3 ≤ p1.toInt) ∧ (4 ≤ p1.toInt) ∧ (p1.toInt < 5) ∧ (¬ p2.toInt = 0) ∧ (¬ p2.toInt = 1) ∧ (p2.toInt = 2) ∧ r9 = 0 | 22 => (0 ≤ p1.toInt) ∧ (p1.toInt ≤ 8) ∧ (0 ≤ p2.toInt) ∧ (p2.toInt ≤ 3) ∧ (0 ≤ p1.toInt) ∧ (1 ≤ p1.toInt) ∧ (2 ≤ p1.toInt) ∧ (3 ≤ p1.toInt) ∧ (4 ≤ p1.toInt) ∧ (p1.toInt < 5) ∧ (¬ p2.toInt = 0) ∧ (p2.toInt = 1) ∧ r9 = 0 | 23 => (0 ≤ p1.toInt) ∧ (p1.toInt ≤ 8) ∧ (0 ≤ p2.toInt) ∧ (p2.toInt ≤ 3) ∧ (0 ≤ p1.toInt) ∧ (1 ≤ p1.toInt) ∧ (2 ≤ p1.toInt) ∧ (3 ≤ p1.toInt) ∧ (4 ≤ p1.toInt) ∧ (p1.toInt < 5) ∧ (p2.toInt = 0) ∧ r9 = 0 | 24 => (0 ≤ p1.toInt) ∧ (p1.toInt ≤ 8) ∧ (0 ≤ p2.toInt) ∧ (p2.toInt ≤ 3) ∧ (0 ≤ p1.toInt) ∧ (1 ≤ p1.toInt) ∧ (2 ≤ p1.toInt) ∧ (3 ≤ p1.toInt) ∧ (4 ≤ p1.toInt) ∧ (5 ≤ p1.toInt) ∧ (p1.toInt < 6) ∧ (¬ p2.toInt = 0) ∧ (¬ p2.toInt = 1) ∧ (¬ p2.toInt = 2) ∧ r9 = 0 | 25 => (0 ≤ p1.toInt) ∧ (p1.toInt ≤ 8) ∧ (0 ≤ p2.toInt) ∧ (p2.toInt ≤ 3) ∧ (0 ≤ p1.toInt) ∧ (1 ≤ p1.toInt) ∧ (2 ≤ p1.toInt) ∧ (3 ≤ p1.toInt) ∧ (4 ≤ p1.toInt) ∧ (5 ≤ p1.toInt) ∧ (p1.toInt < 6) ∧ (¬ p2.toInt = 0) ∧ (¬ p2.toInt = 1) ∧ (p2.toInt = 2) ∧ r9 = 0 | 26 => (0 ≤ p1.toInt) ∧ (p1.toInt ≤ 8) ∧ (0 ≤ p2.toInt) ∧ (p2.toInt ≤ 3) ∧ (0 ≤ p1.toInt) ∧ (1 ≤ p1.toInt) ∧ (2 ≤ p1.toInt) ∧ (3 ≤ p1.toInt) ∧ (4 ≤ p1.toInt) ∧ (5 ≤ p1.toInt) ∧ (p1.toInt < 6) ∧ (¬ p2.toInt = 0) ∧ (p2.toInt = 1) ∧ r9 = 0 | 27 => (0 ≤ p1.toInt) ∧ (p1.toInt ≤ 8) ∧ (0 ≤ p2.toInt) ∧ (p2.toInt ≤ 3) ∧ (0 ≤ p1.toInt) ∧ (1 ≤ p1.toInt) ∧ (2 ≤ p1.toInt) ∧ (3 ≤ p1.toInt) ∧ (4 ≤ p1.toInt) ∧ (5 ≤ p1.toInt) ∧ (p1.toInt < 6) ∧ (p2.toInt = 0) ∧ r9 = 0 | 28 => (0 ≤ p1.toInt) ∧ (p1.toInt ≤ 8) ∧ (0 ≤ p2.toInt) ∧ (p2.toInt ≤ 3) ∧ (0 ≤ p1.toInt) ∧ (1 ≤ p1.toInt) ∧ (2 ≤ p1.toInt) ∧ (3 ≤ p1.toInt) ∧ (4 ≤ p1.toInt) ∧ (5 ≤ p1.toInt) ∧ (6 ≤ p1.toInt) ∧ (p1.toInt < 7) ∧ (¬ p2.toInt = 0) ∧ (¬ p2.toInt = 1) ∧ (¬ p2.toInt = 2) ∧ r9 = 0 | 29 => (0 ≤ p1.toInt) ∧ (p1.toInt ≤ 8) ∧ (0 ≤ p2.toInt) ∧ (p2.toInt ≤ 3) ∧ (0 ≤ p1.toInt) ∧ (1 ≤ p1.toInt) ∧ (2 ≤ p1.toInt) ∧ (3 ≤ p1.toInt) ∧ (4 ≤ p1.toInt) ∧ (5 ≤ p1.toInt) ∧ (6 ≤ p1.toInt) ∧ (p1.toInt < 7) ∧ (¬ p2.toInt = 0) ∧ (¬ p2.toInt = 1) ∧ (p2.toInt = 2) ∧ r9 = 0 | 30 => (0 ≤ p1.toInt) ∧ (p1.toInt ≤ 8) ∧ (0 ≤ p2.toInt) ∧ (p2.toInt ≤ 3) ∧ (0 ≤ p1.toInt) ∧ (1 ≤ p1.toInt) ∧ (2 ≤ p1.toInt) ∧ (3 ≤ p1.toInt) ∧ (4 ≤ p1.toInt) ∧ (5 ≤ p1.toInt) ∧ (6 ≤ p1.toInt) ∧ (p1.toInt < 7) ∧ (¬ p2.toInt = 0) ∧ (p2.toInt = 1) ∧ r9 = 0 | 31 => (0 ≤ p1.toInt) ∧ (p1.toInt ≤ 8) ∧ (0 ≤ p2.toInt) ∧ (p2.toInt ≤ 3) ∧ (0 ≤ p1.toInt) ∧ (1 ≤ p1.toInt) ∧ (2 ≤ p1.toInt) ∧ (3 ≤ p1.toInt) ∧ (4 ≤ p1.toInt) ∧ (5 ≤ p1.toInt) ∧ (6 ≤ p1.toInt) ∧ (p1.toInt < 7) ∧ (p2.toInt = 0) ∧ r9 = 0 | 32 => (0 ≤ p1.toInt) ∧ (p1.toInt ≤ 8) ∧ (0 ≤ p2.toInt) ∧ (p2.toInt ≤ 3) ∧ (0 ≤ p1.toInt) ∧ (1 ≤ p1.toInt) ∧ (2 ≤ p1.toInt) ∧ (3 ≤ p1.toInt) ∧ (4 ≤ p1.toInt) ∧ (5 ≤ p1.toInt) ∧ (6 ≤ p1.toInt) ∧ (7 ≤ p1.toInt) ∧ (p1.toInt < 8) ∧ (¬ p2.toInt = 0) ∧ (¬ p2.toInt = 1) ∧ (¬ p2.toInt = 2) ∧ r9 = 0 | 33 => (0 ≤ p1.toInt) ∧ (p1.toInt ≤ 8) ∧ (0 ≤ p2.toInt) ∧ (p2.toInt ≤ 3) ∧ (0 ≤ p1.toInt) ∧ (1 ≤ p1.toInt) ∧ (2 ≤ p1.toInt) ∧ (3 ≤ p1.toInt) ∧ (4 ≤ p1.toInt) ∧ (5 ≤ p1.toInt) ∧ (6 ≤ p1.toInt) ∧ (7 ≤ p1.toInt) ∧ (p1.toInt < 8) ∧ (¬ p2.toInt = 0) ∧ (¬ p2.toInt = 1) ∧ (p2.toInt = 2) ∧ r9 = 0 | 34 => (0 ≤ p1.toInt) ∧ (p1.toInt ≤ 8) ∧ (0 ≤ p2.toInt) ∧ (p2.toInt ≤ 3) ∧ (0 ≤ p1.toInt) ∧ (1 ≤ p1.toInt) ∧ (2 ≤ p1.toInt) ∧ (3 ≤ p1.toInt) ∧ (4 ≤ p1.toInt) ∧ (5 ≤ p1.toInt) ∧ (6 ≤ p1.toInt) ∧ (7 ≤ p1.toInt) ∧ (p1.toInt < 8) ∧ (¬ p2.toInt = 0) ∧ (p2.toInt = 1) ∧ r9 = 0 | 35 => (0 ≤ p1.toInt) ∧ (p1.toInt ≤ 8) ∧ (0 ≤ p2.toInt) ∧ (p2.toInt ≤ 3) ∧ (0 ≤ p1.toInt) ∧ (1 ≤ p1.toInt) ∧ (2 ≤ p1.toInt) ∧ (3 ≤ p1.toInt) ∧ (4 ≤ p1.toInt) ∧ (5 ≤ p1.toInt) ∧ (6 ≤ p1.toInt) ∧ (7 ≤ p1.toInt) ∧ (p1.toInt < 8) ∧ (p2.toInt = 0) ∧ r9 = 0 | 36 => (0 ≤ p1.toInt) ∧ (p1.toInt ≤ 8) ∧ (0 ≤ p2.toInt) ∧ (p2.toInt ≤ 3) ∧ (0 ≤ p1.toInt) ∧ (1 ≤ p1.toInt) ∧ (2 ≤ p1.toInt) ∧ (3 ≤ p1.toInt) ∧ (4 ≤ p1.toInt) ∧ (5 ≤ p1.toInt) ∧ (6 ≤ p1.toInt) ∧ (7 ≤ p1.toInt) ∧ (8 ≤ p1.toInt) ∧ (p1.toInt < 9) ∧ (¬ p2.toInt = 0) ∧ (¬ p2.toInt = 1) ∧ (¬ p2.toInt = 2) ∧ r9 = 0 | 37 => (0 ≤ p1.toInt) ∧ (p1.toInt ≤ 8) ∧ (0 ≤ p2.toInt) ∧ (p2.toInt ≤ 3) ∧ (0 ≤ p1.toInt) ∧ (1 ≤ p1.toInt) ∧ (2 ≤ p1.toInt) ∧ (3 ≤ p1.toInt) ∧ (4 ≤ p1.toInt) ∧ (5 ≤ p1.toInt) ∧ (6 ≤ p1.toInt) ∧ (7 ≤ p1.toInt) ∧ (8 ≤ p1.toInt) ∧ (p1.toInt < 9) ∧ (¬ p2.toInt = 0) ∧ (¬ p2.toInt = 1) ∧ (p2.toInt = 2) ∧ r9 = 0 | 38 => (0 ≤ p1.toInt) ∧ (p1.toInt ≤ 8) ∧ (0 ≤ p2.toInt) ∧ (p2.toInt ≤ 3) ∧ (0 ≤ p1.toInt) ∧ (1 ≤ p1.toInt) ∧ (2 ≤ p1.toInt) ∧ (3 ≤ p1.toInt) ∧ (4 ≤ p1.toInt) ∧ (5 ≤ p1.toInt) ∧ (6 ≤ p1.toInt) ∧ (7 ≤ p1.toInt) ∧ (8 ≤ p1.toInt) ∧ (p1.toInt < 9) ∧ (¬ p2.toInt = 0) ∧ (p2.toInt = 1) ∧ r9 = 0 | 39 => (0 ≤ p1.toInt) ∧ (p1.toInt ≤ 8) ∧ (0 ≤ p2.toInt) ∧ (p2.toInt ≤ 3) ∧ (0 ≤ p1.toInt) ∧ (1 ≤ p1.toInt) ∧ (2 ≤ p1.toInt) ∧ (3 ≤ p1.toInt) ∧ (4 ≤ p1.toInt) ∧ (5 ≤ p1.toInt) ∧ (6 ≤ p1.toInt) ∧ (7 ≤ p1.toInt) ∧ (8 ≤ p1.toInt) ∧ (p1.toInt < 9) ∧ (p2.toInt = 0) ∧ r9 = 0 | _ => False) (fun u => k_B (dC, dI) vwCl (tyy cI cJ cZ cM) A ((fun (u9 : (Nat × (Nat → Nat))) => match u9.1 with | 0 => [(p0, .inr (7, oM p3 i7 j7)), ((p3 49), .inl (cI, 22, .inl (fun _ => 0))), ((p3 50), .inl (cI, 22, .inl (fun _ => 0))), ((p3 72), .inl (cI, 9216, .inl (fun _ => 0))), ((p3 14), .inl (cI, 2, .inl (fun _ => 0))), ((p3 18), .inl (cI, 2, .inl (fun _ => 0)))] | 1 => [(p0, .inr (7, oM p3 i7 j7)), ((p3 49), .inl (cI, 22, .inl (fun _ => 0))), ((p3 50), .inl (cI, 22, .inl (fun _ => 0))), ((p3 72), .inl (cI, 9216, .inl (fun _ => 0))), ((p3 14), .inl (cI, 2, .inl (fun _ => 0))), ((p3 18), .inl (cI, 2, .inl (fun _ => 0)))] | 2 => [(p0, .inr (7, oM p3 i7 j7)), ((p3 49), .inl (cI, 22, .inl (fun _ => 0))), ((p3 50), .inl (cI, 22, .inl (fun _ => 0))), ((p3 72), .inl (cI, 9216, .inl (fun _ => 0))), ((p3 14), .inl (cI, 2, .inl (fun _ => 0))), ((p3 18), .inl (cI, 2, .inl (fun _ => 0)))] | 3 => [(p0, .inr (7, oM p3 i7 j7)), ((p3 49), .inl (cI, 22, .inl (fun _ => 0))), ((p3 50), .inl (cI, 22, .inl (fun _ => 0))), ((p3 72), .inl (cI, 9216, .inl (fun _ => 0))), ((p3 14), .inl (cI, 2, .inl (fun _ => 0))), ((p3 18), .inl (cI, 2, .inl (fun _ => 0)))] | 4 => [(p0, .inr (7, oM p3 (upd (upd i7 75 0) 76 0) j7)), ((p3 49), .inl (cI, 22, .inl (fun _ => 0))), ((p3 50), .inl (cI, 22, .inl (fun _ => 0))), ((p3 72), .inl (cI, 9216, .inl (upd (fun _ => (-1)) 0 0))), ((p3 14), .inl (cI, 2, .inl (fun _ => 0))), ((p3 18), .inl (cI, 2, .inl (fun _ => 0)))] | 5 => [(p0, .inr (7, oM p3 (upd (upd i7 75 0) 76 0) j7)), ((p3 49), .inl (cI, 22, .inl (fun _ => 0))), ((p3 50), .inl (cI, 22, .inl (fun _ => 0))), ((p3 72), .inl (cI, 9216, .inl (upd (fun _ => (-1)) 0 0))), ((p3 14), .inl (cI, 2, .inl (fun _ => 0))), ((p3 18), .inl (cI, 2, .inl (fun _ => 0)))] | 6 => [(p0, .inr (7, oM p3 (upd (upd i7 75 0) 76 0) j7)), ((p3 49), .inl (cI, 22, .inl (fun _ => 0))), ((p3 50), .inl (cI, 22, .inl (fun _ => 0))), ((p3 72), .inl (cI, 9216, .inl (upd (fun _ => (-1)) 0 0))), ((p3 14), .inl (cI, 2, .inl (fun _ => 0))), ((p3 18), .inl (cI, 2, .inl (fun _ => 0)))] | 7 => [(p0, .inr (7, oM p3 (upd (upd i7 75 0) 76 0) j7)), ((p3 49), .inl (cI, 22, .inl (fun _ => 0))), ((p3 50), .inl (cI, 22, .inl (fun _ => 0))), ((p3 72), .inl (cI, 9216, .inl (upd (fun _ => (-1)) 0 0))), ((p3 14), .inl (cI, 2, .inl (fun _ => 0))), ((p3 18), .inl (cI, 2, .inl (fun _ => 0)))] | 8 => [(p0, .inr (7, oM p3 (upd (upd i7 75 0) 76 0) j7)), ((p3 49), .inl (cI, 22, .inl (fun _ => 0))), ((p3 50), .inl (cI, 22, .inl (fun _ => 0))), ((p3 72), .inl (cI, 9216, .inl (upd (fun _ => (-1)) 0 0))), ((p3 14), .inl (cI, 2, .inl (fun _ => 0))), ((p3 18), .inl (cI, 2, .inl (fun _ => 0)))] | 9 => [(p0, .inr (7, oM p3 (upd (upd i7 75 0) 76 0) j7)), ((p3 49), .inl (cI, 22, .inl (fun _ => 0))), ((p3 50), .inl (cI, 22, .inl (fun _ => 0))), ((p3 72), .inl (cI, 9216, .inl (upd (fun _ => (-1)) 0 0))), ((p3 14), .inl (cI, 2, .inl (fun _ => 0))), ((p3 18), .inl (cI, 2, .inl (fun _ => 0)))] | 10 => [(p0, .inr (7, oM p3 (upd (upd i7 75 0) 76 0) j7)), ((p3 49), .inl (cI, 22, .inl (fun _ => 0))), ((p3 50), .inl (cI, 22, .inl (fun _ => 0))), ((p3 72), .inl (cI, 9216, .inl (upd (fun _ => (-1)) 0 0))), ((p3 14), .inl (cI, 2, .inl (fun _ => 0))), ((p3 18), .inl (cI, 2, .inl (fun _ => 0)))] | 11 => [(p0, .inr (7, oM p3 (upd (upd i7 75 0) 76 0) j7)), ((p3 49), .inl (cI, 22, .inl (fun _ => 0))), ((p3 50), .inl (cI, 22, .inl (fun _ => 0))), ((p3 72), .inl (cI, 9216, .inl (upd (fun _ => (-1)) 0 0))), ((p3 14), .inl (cI, 2, .inl (fun _ => 0))), ((p3 18), .inl (cI, 2, .inl (fun _ => 0)))] | 12 => [(p0, .inr (7, oM p3 (upd (upd i7 75 0) 76 0) j7)), ((p3 49), .inl (cI, 22, .inl (fun _ => 0))), ((p3 50), .inl (cI, 22, .inl (fun _ => 0))), ((p3 72), .inl (cI, 9216, .inl (upd (fun _ => (-1)) 0 0))), ((p3 14), .inl (cI, 2, .inl (fun _ => 0))), ((p3 18), .inl (cI, 2, .inl (fun _ => 0)))] | 13 => [(p0, .inr (7, oM p3 (upd (upd i7 75 0) 76 0) j7)), ((p3 49), .inl (cI, 22, .inl (fun _ => 0))), ((p3 50), .inl (cI, 22, .inl (fun _ => 0))), ((p3 72), .inl (cI, 9216, .inl (upd (fun _ => (-1)) 0 0))), ((p3 14), .inl (cI, 2, .inl (fun _ => 0))), ((p3 18), .inl (cI, 2, .inl (fun _ => 0)))] | 14 => [(p0, .inr (7, oM p3 (upd (upd i7 75 0) 76 0) j7)), ((p3 49), .inl (cI, 22, .inl (fun _ => 0))), ((p3 50), .inl (cI, 22, .inl (fun _ => 0))), ((p3 72), .inl (cI, 9216, .inl (upd (fun _ => (-1)) 0 0))), ((p3 14), .inl (cI, 2, .inl (fun _ => 0))), ((p3 18), .inl (cI, 2, .inl (fun _ => 0)))] | 15 => [(p0, .inr (7, oM p3 (upd (upd i7 75 0) 76 0) j7)), ((p3 49), .inl (cI, 22, .inl (fun _ => 0))), ((p3 50), .inl (cI, 22, .inl (fun _ => 0))), ((p3 72), .inl (cI, 9216, .inl (upd (fun _ => (-1)) 0 0))), ((p3 14), .inl (cI, 2, .inl (fun _ => 0))), ((p3 18), .inl (cI, 2, .inl (fun _ => 0)))] | 16 => [(p0, .inr (7, oM p3 (upd (upd i7 75 0) 76 0) j7)), ((p3 49), .inl (cI, 22, .inl (fun _ => 0))), ((p3 50), .inl (cI, 22, .inl (fun _ => 0))), ((p3 72), .inl (cI, 9216, .inl (upd (fun _ => (-1)) 0 0))), ((p3 14), .inl (cI, 2, .inl (fun _ => 0))), ((p3 18), .inl (cI, 2, .inl (fun _ => 0)))] | 17 => [(p0, .inr (7, oM p3 (upd (upd i7 75 0) 76 0) j7)), ((p3 49), .inl (cI, 22, .inl (fun _ => 0))), ((p3 50), .inl (cI, 22, .inl (fun _ => 0))), ((p3 72), .inl (cI, 9216, .inl (upd (fun _ => (-1)) 0 0))), ((p3 14), .inl (cI, 2, .inl (fun _ => 0))), ((p3 18), .inl (cI, 2, .inl (fun _ => 0)))] | 18 => [(p0, .inr (7, oM p3 (upd (upd i7 75 0) 76 0) j7)), ((p3 49), .inl (cI, 22, .inl (fun _ => 0))), ((p3 50), .inl (cI, 22, .inl (fun _ => 0))), ((p3 72), .inl (cI, 9216, .inl (upd (fun _ => (-1)) 0 0))), ((p3 14), .inl (cI, 2, .inl (fun _ => 0))), ((p3 18), .inl (cI, 2, .inl (fun _ => 0)))] | 19 => [(p0, .inr (7, oM p3 (upd (upd i7 75 0) 76 0) j7)), ((p3 49), .inl (cI, 22, .inl (fun _ => 0))), ((p3 50), .inl (cI, 22, .inl (fun _ => 0))), ((p3 72), .inl (cI, 9216, .inl (upd (fun _ => (-1)) 0 0))), ((p3 14), .inl (cI, 2, .inl (fun _ => 0))), ((p3 18), .inl (cI, 2, .inl (fun _ => 0)))] | 20 => [(p0, .inr (7, oM p3 (upd (upd i7 75 0) 76 0) j7)), ((p3 49), .inl (cI, 22, .inl (fun _ => 0))), ((p3 50), .inl (cI, 22, .inl (fun _ => 0))), ((p3 72), .inl (cI, 9216, .inl (upd (fun _ => (-1)) 0 0))), ((p3 14), .inl (cI, 2, .inl (fun _ => 0))), ((p3 18), .inl (cI, 2, .inl (fun _ => 0)))] | 21 => [(p0, .inr (7, oM p3 (upd (upd i7 75 0) 76 0) j7)), ((p3 49), .inl (cI, 22, .inl (fun _ => 0))), ((p3 50), .inl (cI, 22, .inl (fun _ => 0))), ((p3 72), .inl (cI, 9216, .inl (upd (fun _ => (-1)) 0 0))), ((p3 14), .inl (cI, 2, .inl (fun _ => 0))), ((p3 18), .inl (cI, 2, .inl (fun _ => 0)))] | 22 => [(p0, .inr (7, oM p3 (upd (upd i7 75 0) 76 0) j7)), ((p3 49), .inl (cI, 22, .inl (fun _ => 0))), ((p3 50), .inl (cI, 22, .inl (fun _ => 0))), ((p3 72), .inl (cI, 9216, .inl (upd (fun _ => (-1)) 0 0))), ((p3 14), .inl (cI, 2, .inl (fun _ => 0))), ((p3 18), .inl (cI, 2, .inl (fun _ => 0)))] | 23 => [(p0, .inr (7, oM p3 (upd (upd i7 75 0) 76 0) j7)), ((p3 49), .inl (cI, 22, .inl (fun _ => 0))), ((p3 50), .inl (cI, 22, .inl (fun _ => 0))), ((p3 72), .inl (cI, 9216, .inl (upd (fun _ => (-1)) 0 0))), ((p3 14), .inl (cI, 2, .inl (fun _ => 0))), ((p3 18), .inl (cI, 2, .inl (fun _ => 0)))] | 24 => [(p0, .inr (7, oM p3 (upd (upd i7 75 0) 76 0) j7)), ((p3 49), .inl (cI, 22, .inl (fun _ => 0))), ((p3 50), .inl (cI, 22, .inl (fun _ => 0))), ((p3 72), .inl (cI, 9216, .inl (upd (fun _ => (-1)) 0 0))), ((p3 14), .inl (cI, 2, .inl (fun _ => 0))), ((p3 18), .inl (cI, 2, .inl (fun _ => 0)))] | 25 => [(p0, .inr (7, oM p3 (upd (upd i7 75 0) 76 0) j7)), ((p3 49), .inl (cI, 22, .inl (fun _ => 0))), ((p3 50), .inl (cI, 22, .inl (fun _ => 0))), ((p3 72), .inl (cI, 9216, .inl (upd (fun _ => (-1)) 0 0))), ((p3 14), .inl (cI, 2, .inl (fun _ => 0))), ((p3 18), .inl (cI, 2, .inl (fun _ => 0)))] | 26 => [(p0, .inr (7, oM p3 (upd (upd i7 75 0) 76 0) j7)), ((p3 49), .inl (cI, 22, .inl (fun _ => 0))), ((p3 50), .inl (cI, 22, .inl (fun _ => 0))), ((p3 72), .inl (cI, 9216, .inl (upd (fun _ => (-1)) 0 0))), ((p3 14), .inl (cI, 2, .inl (fun _ => 0))), ((p3 18), .inl (cI, 2, .inl (fun _ => 0)))] | 27 => [(p0, .inr (7, oM p3 (upd (upd i7 75 0) 76 0) j7)), ((p3 49), .inl (cI, 22, .inl (fun _ => 0))), ((p3 50), .inl (cI, 22, .inl (fun _ => 0))), ((p3 72), .inl (cI, 9216, .inl (upd (fun _ => (-1)) 0 0))), ((p3 14), .inl (cI, 2, .inl (fun _ => 0))), ((p3 18), .inl (cI, 2, .inl (fun _ => 0)))] | 28 => [(p0, .inr (7, oM p3 (upd (upd i7 75 0) 76 0) j7)), ((p3 49), .inl (cI, 22, .inl (fun _ => 0))), ((p3 50), .inl (cI, 22, .inl (fun _ => 0))), ((p3 72), .inl (cI, 9216, .inl (upd (fun _ => (-1)) 0 0))), ((p3 14), .inl (cI, 2, .inl (fun _ => 0))), ((p3 18), .inl (cI, 2, .inl (fun _ => 0)))] | 29 => [(p0, .inr (7, oM p3 (upd (upd i7 75 0) 76 0) j7)), ((p3 49), .inl (cI, 22, .inl (fun _ => 0))), ((p3 50), .inl (cI, 22, .inl (fun _ => 0))), ((p3 72), .inl (cI, 9216, .inl (upd (fun _ => (-1)) 0 0))), ((p3 14), .inl (cI, 2, .inl (fun _ => 0))), ((p3 18), .inl (cI, 2, .inl (fun _ => 0)))] | 30 => [(p0, .inr (7, oM p3 (upd (upd i7 75 0) 76 0) j7)), ((p3 49), .inl (cI, 22, .inl (fun _ => 0))), ((p3 50), .inl (cI, 22, .inl (fun _ => 0))), ((p3 72), .inl (cI, 9216, .inl (upd (fun _ => (-1)) 0 0))), ((p3 14), .inl (cI, 2, .inl (fun _ => 0))), ((p3 18), .inl (cI, 2, .inl (fun _ => 0)))] | 31 => [(p0, .inr (7, oM p3 (upd (upd i7 75 0) 76 0) j7)), ((p3 49), .inl (cI, 22, .inl (fun _ => 0))), ((p3 50), .inl (cI, 22, .inl (fun _ => 0))), ((p3 72), .inl (cI, 9216, .inl (upd (fun _ => (-1)) 0 0))), ((p3 14), .inl (cI, 2, .inl (fun _ => 0))), ((p3 18), .inl (cI, 2, .inl (fun _ => 0)))] | 32 => [(p0, .inr (7, oM p3 (upd (upd i7 75 0) 76 0) j7)), ((p3 49), .inl (cI, 22, .inl (fun _ => 0))), ((p3 50), .inl (cI, 22, .inl (fun _ => 0))), ((p3 72), .inl (cI, 9216, .inl (upd (fun _ => (-1)) 0 0))), ((p3 14), .inl (cI, 2, .inl (fun _ => 0))), ((p3 18), .inl (cI, 2, .inl (fun _ => 0)))] | 33 => [(p0, .inr (7, oM p3 (upd (upd i7 75 0) 76 0) j7)), ((p3 49), .inl (cI, 22, .inl (fun _ => 0))), ((p3 50), .inl (cI, 22, .inl (fun _ => 0))), ((p3 72), .inl (cI, 9216, .inl (upd (fun _ => (-1)) 0 0))), ((p3 14), .inl (cI, 2, .inl (fun _ => 0))), ((p3 18), .inl (cI, 2, .inl (fun _ => 0)))] | 34 => [(p0, .inr (7, oM p3 (upd (upd i7 75 0) 76 0) j7)), ((p3 49), .inl (cI, 22, .inl (fun _ => 0))), ((p3 50), .inl (cI, 22, .inl (fun _ => 0))), ((p3 72), .inl (cI, 9216, .inl (upd (fun _ => (-1)) 0 0))), ((p3 14), .inl (cI, 2, .inl (fun _ => 0))), ((p3 18), .inl (cI, 2, .inl (fun _ => 0)))] | 35 => [(p0, .inr (7, oM p3 (upd (upd i7 75 0) 76 0) j7)), ((p3 49), .inl (cI, 22, .inl (fun _ => 0))), ((p3 50), .inl (cI, 22, .inl (fun _ => 0))), ((p3 72), .inl (cI, 9216, .inl (upd (fun _ => (-1)) 0 0))), ((p3 14), .inl (cI, 2, .inl (fun _ => 0))), ((p3 18), .inl (cI, 2, .inl (fun _ => 0)))] | 36 => [(p0, .inr (7, oM p3 (upd (upd i7 75 0) 76 0) j7)), ((p3 49), .inl (cI, 22, .inl (fun _ => 0))), ((p3 50), .inl (cI, 22, .inl (fun _ => 0))), ((p3 72), .inl (cI, 9216, .inl (upd (fun _ => (-1)) 0 0))), ((p3 14), .inl (cI, 2, .inl (fun _ => 0))), ((p3 18), .inl (cI, 2, .inl (fun _ => 0)))] | 37 => [(p0, .inr (7, oM p3 (upd (upd i7 75 0) 76 0) j7)), ((p3 49), .inl (cI, 22, .inl (fun _ => 0))), ((p3 50), .inl (cI, 22, .inl (fun _ => 0))), ((p3 72), .inl (cI, 9216, .inl (upd (fun _ => (-1)) 0 0))), ((p3 14), .inl (cI, 2, .inl (fun _ => 0))), ((p3 18), .inl (cI, 2, .inl (fun _ => 0)))] | 38 => [(p0, .inr (7, oM p3 (upd (upd i7 75 0) 76 0) j7)), ((p3 49), .inl (cI, 22, .inl (fun _ => 0))), ((p3 50), .inl (cI, 22, .inl (fun _ => 0))), ((p3 72), .inl (cI, 9216, .inl (upd (fun _ => (-1)) 0 0))), ((p3 14), .inl (cI, 2, .inl (fun _ => 0))), ((p3 18), .inl (cI, 2, .inl (fun _ => 0)))] | 39 => [(p0, .inr (7, oM p3 (upd (upd i7 75 0) 76 0) j7)), ((p3 49), .inl (cI, 22, .inl (fun _ => 0))), ((p3 50), .inl (cI, 22, .inl (fun _ => 0))), ((p3 72), .inl (cI, 9216, .inl (upd (fun _ => (-1)) 0 0))), ((p3 14), .inl (cI, 2, .inl (fun _ => 0))), ((p3 18), .inl (cI, 2, .inl (fun _ => 0)))] | _ => []) u)) A) sz (by decide +kernel) rfl (Nat.le_of_ble_eq_true rfl) (fun p e s m args below meth c A ls H B hP hD hS hl => ?_)
  obtain ⟨hx, hb, hml, hown, hts, hr, hlk, hnm, hK, hA, hN⟩ := id B
  have hown : s.vm.findClass RX7 = some m.cls := hown
  have hl : lv_has ls 9 [(0, .ref p0), (1, .int p1), (2, .int p2)] := hl
  have w_0 : (Cond.fieldLink RX7 240 "WishSeaModel" "foundRung" "I").before args s = true := hts _ (List.mem_of_getElem? (i := 1) rfl)
  have w_1 : (Cond.fieldLink RX7 54 "WishSeaModel" "things" "[I").before args s = true := hts _ (List.mem_of_getElem? (i := 2) rfl)
  have w_2 : (Cond.fieldLink RX7 51 "WishSeaModel" "bank" "I").before args s = true := hts _ (List.mem_of_getElem? (i := 3) rfl)
  have w_3 : (Cond.fieldLink RX7 231 "WishSeaModel" "rungSea" "[I").before args s = true := hts _ (List.mem_of_getElem? (i := 4) rfl)
  have w_4 : (Cond.fieldLink RX7 243 "WishSeaModel" "foundSet" "I").before args s = true := hts _ (List.mem_of_getElem? (i := 5) rfl)
  have hinX7 : ∀ w ∈ u_ws RX7 TX7 92, w ∈ wsX7_most := fun _ h => List.mem_cons_of_mem _ (List.mem_append_right _ h)
  refine lv_iload_n hx hb dX7_most_0 rfl (lv_at hl 1 rfl) ?_
  refine lv_iconst (v := 0) hx hb dX7_most_1 (by decide +kernel) ?_
  refine lv_bipush (v := 8) hx hb dX7_most_2 (by decide +kernel) ?_
  refine k_ci (wc := []) (wr := [(p0, .inr (7, oM p3 i7 j7)), ((p3 49), .inl (cI, 22, .inl (fun _ => 0))), ((p3 50), .inl (cI, 22, .inl (fun _ => 0))), ((p3 72), .inl (cI, 9216, .inl (fun _ => 0))), ((p3 14), .inl (cI, 2, .inl (fun _ => 0))), ((p3 18), .inl (cI, 2, .inl (fun _ => 0)))]) (fun hPc hDc => va_runS (As := [.int p1, .int 0, .int 8]) (rest := []) ⟨hx, hb, hml, hown, hts⟩ (c_X7_is_v6 l dC dI cI cJ cZ cM p1 H.size) (va_cwS 3 hts gX7_most_X7_is rfl rfl rfl (by decide +kernel) ⟨(Nat.le_of_ble_eq_true rfl), (Nat.le_of_ble_eq_true rfl)⟩) (k_pS hPc hDc hK hN) rfl rfl hl.1 rfl (lv_room (Nat.le_of_ble_eq_true rfl)) dX7_most_4 ⟨(Nat.le_of_ble_eq_true rfl), (Nat.le_of_ble_eq_true rfl)⟩) hP hD hS hA [] [0, 1, 2, 3, 4, 5] rfl rfl rfl rfl (by decide) (fun _ => rfl) 0 0 rfl rfl (fun r_1 u_2 H locs hw hP hD hS => ?_)
  obtain ⟨k_u_2, u_u_2⟩ := u_2
  rcases k_u_2 with _ | _ | _ | k_u_2
  · obtain ⟨c_3, rfl⟩ : (p1.toInt < 0) ∧ r_1 = 0 := hw
    have hP : va_P (dC, dI) vwCl [(p0, .inr (7, oM p3 i7 j7)), ((p3 49), .inl (cI, 22, .inl (fun _ => 0))), ((p3 50), .inl (cI, 22, .inl (fun _ => 0))), ((p3 72), .inl (cI, 9216, .inl (fun _ => 0))), ((p3 14), .inl (cI, 2, .inl (fun _ => 0))), ((p3 18), .inl (cI, 2, .inl (fun _ => 0)))] H := hP
    have hD : va_D A [(p0, .inr (7, oM p3 i7 j7)), ((p3 49), .inl (cI, 22, .inl (fun _ => 0))), ((p3 50), .inl (cI, 22, .inl (fun _ => 0))), ((p3 72), .inl (cI, 9216, .inl (fun _ => 0))), ((p3 14), .inl (cI, 2, .inl (fun _ => 0))), ((p3 18), .inl (cI, 2, .inl (fun _ => 0)))] := hD
    refine lv_if_eq (tgt := 19) hx hb dX7_most_7 (by decide) (fun _ => ?_) (fun q9 => absurd q9 (by decide +kernel))
    refine lv_iconst (v := (-1)) hx hb dX7_most_19 (by decide +kernel) ?_
    exact k_ri B hP hD hS dX7_most_20 (0, (fun _ => 0)) [0, 1, 2, 3, 4, 5] rfl rfl rfl (Nat.le_of_ble_eq_true rfl) (Nat.le_of_ble_eq_true rfl) ⟨c_3, rfl⟩
  · obtain ⟨c_4, c_5, rfl⟩ : (0 ≤ p1.toInt) ∧ (8 < p1.toInt) ∧ r_1 = 0 := hw
    have hP : va_P (dC, dI) vwCl [(p0, .inr (7, oM p3 i7 j7)), ((p3 49), .inl (cI, 22, .inl (fun _ => 0))), ((p3 50), .inl (cI, 22, .inl (fun _ => 0))), ((p3 72), .inl (cI, 9216, .inl (fun _ => 0))), ((p3 14), .inl (cI, 2, .inl (fun _ => 0))), ((p3 18), .inl (cI, 2, .inl (fun _ => 0)))] H := hP
    have hD : va_D A [(p0, .inr (7, oM p3 i7 j7)), ((p3 49), .inl (cI, 22, .inl (fun _ => 0))), ((p3 50), .inl (cI, 22, .inl (fun _ => 0))), ((p3 72), .inl (cI, 9216, .inl (fun _ => 0))), ((p3 14), .inl (cI, 2, .inl (fun _ => 0))), ((p3 18), .inl (cI, 2, .inl (fun _ => 0)))] := hD
    refine lv_if_eq (tgt := 19) hx hb dX7_most_7 (by decide) (fun _ => ?_) (fun q9 => absurd q9 (by decide +kernel))
    refine lv_iconst (v := (-1)) hx hb dX7_most_19 (by decide +kernel) ?_
    exact k_ri B hP hD hS dX7_most_20 (1, (fun _ => 0)) [0, 1, 2, 3, 4, 5] rfl rfl rfl (Nat.le_of_ble_eq_true rfl) (Nat.le_of_ble_eq_true rfl) ⟨c_4, c_5, rfl⟩
  · obtain ⟨c_6, c_7, rfl⟩ : (0 ≤ p1.toInt) ∧ (p1.toInt ≤ 8) ∧ r_1 = 1 := hw
    have hP : va_P (dC, dI) vwCl [(p0, .inr (7, oM p3 i7 j7)), ((p3 49), .inl (cI, 22, .inl (fun _ => 0))), ((p3 50), .inl (cI, 22, .inl (fun _ => 0))), ((p3 72), .inl (cI, 9216, .inl (fun _ => 0))), ((p3 14), .inl (cI, 2, .inl (fun _ => 0))), ((p3 18), .inl (cI, 2, .inl (fun _ => 0)))] H := hP
    have hD : va_D A [(p0, .inr (7, oM p3 i7 j7)), ((p3 49), .inl (cI, 22, .inl (fun _ => 0))), ((p3 50), .inl (cI, 22, .inl (fun _ => 0))), ((p3 72), .inl (cI, 9216, .inl (fun _ => 0))), ((p3 14), .inl (cI, 2, .inl (fun _ => 0))), ((p3 18), .inl (cI, 2, .inl (fun _ => 0)))] := hD
    refine lv_if_eq (tgt := 19) hx hb dX7_most_7 (by decide) (fun q9 => absurd q9 (by decide +kernel)) (fun _ => ?_)
    refine lv_iload_n hx hb dX7_most_10 rfl (lv_at hl 2 rfl) ?_
    refine lv_iconst (v := 0) hx hb dX7_most_11 (by decide +kernel) ?_
    refine lv_iconst (v := 3) hx hb dX7_most_12 (by decide +kernel) ?_
    refine k_ci (wc := []) (wr := [(p0, .inr (7, oM p3 i7 j7)), ((p3 49), .inl (cI, 22, .inl (fun _ => 0))), ((p3 50), .inl (cI, 22, .inl (fun _ => 0))), ((p3 72), .inl (cI, 9216, .inl (fun _ => 0))), ((p3 14), .inl (cI, 2, .inl (fun _ => 0))), ((p3 18), .inl (cI, 2, .inl (fun _ => 0)))]) (fun hPc hDc => va_runS (As := [.int p2, .int 0, .int 3]) (rest := []) ⟨hx, hb, hml, hown, hts⟩ (c_X7_is_v9 l dC dI cI cJ cZ cM p2 H.size) (va_cwS 3 hts gX7_most_X7_is rfl rfl rfl (by decide +kernel) ⟨(Nat.le_of_ble_eq_true rfl), (Nat.le_of_ble_eq_true rfl)⟩) (k_pS hPc hDc hK hN) rfl rfl hl.1 rfl (lv_room (Nat.le_of_ble_eq_true rfl)) dX7_most_13 ⟨(Nat.le_of_ble_eq_true rfl), (Nat.le_of_ble_eq_true rfl)⟩) hP hD hS hA [] [0, 1, 2, 3, 4, 5] rfl rfl rfl rfl (by decide) (fun _ => rfl) 0 0 rfl rfl (fun r_8 u_9 H locs hw hP hD hS => ?_)
    obtain ⟨k_u_9, u_u_9⟩ := u_9
    rcases k_u_9 with _ | _ | _ | k_u_9
    · obtain ⟨c_10, rfl⟩ : (p2.toInt < 0) ∧ r_8 = 0 := hw
      have hP : va_P (dC, dI) vwCl [(p0, .inr (7, oM p3 i7 j7)), ((p3 49), .inl (cI, 22, .inl (fun _ => 0))), ((p3 50), .inl (cI, 22, .inl (fun _ => 0))), ((p3 72), .inl (cI, 9216, .inl (fun _ => 0))), ((p3 14), .inl (cI, 2, .inl (fun _ => 0))), ((p3 18), .inl (cI, 2, .inl (fun _ => 0)))] H := hP
      have hD : va_D A [(p0, .inr (7, oM p3 i7 j7)), ((p3 49), .inl (cI, 22, .inl (fun _ => 0))), ((p3 50), .inl (cI, 22, .inl (fun _ => 0))), ((p3 72), .inl (cI, 9216, .inl (fun _ => 0))), ((p3 14), .inl (cI, 2, .inl (fun _ => 0))), ((p3 18), .inl (cI, 2, .inl (fun _ => 0)))] := hD
      refine lv_if_ne (tgt := 21) hx hb dX7_most_16 (by decide) (fun q9 => absurd q9 (by decide +kernel)) (fun _ => ?_)
      refine lv_iconst (v := (-1)) hx hb dX7_most_19 (by decide +kernel) ?_
      exact k_ri B hP hD hS dX7_most_20 (2, (fun _ => 0)) [0, 1, 2, 3, 4, 5] rfl rfl rfl (Nat.le_of_ble_eq_true rfl) (Nat.le_of_ble_eq_true rfl) ⟨c_6, c_7, c_10, rfl⟩
    · obtain ⟨c_11, c_12, rfl⟩ : (0 ≤ p2.toInt) ∧ (3 < p2.toInt) ∧ r_8 = 0 := hw
      have hP : va_P (dC, dI) vwCl [(p0, .inr (7, oM p3 i7 j7)), ((p3 49), .inl (cI, 22, .inl (fun _ => 0))), ((p3 50), .inl (cI, 22, .inl (fun _ => 0))), ((p3 72), .inl (cI, 9216, .inl (fun _ => 0))), ((p3 14), .inl (cI, 2, .inl (fun _ => 0))), ((p3 18), .inl (cI, 2, .inl (fun _ => 0)))] H := hP
      have hD : va_D A [(p0, .inr (7, oM p3 i7 j7)), ((p3 49), .inl (cI, 22, .inl (fun _ => 0))), ((p3 50), .inl (cI, 22, .inl (fun _ => 0))), ((p3 72), .inl (cI, 9216, .inl (fun _ => 0))), ((p3 14), .inl (cI, 2, .inl (fun _ => 0))), ((p3 18), .inl (cI, 2, .inl (fun _ => 0)))] := hD
      refine lv_if_ne (tgt := 21) hx hb dX7_most_16 (by decide) (fun q9 => absurd q9 (by decide +kernel)) (fun _ => ?_)
      refine lv_iconst (v := (-1)) hx hb dX7_most_19 (by decide +kernel) ?_
      exact k_ri B hP hD hS dX7_most_20 (3, (fun _ => 0)) [0, 1, 2, 3, 4, 5] rfl rfl rfl (Nat.le_of_ble_eq_true rfl) (Nat.le_of_ble_eq_true rfl) ⟨c_6, c_7, c_11, c_12, rfl⟩
    · obtain ⟨c_13, c_14, rfl⟩ : (0 ≤ p2.toInt) ∧ (p2.toInt ≤ 3) ∧ r_8 = 1 := hw
      have hP : va_P (dC, dI) vwCl [(p0, .inr (7, oM p3 i7 j7)), ((p3 49), .inl (cI, 22, .inl (fun _ => 0))), ((p3 50), .inl (cI, 22, .inl (fun _ => 0))), ((p3 72), .inl (cI, 9216, .inl (fun _ => 0))), ((p3 14), .inl (cI, 2, .inl (fun _ => 0))), ((p3 18), .inl (cI, 2, .inl (fun _ => 0)))] H := hP
      have hD : va_D A [(p0, .inr (7, oM p3 i7 j7)), ((p3 49), .inl (cI, 22, .inl (fun _ => 0))), ((p3 50), .inl (cI, 22, .inl (fun _ => 0))), ((p3 72), .inl (cI, 9216, .inl (fun _ => 0))), ((p3 14), .inl (cI, 2, .inl (fun _ => 0))), ((p3 18), .inl (cI, 2, .inl (fun _ => 0)))] := hD
      refine lv_if_ne (tgt := 21) hx hb dX7_most_16 (by decide) (fun _ => ?_) (fun q9 => absurd q9 (by decide +kernel))
      refine lv_aload_n hx hb dX7_most_21 rfl (lv_at hl 0 rfl) ?_
      refine k_cv (wc := [(p0, .inr (7, oM p3 i7 j7)), ((p3 49), .inl (cI, 22, .inl (fun _ => 0))), ((p3 50), .inl (cI, 22, .inl (fun _ => 0))), ((p3 72), .inl (cI, 9216, .inl (fun _ => 0))), ((p3 14), .inl (cI, 2, .inl (fun _ => 0))), ((p3 18), .inl (cI, 2, .inl (fun _ => 0)))]) (wr := []) (fun hPc hDc => va_runV (As := []) (rest := []) ⟨hx, hb, hml, hown, hts⟩ (c_X7_climbs_v0 l dC dI cI cJ cZ cM p0 p3 H.size) (cwV 0 hts gX7_most_X7_climbs rfl rfl rfl (by decide +kernel) ⟨(Nat.le_of_ble_eq_true rfl), (Nat.le_of_ble_eq_true rfl)⟩) (k_pV hPc hDc hK hN hP (q0 := 0) (ci := 7) rfl rfl) rfl rfl hl.1 rfl (lv_room (Nat.le_of_ble_eq_true rfl)) dX7_most_22 ⟨(Nat.le_of_ble_eq_true rfl), (Nat.le_of_ble_eq_true rfl)⟩) hP hD hS hA [0, 1, 2, 3, 4, 5] [] rfl rfl rfl rfl (by decide) (fun _ => rfl) 0 0 rfl rfl (fun u_16 H locs hw hP hD hS => ?_)
      have hP : va_P (dC, dI) vwCl [(p0, .inr (7, oM p3 i7 j7)), ((p3 49), .inl (cI, 22, .inl (fun _ => 0))), ((p3 50), .inl (cI, 22, .inl (fun _ => 0))), ((p3 72), .inl (cI, 9216, .inl (upd (fun _ => (-1)) 0 0))), ((p3 14), .inl (cI, 2, .inl (fun _ => 0))), ((p3 18), .inl (cI, 2, .inl (fun _ => 0)))] H := hP
      have hD : va_D A [(p0, .inr (7, oM p3 i7 j7)), ((p3 49), .inl (cI, 22, .inl (fun _ => 0))), ((p3 50), .inl (cI, 22, .inl (fun _ => 0))), ((p3 72), .inl (cI, 9216, .inl (upd (fun _ => (-1)) 0 0))), ((p3 14), .inl (cI, 2, .inl (fun _ => 0))), ((p3 18), .inl (cI, 2, .inl (fun _ => 0)))] := hD
      refine lv_aload_n hx hb dX7_most_25 rfl (lv_at hl 0 rfl) ?_
      refine k_ci (wc := [(p0, .inr (7, oM p3 i7 j7)), ((p3 14), .inl (cI, 2, .inl (fun _ => 0)))]) (wr := [((p3 49), .inl (cI, 22, .inl (fun _ => 0))), ((p3 50), .inl (cI, 22, .inl (fun _ => 0))), ((p3 72), .inl (cI, 9216, .inl (upd (fun _ => (-1)) 0 0))), ((p3 18), .inl (cI, 2, .inl (fun _ => 0)))]) (fun hPc hDc => va_runV (As := []) (rest := []) ⟨hx, hb, hml, hown, hts⟩ (c_X7_briefOnes_v1 l dC dI cI cJ cZ cM p0 p3 H.size) (cwV 0 hts gX7_most_X7_briefOnes rfl rfl rfl (by decide +kernel) ⟨(Nat.le_of_ble_eq_true rfl), (Nat.le_of_ble_eq_true rfl)⟩) (k_pV hPc hDc hK hN hP (q0 := 0) (ci := 7) rfl rfl) rfl rfl hl.1 rfl (lv_room (Nat.le_of_ble_eq_true rfl)) dX7_most_26 ⟨(Nat.le_of_ble_eq_true rfl), (Nat.le_of_ble_eq_true rfl)⟩) hP hD hS hA [0, 4] [1, 2, 3, 5] rfl rfl rfl rfl (by decide) (fun _ => rfl) 0 0 rfl rfl (fun r_17 u_18 H locs hw hP hD hS => ?_)
      obtain rfl : r_17 = 0 := hw
      have hP : va_P (dC, dI) vwCl [((p3 49), .inl (cI, 22, .inl (fun _ => 0))), ((p3 50), .inl (cI, 22, .inl (fun _ => 0))), ((p3 72), .inl (cI, 9216, .inl (upd (fun _ => (-1)) 0 0))), ((p3 18), .inl (cI, 2, .inl (fun _ => 0))), (p0, .inr (7, oM p3 i7 j7)), ((p3 14), .inl (cI, 2, .inl (fun _ => 0)))] H := hP
      have hD : va_D A [((p3 49), .inl (cI, 22, .inl (fun _ => 0))), ((p3 50), .inl (cI, 22, .inl (fun _ => 0))), ((p3 72), .inl (cI, 9216, .inl (upd (fun _ => (-1)) 0 0))), ((p3 18), .inl (cI, 2, .inl (fun _ => 0))), (p0, .inr (7, oM p3 i7 j7)), ((p3 14), .inl (cI, 2, .inl (fun _ => 0)))] := hD
      refine lv_iconst (v := (-1)) hx hb dX7_most_29 (by decide +kernel) ?_
      refine lv_ixor hx hb dX7_most_30 ?_
      refine k_int (v := (-1)) (by decide +kernel) ?_
      refine lv_istore_n (lv' := [(3, .int (-1)), (0, .ref p0), (1, .int p1), (2, .int p2)]) hx hb dX7_most_31 rfl hl (by decide) rfl (fun ls hl => ?_)
      refine lv_aload_n hx hb dX7_most_32 rfl (lv_at hl 1 rfl) ?_
      refine lv_iconst (v := (-1)) hx hb dX7_most_33 (by decide +kernel) ?_
      refine k_put (D := (dC, dI)) (ci := 7) (v := .int (-1)) (C := RX7) (T := TX7) (N := 92) (ws' := [((p3 49), .inl (cI, 22, .inl (fun _ => 0))), ((p3 50), .inl (cI, 22, .inl (fun _ => 0))), ((p3 72), .inl (cI, 9216, .inl (upd (fun _ => (-1)) 0 0))), ((p3 18), .inl (cI, 2, .inl (fun _ => 0))), (p0, .inr (7, oM p3 (upd i7 75 (-1)) j7)), ((p3 14), .inl (cI, 2, .inl (fun _ => 0)))]) hx hb hts hinX7 tyX7 tyX7_ok nmX7 hown hK hP hD hS 4 rfl rfl 75 (by decide) w_0 rfl rfl rfl rfl (Nat.le_of_ble_eq_true rfl) rfl dX7_most_34 (fun H locs hP hD hS => ?_)
      refine lv_iconst (v := (-1)) hx hb dX7_most_37 (by decide +kernel) ?_
      refine lv_istore (lv' := [(4, .int (-1)), (3, .int (-1)), (0, .ref p0), (1, .int p1), (2, .int p2)]) hx hb dX7_most_38 hl (by decide) rfl (fun ls hl => ?_)
      refine lv_iconst (v := 0) hx hb dX7_most_40 (by decide +kernel) ?_
      refine lv_istore (lv' := [(5, .int 0), (4, .int (-1)), (3, .int (-1)), (0, .ref p0), (1, .int p1), (2, .int p2)]) hx hb dX7_most_41 hl (by decide) rfl (fun ls hl => ?_)
      refine lv_iload hx hb dX7_most_43 (lv_at hl 0 rfl) ?_
      refine lv_iload_n hx hb dX7_most_45 rfl (lv_at hl 4 rfl) ?_
      refine lv_icmp_gt (tgt := 166) hx hb dX7_most_46 (by decide) (fun c_19 => ?_) (fun c_19 => ?_)
      · have c_19 : p1.toInt < 0 := k_ltT rfl (by decide +kernel) c_19
        exfalso; omega
      · have c_19 : 0 ≤ p1.toInt := k_ltF rfl (by decide +kernel) c_19
        refine lv_iconst (v := 0) hx hb dX7_most_49 (by decide +kernel) ?_
        refine lv_istore (lv' := [(6, .int 0), (5, .int 0), (4, .int (-1)), (3, .int (-1)), (0, .ref p0), (1, .int p1), (2, .int p2)]) hx hb dX7_most_50 hl (by decide) rfl (fun ls hl => ?_)
        refine lv_iload hx hb dX7_most_52 (lv_at hl 0 rfl) ?_
        refine lv_iconst (v := 1) hx hb dX7_most_54 (by decide +kernel) ?_
        refine lv_aload_n hx hb dX7_most_55 rfl (lv_at hl 4 rfl) ?_
        refine k_get (D := (dC, dI)) (ci := 7) (v := .ref (p3 14)) (C := RX7) (T := TX7) (N := 92) hx hb hts hinX7 hown hK hP 4 rfl rfl 14 (by decide) w_1 rfl rfl dX7_most_56 ?_
        refine lv_aload_n hx hb dX7_most_59 rfl (lv_at hl 4 rfl) ?_
        refine k_get (D := (dC, dI)) (ci := 7) (v := .int 0) (C := RX7) (T := TX7) (N := 92) hx hb hts hinX7 hown hK hP 4 rfl rfl 13 (by decide) w_2 rfl rfl dX7_most_60 ?_
        refine k_iald (v := 0) hx hb hK hP 5 0 0 rfl rfl rfl (Nat.le_of_ble_eq_true rfl) (Nat.le_of_ble_eq_true rfl) rfl dX7_most_63 ?_
        refine lv_ishl hx hb dX7_most_64 ?_
        refine k_int (v := 1) (by decide +kernel) ?_
        refine lv_icmp_ge (tgt := 160) hx hb dX7_most_65 (by decide) (fun q9 => absurd q9 (by decide +kernel)) (fun _ => ?_)
        refine lv_aload_n hx hb dX7_most_68 rfl (lv_at hl 4 rfl) ?_
        refine k_get (D := (dC, dI)) (ci := 7) (v := .ref (p3 72)) (C := RX7) (T := TX7) (N := 92) hx hb hts hinX7 hown hK hP 4 rfl rfl 72 (by decide) w_3 rfl rfl dX7_most_69 ?_
        refine lv_sipush (v := 1024) hx hb dX7_most_72 (by decide +kernel) ?_
        refine lv_iload hx hb dX7_most_75 (lv_at hl 1 rfl) ?_
        refine lv_imul hx hb dX7_most_77 ?_
        refine k_int (v := 0) (by decide +kernel) ?_
        refine lv_iload hx hb dX7_most_78 (lv_at hl 0 rfl) ?_
        refine lv_iadd hx hb dX7_most_80 ?_
        refine k_int (v := 0) (by decide +kernel) ?_
        refine k_iald (v := 0) hx hb hK hP 2 0 0 rfl rfl rfl (Nat.le_of_ble_eq_true rfl) (Nat.le_of_ble_eq_true rfl) rfl dX7_most_81 ?_
        refine lv_istore (lv' := [(7, .int 0), (6, .int 0), (5, .int 0), (4, .int (-1)), (3, .int (-1)), (0, .ref p0), (1, .int p1), (2, .int p2)]) hx hb dX7_most_82 hl (by decide) rfl (fun ls hl => ?_)
        refine lv_iload hx hb dX7_most_84 (lv_at hl 0 rfl) ?_
        refine lv_iconst (v := (-1)) hx hb dX7_most_86 (by decide +kernel) ?_
        refine lv_icmp_ne (tgt := 93) hx hb dX7_most_87 (by decide) (fun _ => ?_) (fun q9 => absurd q9 (by decide +kernel))
        refine lv_aload_n hx hb dX7_most_93 rfl (lv_at hl 5 rfl) ?_
        refine lv_iload hx hb dX7_most_94 (lv_at hl 1 rfl) ?_
        refine lv_iload_n hx hb dX7_most_96 rfl (lv_at hl 4 rfl) ?_
        refine lv_iand hx hb dX7_most_97 ?_
        refine k_int (v := 0) (by decide +kernel) ?_
        refine k_ci (wc := [(p0, .inr (7, oM p3 (upd i7 75 (-1)) j7)), ((p3 14), .inl (cI, 2, .inl (fun _ => 0)))]) (wr := [((p3 49), .inl (cI, 22, .inl (fun _ => 0))), ((p3 50), .inl (cI, 22, .inl (fun _ => 0))), ((p3 72), .inl (cI, 9216, .inl (upd (fun _ => (-1)) 0 0))), ((p3 18), .inl (cI, 2, .inl (fun _ => 0)))]) (fun hPc hDc => va_runV (As := [.int 0]) (rest := []) ⟨hx, hb, hml, hown, hts⟩ (c_X7_worthOf_v3 l dC dI cI cJ cZ cM p0 p3 H.size) (cwV 1 hts gX7_most_X7_worthOf rfl rfl rfl (by decide +kernel) ⟨(Nat.le_of_ble_eq_true rfl), (Nat.le_of_ble_eq_true rfl)⟩) (k_pV hPc hDc hK hN hP (q0 := 4) (ci := 7) rfl rfl) rfl rfl hl.1 rfl (lv_room (Nat.le_of_ble_eq_true rfl)) dX7_most_98 ⟨(Nat.le_of_ble_eq_true rfl), (Nat.le_of_ble_eq_true rfl)⟩) hP hD hS hA [4, 5] [0, 1, 2, 3] rfl rfl rfl rfl (by decide) (fun _ => rfl) 0 0 rfl rfl (fun r_20 u_21 H locs hw hP hD hS => ?_)
        obtain rfl : r_20 = 0 := hw
        have hP : va_P (dC, dI) vwCl [((p3 49), .inl (cI, 22, .inl (fun _ => 0))), ((p3 50), .inl (cI, 22, .inl (fun _ => 0))), ((p3 72), .inl (cI, 9216, .inl (upd (fun _ => (-1)) 0 0))), ((p3 18), .inl (cI, 2, .inl (fun _ => 0))), (p0, .inr (7, oM p3 (upd i7 75 (-1)) j7)), ((p3 14), .inl (cI, 2, .inl (fun _ => 0)))] H := hP
        have hD : va_D A [((p3 49), .inl (cI, 22, .inl (fun _ => 0))), ((p3 50), .inl (cI, 22, .inl (fun _ => 0))), ((p3 72), .inl (cI, 9216, .inl (upd (fun _ => (-1)) 0 0))), ((p3 18), .inl (cI, 2, .inl (fun _ => 0))), (p0, .inr (7, oM p3 (upd i7 75 (-1)) j7)), ((p3 14), .inl (cI, 2, .inl (fun _ => 0)))] := hD
        refine lv_istore (lv' := [(8, .int 0), (7, .int 0), (6, .int 0), (5, .int 0), (4, .int (-1)), (3, .int (-1)), (0, .ref p0), (1, .int p1), (2, .int p2)]) hx hb dX7_most_101 hl (by decide) rfl (fun ls hl => ?_)
        refine lv_iload hx hb dX7_most_103 (lv_at hl 0 rfl) ?_
        refine lv_iload hx hb dX7_most_105 (lv_at hl 4 rfl) ?_
        refine lv_icmp_lt (tgt := 154) hx hb dX7_most_107 (by decide) (fun q9 => absurd q9 (by decide +kernel)) (fun _ => ?_)
        refine lv_iload hx hb dX7_most_110 (lv_at hl 0 rfl) ?_
        refine lv_iload hx hb dX7_most_112 (lv_at hl 4 rfl) ?_
        refine lv_icmp_ne (tgt := 138) hx hb dX7_most_114 (by decide) (fun _ => ?_) (fun q9 => absurd q9 (by decide +kernel))
        refine lv_iload hx hb dX7_most_138 (lv_at hl 0 rfl) ?_
        refine lv_istore (lv' := [(4, .int 0), (8, .int 0), (7, .int 0), (6, .int 0), (5, .int 0), (3, .int (-1)), (0, .ref p0), (1, .int p1), (2, .int p2)]) hx hb dX7_most_140 hl (by decide) rfl (fun ls hl => ?_)
        refine lv_aload_n hx hb dX7_most_142 rfl (lv_at hl 6 rfl) ?_
        refine lv_iload hx hb dX7_most_143 (lv_at hl 4 rfl) ?_
        refine k_put (D := (dC, dI)) (ci := 7) (v := .int 0) (C := RX7) (T := TX7) (N := 92) (ws' := [((p3 49), .inl (cI, 22, .inl (fun _ => 0))), ((p3 50), .inl (cI, 22, .inl (fun _ => 0))), ((p3 72), .inl (cI, 9216, .inl (upd (fun _ => (-1)) 0 0))), ((p3 18), .inl (cI, 2, .inl (fun _ => 0))), (p0, .inr (7, oM p3 (upd i7 75 0) j7)), ((p3 14), .inl (cI, 2, .inl (fun _ => 0)))]) hx hb hts hinX7 tyX7 tyX7_ok nmX7 hown hK hP hD hS 4 rfl rfl 75 (by decide) w_0 rfl rfl rfl rfl (Nat.le_of_ble_eq_true rfl) rfl dX7_most_145 (fun H locs hP hD hS => ?_)
        refine lv_aload_n hx hb dX7_most_148 rfl (lv_at hl 6 rfl) ?_
        refine lv_iload hx hb dX7_most_149 (lv_at hl 3 rfl) ?_
        refine k_put (D := (dC, dI)) (ci := 7) (v := .int 0) (C := RX7) (T := TX7) (N := 92) (ws' := [((p3 49), .inl (cI, 22, .inl (fun _ => 0))), ((p3 50), .inl (cI, 22, .inl (fun _ => 0))), ((p3 72), .inl (cI, 9216, .inl (upd (fun _ => (-1)) 0 0))), ((p3 18), .inl (cI, 2, .inl (fun _ => 0))), (p0, .inr (7, oM p3 (upd (upd i7 75 0) 76 0) j7)), ((p3 14), .inl (cI, 2, .inl (fun _ => 0)))]) hx hb hts hinX7 tyX7 tyX7_ok nmX7 hown hK hP hD hS 4 rfl rfl 76 (by decide) w_4 rfl rfl rfl rfl (Nat.le_of_ble_eq_true rfl) rfl dX7_most_151 (fun H locs hP hD hS => ?_)
        refine lv_iinc (v := 1) (lv' := [(6, .int 1), (4, .int 0), (8, .int 0), (7, .int 0), (5, .int 0), (3, .int (-1)), (0, .ref p0), (1, .int p1), (2, .int p2)]) hx hb dX7_most_154 hl (k := 3) rfl (by decide +kernel) (by decide) rfl (fun ls hl => ?_)
        refine lv_goto (tgt := 52) hx hb dX7_most_157 (by decide) ?_
        refine lv_iload hx hb dX7_most_52 (lv_at hl 0 rfl) ?_
        refine lv_iconst (v := 1) hx hb dX7_most_54 (by decide +kernel) ?_
        refine lv_aload_n hx hb dX7_most_55 rfl (lv_at hl 6 rfl) ?_
        refine k_get (D := (dC, dI)) (ci := 7) (v := .ref (p3 14)) (C := RX7) (T := TX7) (N := 92) hx hb hts hinX7 hown hK hP 4 rfl rfl 14 (by decide) w_1 rfl rfl dX7_most_56 ?_
        refine lv_aload_n hx hb dX7_most_59 rfl (lv_at hl 6 rfl) ?_
        refine k_get (D := (dC, dI)) (ci := 7) (v := .int 0) (C := RX7) (T := TX7) (N := 92) hx hb hts hinX7 hown hK hP 4 rfl rfl 13 (by decide) w_2 rfl rfl dX7_most_60 ?_
        refine k_iald (v := 0) hx hb hK hP 5 0 0 rfl rfl rfl (Nat.le_of_ble_eq_true rfl) (Nat.le_of_ble_eq_true rfl) rfl dX7_most_63 ?_
        refine lv_ishl hx hb dX7_most_64 ?_
        refine k_int (v := 1) (by decide +kernel) ?_
        refine lv_icmp_ge (tgt := 160) hx hb dX7_most_65 (by decide) (fun _ => ?_) (fun q9 => absurd q9 (by decide +kernel))
        refine lv_iinc (v := 1) (lv' := [(5, .int 1), (6, .int 1), (4, .int 0), (8, .int 0), (7, .int 0), (3, .int (-1)), (0, .ref p0), (1, .int p1), (2, .int p2)]) hx hb dX7_most_160 hl (k := 4) rfl (by decide +kernel) (by decide) rfl (fun ls hl => ?_)
        refine lv_goto (tgt := 43) hx hb dX7_most_163 (by decide) ?_
        refine lv_iload hx hb dX7_most_43 (lv_at hl 0 rfl) ?_
        refine lv_iload_n hx hb dX7_most_45 rfl (lv_at hl 7 rfl) ?_
        refine lv_icmp_gt (tgt := 166) hx hb dX7_most_46 (by decide) (fun c_22 => ?_) (fun c_22 => ?_)
        · have c_22 : p1.toInt < 1 := k_ltT rfl (by decide +kernel) c_22
          refine lv_iload_n hx hb dX7_most_166 rfl (lv_at hl 8 rfl) ?_
          refine lv_if_ne (tgt := 175) hx hb dX7_most_167 (by decide) (fun c_23 => ?_) (fun c_23 => ?_)
          · have c_23 : ¬ p2.toInt = 0 := k_eqF rfl (by decide +kernel) c_23
            refine lv_iload_n hx hb dX7_most_175 rfl (lv_at hl 8 rfl) ?_
            refine lv_iconst (v := 1) hx hb dX7_most_176 (by decide +kernel) ?_
            refine lv_icmp_ne (tgt := 187) hx hb dX7_most_177 (by decide) (fun c_24 => ?_) (fun c_24 => ?_)
            · have c_24 : ¬ p2.toInt = 1 := k_eqF rfl (by decide +kernel) c_24
              refine lv_iload_n hx hb dX7_most_187 rfl (lv_at hl 8 rfl) ?_
              refine lv_iconst (v := 2) hx hb dX7_most_188 (by decide +kernel) ?_
              refine lv_icmp_ne (tgt := 199) hx hb dX7_most_189 (by decide) (fun c_25 => ?_) (fun c_25 => ?_)
              · have c_25 : ¬ p2.toInt = 2 := k_eqF rfl (by decide +kernel) c_25
                refine lv_aload_n hx hb dX7_most_199 rfl (lv_at hl 6 rfl) ?_
                refine k_get (D := (dC, dI)) (ci := 7) (v := .int 0) (C := RX7) (T := TX7) (N := 92) hx hb hts hinX7 hown hK hP 4 rfl rfl 76 (by decide) w_4 rfl rfl dX7_most_200 ?_
                exact k_ri B hP hD hS dX7_most_203 (4, (fun _ => 0)) [4, 0, 1, 2, 5, 3] rfl rfl rfl (Nat.le_of_ble_eq_true rfl) (Nat.le_of_ble_eq_true rfl) ⟨c_6, c_7, c_13, c_14, c_19, c_22, c_23, c_24, c_25, rfl⟩
              · have c_25 : p2.toInt = 2 := k_eqT rfl (by decide +kernel) c_25
                refine lv_aload_n hx hb dX7_most_192 rfl (lv_at hl 6 rfl) ?_
                refine k_ci (wc := [(p0, .inr (7, oM p3 (upd (upd i7 75 0) 76 0) j7)), ((p3 72), .inl (cI, 9216, .inl (upd (fun _ => (-1)) 0 0)))]) (wr := [((p3 49), .inl (cI, 22, .inl (fun _ => 0))), ((p3 50), .inl (cI, 22, .inl (fun _ => 0))), ((p3 18), .inl (cI, 2, .inl (fun _ => 0))), ((p3 14), .inl (cI, 2, .inl (fun _ => 0)))]) (fun hPc hDc => va_runV (As := []) (rest := []) ⟨hx, hb, hml, hown, hts⟩ (c_X7_foundSea_v0 l dC dI cI cJ cZ cM p0 p3 H.size) (cwV 0 hts gX7_most_X7_foundSea rfl rfl rfl (by decide +kernel) ⟨(Nat.le_of_ble_eq_true rfl), (Nat.le_of_ble_eq_true rfl)⟩) (k_pV hPc hDc hK hN hP (q0 := 4) (ci := 7) rfl rfl) rfl rfl hl.1 rfl (lv_room (Nat.le_of_ble_eq_true rfl)) dX7_most_193 ⟨(Nat.le_of_ble_eq_true rfl), (Nat.le_of_ble_eq_true rfl)⟩) hP hD hS hA [4, 2] [0, 1, 3, 5] rfl rfl rfl rfl (by decide) (fun _ => rfl) 0 0 rfl rfl (fun r_26 u_27 H locs hw hP hD hS => ?_)
                obtain rfl : r_26 = 0 := hw
                have hP : va_P (dC, dI) vwCl [((p3 49), .inl (cI, 22, .inl (fun _ => 0))), ((p3 50), .inl (cI, 22, .inl (fun _ => 0))), ((p3 18), .inl (cI, 2, .inl (fun _ => 0))), ((p3 14), .inl (cI, 2, .inl (fun _ => 0))), (p0, .inr (7, oM p3 (upd (upd i7 75 0) 76 0) j7)), ((p3 72), .inl (cI, 9216, .inl (upd (fun _ => (-1)) 0 0)))] H := hP
                have hD : va_D A [((p3 49), .inl (cI, 22, .inl (fun _ => 0))), ((p3 50), .inl (cI, 22, .inl (fun _ => 0))), ((p3 18), .inl (cI, 2, .inl (fun _ => 0))), ((p3 14), .inl (cI, 2, .inl (fun _ => 0))), (p0, .inr (7, oM p3 (upd (upd i7 75 0) 76 0) j7)), ((p3 72), .inl (cI, 9216, .inl (upd (fun _ => (-1)) 0 0)))] := hD
                refine lv_goto (tgt := 203) hx hb dX7_most_196 (by decide) ?_
                exact k_ri B hP hD hS dX7_most_203 (5, (fun _ => 0)) [4, 0, 1, 5, 3, 2] rfl rfl rfl (Nat.le_of_ble_eq_true rfl) (Nat.le_of_ble_eq_true rfl) ⟨c_6, c_7, c_13, c_14, c_19, c_22, c_23, c_24, c_25, rfl⟩
            · have c_24 : p2.toInt = 1 := k_eqT rfl (by decide +kernel) c_24
              refine lv_aload_n hx hb dX7_most_180 rfl (lv_at hl 6 rfl) ?_
              refine k_get (D := (dC, dI)) (ci := 7) (v := .int 0) (C := RX7) (T := TX7) (N := 92) hx hb hts hinX7 hown hK hP 4 rfl rfl 75 (by decide) w_0 rfl rfl dX7_most_181 ?_
              refine lv_goto (tgt := 203) hx hb dX7_most_184 (by decide) ?_
              exact k_ri B hP hD hS dX7_most_203 (6, (fun _ => 0)) [4, 0, 1, 2, 5, 3] rfl rfl rfl (Nat.le_of_ble_eq_true rfl) (Nat.le_of_ble_eq_true rfl) ⟨c_6, c_7, c_13, c_14, c_19, c_22, c_23, c_24, rfl⟩
          · have c_23 : p2.toInt = 0 := k_eqT rfl (by decide +kernel) c_23
            refine lv_iload hx hb dX7_most_170 (lv_at hl 2 rfl) ?_
            refine lv_goto (tgt := 203) hx hb dX7_most_172 (by decide) ?_
            exact k_ri B hP hD hS dX7_most_203 (7, (fun _ => 0)) [4, 0, 1, 2, 5, 3] rfl rfl rfl (Nat.le_of_ble_eq_true rfl) (Nat.le_of_ble_eq_true rfl) ⟨c_6, c_7, c_13, c_14, c_19, c_22, c_23, rfl⟩
        · have c_22 : 1 ≤ p1.toInt := k_ltF rfl (by decide +kernel) c_22
          refine lv_iconst (v := 0) hx hb dX7_most_49 (by decide +kernel) ?_
          refine lv_istore (lv' := [(6, .int 0), (5, .int 1), (4, .int 0), (8, .int 0), (7, .int 0), (3, .int (-1)), (0, .ref p0), (1, .int p1), (2, .int p2)]) hx hb dX7_most_50 hl (by decide) rfl (fun ls hl => ?_)
          refine lv_iload hx hb dX7_most_52 (lv_at hl 0 rfl) ?_
          refine lv_iconst (v := 1) hx hb dX7_most_54 (by decide +kernel) ?_
          refine lv_aload_n hx hb dX7_most_55 rfl (lv_at hl 6 rfl) ?_
          refine k_get (D := (dC, dI)) (ci := 7) (v := .ref (p3 14)) (C := RX7) (T := TX7) (N := 92) hx hb hts hinX7 hown hK hP 4 rfl rfl 14 (by decide) w_1 rfl rfl dX7_most_56 ?_
          refine lv_aload_n hx hb dX7_most_59 rfl (lv_at hl 6 rfl) ?_
          refine k_get (D := (dC, dI)) (ci := 7) (v := .int 0) (C := RX7) (T := TX7) (N := 92) hx hb hts hinX7 hown hK hP 4 rfl rfl 13 (by decide) w_2 rfl rfl dX7_most_60 ?_
          refine k_iald (v := 0) hx hb hK hP 5 0 0 rfl rfl rfl (Nat.le_of_ble_eq_true rfl) (Nat.le_of_ble_eq_true rfl) rfl dX7_most_63 ?_
          refine lv_ishl hx hb dX7_most_64 ?_
          refine k_int (v := 1) (by decide +kernel) ?_
          refine lv_icmp_ge (tgt := 160) hx hb dX7_most_65 (by decide) (fun q9 => absurd q9 (by decide +kernel)) (fun _ => ?_)
          refine lv_aload_n hx hb dX7_most_68 rfl (lv_at hl 6 rfl) ?_
          refine k_get (D := (dC, dI)) (ci := 7) (v := .ref (p3 72)) (C := RX7) (T := TX7) (N := 92) hx hb hts hinX7 hown hK hP 4 rfl rfl 72 (by decide) w_3 rfl rfl dX7_most_69 ?_
          refine lv_sipush (v := 1024) hx hb dX7_most_72 (by decide +kernel) ?_
          refine lv_iload hx hb dX7_most_75 (lv_at hl 1 rfl) ?_
          refine lv_imul hx hb dX7_most_77 ?_
          refine k_int (v := 1024) (by decide +kernel) ?_
          refine lv_iload hx hb dX7_most_78 (lv_at hl 0 rfl) ?_
          refine lv_iadd hx hb dX7_most_80 ?_
          refine k_int (v := 1024) (by decide +kernel) ?_
          refine k_iald (v := (-1)) hx hb hK hP 2 0 1024 rfl rfl rfl (Nat.le_of_ble_eq_true rfl) (Nat.le_of_ble_eq_true rfl) rfl dX7_most_81 ?_
          refine lv_istore (lv' := [(7, .int (-1)), (6, .int 0), (5, .int 1), (4, .int 0), (8, .int 0), (3, .int (-1)), (0, .ref p0), (1, .int p1), (2, .int p2)]) hx hb dX7_most_82 hl (by decide) rfl (fun ls hl => ?_)
          refine lv_iload hx hb dX7_most_84 (lv_at hl 0 rfl) ?_
          refine lv_iconst (v := (-1)) hx hb dX7_most_86 (by decide +kernel) ?_
          refine lv_icmp_ne (tgt := 93) hx hb dX7_most_87 (by decide) (fun q9 => absurd q9 (by decide +kernel)) (fun _ => ?_)
          refine lv_goto (tgt := 154) hx hb dX7_most_90 (by decide) ?_
          refine lv_iinc (v := 1) (lv' := [(6, .int 1), (7, .int (-1)), (5, .int 1), (4, .int 0), (8, .int 0), (3, .int (-1)), (0, .ref p0), (1, .int p1), (2, .int p2)]) hx hb dX7_most_154 hl (k := 1) rfl (by decide +kernel) (by decide) rfl (fun ls hl => ?_)
          refine lv_goto (tgt := 52) hx hb dX7_most_157 (by decide) ?_
          refine lv_iload hx hb dX7_most_52 (lv_at hl 0 rfl) ?_
          refine lv_iconst (v := 1) hx hb dX7_most_54 (by decide +kernel) ?_
          refine lv_aload_n hx hb dX7_most_55 rfl (lv_at hl 6 rfl) ?_
          refine k_get (D := (dC, dI)) (ci := 7) (v := .ref (p3 14)) (C := RX7) (T := TX7) (N := 92) hx hb hts hinX7 hown hK hP 4 rfl rfl 14 (by decide) w_1 rfl rfl dX7_most_56 ?_
          refine lv_aload_n hx hb dX7_most_59 rfl (lv_at hl 6 rfl) ?_
          refine k_get (D := (dC, dI)) (ci := 7) (v := .int 0) (C := RX7) (T := TX7) (N := 92) hx hb hts hinX7 hown hK hP 4 rfl rfl 13 (by decide) w_2 rfl rfl dX7_most_60 ?_
          refine k_iald (v := 0) hx hb hK hP 5 0 0 rfl rfl rfl (Nat.le_of_ble_eq_true rfl) (Nat.le_of_ble_eq_true rfl) rfl dX7_most_63 ?_
          refine lv_ishl hx hb dX7_most_64 ?_
          refine k_int (v := 1) (by decide +kernel) ?_
          refine lv_icmp_ge (tgt := 160) hx hb dX7_most_65 (by decide) (fun _ => ?_) (fun q9 => absurd q9 (by decide +kernel))
          refine lv_iinc (v := 2) (lv' := [(5, .int 2), (6, .int 1), (7, .int (-1)), (4, .int 0), (8, .int 0), (3, .int (-1)), (0, .ref p0), (1, .int p1), (2, .int p2)]) hx hb dX7_most_160 hl (k := 2) rfl (by decide +kernel) (by decide) rfl (fun ls hl => ?_)
          refine lv_goto (tgt := 43) hx hb dX7_most_163 (by decide) ?_
          refine lv_iload hx hb dX7_most_43 (lv_at hl 0 rfl) ?_
          refine lv_iload_n hx hb dX7_most_45 rfl (lv_at hl 7 rfl) ?_
          refine lv_icmp_gt (tgt := 166) hx hb dX7_most_46 (by decide) (fun c_28 => ?_) (fun c_28 => ?_)
          · have c_28 : p1.toInt < 2 := k_ltT rfl (by decide +kernel) c_28
            refine lv_iload_n hx hb dX7_most_166 rfl (lv_at hl 8 rfl) ?_
            refine lv_if_ne (tgt := 175) hx hb dX7_most_167 (by decide) (fun c_29 => ?_) (fun c_29 => ?_)
            · have c_29 : ¬ p2.toInt = 0 := k_eqF rfl (by decide +kernel) c_29
              refine lv_iload_n hx hb dX7_most_175 rfl (lv_at hl 8 rfl) ?_
              refine lv_iconst (v := 1) hx hb dX7_most_176 (by decide +kernel) ?_
              refine lv_icmp_ne (tgt := 187) hx hb dX7_most_177 (by decide) (fun c_30 => ?_) (fun c_30 => ?_)
              · have c_30 : ¬ p2.toInt = 1 := k_eqF rfl (by decide +kernel) c_30
                refine lv_iload_n hx hb dX7_most_187 rfl (lv_at hl 8 rfl) ?_
                refine lv_iconst (v := 2) hx hb dX7_most_188 (by decide +kernel) ?_
                refine lv_icmp_ne (tgt := 199) hx hb dX7_most_189 (by decide) (fun c_31 => ?_) (fun c_31 => ?_)
                · have c_31 : ¬ p2.toInt = 2 := k_eqF rfl (by decide +kernel) c_31
                  refine lv_aload_n hx hb dX7_most_199 rfl (lv_at hl 6 rfl) ?_
                  refine k_get (D := (dC, dI)) (ci := 7) (v := .int 0) (C := RX7) (T := TX7) (N := 92) hx hb hts hinX7 hown hK hP 4 rfl rfl 76 (by decide) w_4 rfl rfl dX7_most_200 ?_
                  exact k_ri B hP hD hS dX7_most_203 (8, (fun _ => 0)) [4, 0, 1, 2, 5, 3] rfl rfl rfl (Nat.le_of_ble_eq_true rfl) (Nat.le_of_ble_eq_true rfl) ⟨c_6, c_7, c_13, c_14, c_19, c_22, c_28, c_29, c_30, c_31, rfl⟩
                · have c_31 : p2.toInt = 2 := k_eqT rfl (by decide +kernel) c_31
                  refine lv_aload_n hx hb dX7_most_192 rfl (lv_at hl 6 rfl) ?_
                  refine k_ci (wc := [(p0, .inr (7, oM p3 (upd (upd i7 75 0) 76 0) j7)), ((p3 72), .inl (cI, 9216, .inl (upd (fun _ => (-1)) 0 0)))]) (wr := [((p3 49), .inl (cI, 22, .inl (fun _ => 0))), ((p3 50), .inl (cI, 22, .inl (fun _ => 0))), ((p3 18), .inl (cI, 2, .inl (fun _ => 0))), ((p3 14), .inl (cI, 2, .inl (fun _ => 0)))]) (fun hPc hDc => va_runV (As := []) (rest := []) ⟨hx, hb, hml, hown, hts⟩ (c_X7_foundSea_v0 l dC dI cI cJ cZ cM p0 p3 H.size) (cwV 0 hts gX7_most_X7_foundSea rfl rfl rfl (by decide +kernel) ⟨(Nat.le_of_ble_eq_true rfl), (Nat.le_of_ble_eq_true rfl)⟩) (k_pV hPc hDc hK hN hP (q0 := 4) (ci := 7) rfl rfl) rfl rfl hl.1 rfl (lv_room (Nat.le_of_ble_eq_true rfl)) dX7_most_193 ⟨(Nat.le_of_ble_eq_true rfl), (Nat.le_of_ble_eq_true rfl)⟩) hP hD hS hA [4, 2] [0, 1, 3, 5] rfl rfl rfl rfl (by decide) (fun _ => rfl) 0 0 rfl rfl (fun r_32 u_33 H locs hw hP hD hS => ?_)
                  obtain rfl : r_32 = 0 := hw
                  have hP : va_P (dC, dI) vwCl [((p3 49), .inl (cI, 22, .inl (fun _ => 0))), ((p3 50), .inl (cI, 22, .inl (fun _ => 0))), ((p3 18), .inl (cI, 2, .inl (fun _ => 0))), ((p3 14), .inl (cI, 2, .inl (fun _ => 0))), (p0, .inr (7, oM p3 (upd (upd i7 75 0) 76 0) j7)), ((p3 72), .inl (cI, 9216, .inl (upd (fun _ => (-1)) 0 0)))] H := hP
                  have hD : va_D A [((p3 49), .inl (cI, 22, .inl (fun _ => 0))), ((p3 50), .inl (cI, 22, .inl (fun _ => 0))), ((p3 18), .inl (cI, 2, .inl (fun _ => 0))), ((p3 14), .inl (cI, 2, .inl (fun _ => 0))), (p0, .inr (7, oM p3 (upd (upd i7 75 0) 76 0) j7)), ((p3 72), .inl (cI, 9216, .inl (upd (fun _ => (-1)) 0 0)))] := hD
                  refine lv_goto (tgt := 203) hx hb dX7_most_196 (by decide) ?_
                  exact k_ri B hP hD hS dX7_most_203 (9, (fun _ => 0)) [4, 0, 1, 5, 3, 2] rfl rfl rfl (Nat.le_of_ble_eq_true rfl) (Nat.le_of_ble_eq_true rfl) ⟨c_6, c_7, c_13, c_14, c_19, c_22, c_28, c_29, c_30, c_31, rfl⟩
              · have c_30 : p2.toInt = 1 := k_eqT rfl (by decide +kernel) c_30
                refine lv_aload_n hx hb dX7_most_180 rfl (lv_at hl 6 rfl) ?_
                refine k_get (D := (dC, dI)) (ci := 7) (v := .int 0) (C := RX7) (T := TX7) (N := 92) hx hb hts hinX7 hown hK hP 4 rfl rfl 75 (by decide) w_0 rfl rfl dX7_most_181 ?_
                refine lv_goto (tgt := 203) hx hb dX7_most_184 (by decide) ?_
                exact k_ri B hP hD hS dX7_most_203 (10, (fun _ => 0)) [4, 0, 1, 2, 5, 3] rfl rfl rfl (Nat.le_of_ble_eq_true rfl) (Nat.le_of_ble_eq_true rfl) ⟨c_6, c_7, c_13, c_14, c_19, c_22, c_28, c_29, c_30, rfl⟩
            · have c_29 : p2.toInt = 0 := k_eqT rfl (by decide +kernel) c_29
              refine lv_iload hx hb dX7_most_170 (lv_at hl 3 rfl) ?_
              refine lv_goto (tgt := 203) hx hb dX7_most_172 (by decide) ?_
              exact k_ri B hP hD hS dX7_most_203 (11, (fun _ => 0)) [4, 0, 1, 2, 5, 3] rfl rfl rfl (Nat.le_of_ble_eq_true rfl) (Nat.le_of_ble_eq_true rfl) ⟨c_6, c_7, c_13, c_14, c_19, c_22, c_28, c_29, rfl⟩
          · have c_28 : 2 ≤ p1.toInt := k_ltF rfl (by decide +kernel) c_28
            refine lv_iconst (v := 0) hx hb dX7_most_49 (by decide +kernel) ?_
            refine lv_istore (lv' := [(6, .int 0), (5, .int 2), (7, .int (-1)), (4, .int 0), (8, .int 0), (3, .int (-1)), (0, .ref p0), (1, .int p1), (2, .int p2)]) hx hb dX7_most_50 hl (by decide) rfl (fun ls hl => ?_)
            refine lv_iload hx hb dX7_most_52 (lv_at hl 0 rfl) ?_
            refine lv_iconst (v := 1) hx hb dX7_most_54 (by decide +kernel) ?_
            refine lv_aload_n hx hb dX7_most_55 rfl (lv_at hl 6 rfl) ?_
            refine k_get (D := (dC, dI)) (ci := 7) (v := .ref (p3 14)) (C := RX7) (T := TX7) (N := 92) hx hb hts hinX7 hown hK hP 4 rfl rfl 14 (by decide) w_1 rfl rfl dX7_most_56 ?_
            refine lv_aload_n hx hb dX7_most_59 rfl (lv_at hl 6 rfl) ?_
            refine k_get (D := (dC, dI)) (ci := 7) (v := .int 0) (C := RX7) (T := TX7) (N := 92) hx hb hts hinX7 hown hK hP 4 rfl rfl 13 (by decide) w_2 rfl rfl dX7_most_60 ?_
            refine k_iald (v := 0) hx hb hK hP 5 0 0 rfl rfl rfl (Nat.le_of_ble_eq_true rfl) (Nat.le_of_ble_eq_true rfl) rfl dX7_most_63 ?_
            refine lv_ishl hx hb dX7_most_64 ?_
            refine k_int (v := 1) (by decide +kernel) ?_
            refine lv_icmp_ge (tgt := 160) hx hb dX7_most_65 (by decide) (fun q9 => absurd q9 (by decide +kernel)) (fun _ => ?_)
            refine lv_aload_n hx hb dX7_most_68 rfl (lv_at hl 6 rfl) ?_
            refine k_get (D := (dC, dI)) (ci := 7) (v := .ref (p3 72)) (C := RX7) (T := TX7) (N := 92) hx hb hts hinX7 hown hK hP 4 rfl rfl 72 (by decide) w_3 rfl rfl dX7_most_69 ?_
            refine lv_sipush (v := 1024) hx hb dX7_most_72 (by decide +kernel) ?_
            refine lv_iload hx hb dX7_most_75 (lv_at hl 1 rfl) ?_
            refine lv_imul hx hb dX7_most_77 ?_
            refine k_int (v := 2048) (by decide +kernel) ?_
            refine lv_iload hx hb dX7_most_78 (lv_at hl 0 rfl) ?_
            refine lv_iadd hx hb dX7_most_80 ?_
            refine k_int (v := 2048) (by decide +kernel) ?_
            refine k_iald (v := (-1)) hx hb hK hP 2 0 2048 rfl rfl rfl (Nat.le_of_ble_eq_true rfl) (Nat.le_of_ble_eq_true rfl) rfl dX7_most_81 ?_
            refine lv_istore (lv' := [(7, .int (-1)), (6, .int 0), (5, .int 2), (4, .int 0), (8, .int 0), (3, .int (-1)), (0, .ref p0), (1, .int p1), (2, .int p2)]) hx hb dX7_most_82 hl (by decide) rfl (fun ls hl => ?_)
            refine lv_iload hx hb dX7_most_84 (lv_at hl 0 rfl) ?_
            refine lv_iconst (v := (-1)) hx hb dX7_most_86 (by decide +kernel) ?_
            refine lv_icmp_ne (tgt := 93) hx hb dX7_most_87 (by decide) (fun q9 => absurd q9 (by decide +kernel)) (fun _ => ?_)
            refine lv_goto (tgt := 154) hx hb dX7_most_90 (by decide) ?_
            refine lv_iinc (v := 1) (lv' := [(6, .int 1), (7, .int (-1)), (5, .int 2), (4, .int 0), (8, .int 0), (3, .int (-1)), (0, .ref p0), (1, .int p1), (2, .int p2)]) hx hb dX7_most_154 hl (k := 1) rfl (by decide +kernel) (by decide) rfl (fun ls hl => ?_)
            refine lv_goto (tgt := 52) hx hb dX7_most_157 (by decide) ?_
            refine lv_iload hx hb dX7_most_52 (lv_at hl 0 rfl) ?_
            refine lv_iconst (v := 1) hx hb dX7_most_54 (by decide +kernel) ?_
            refine lv_aload_n hx hb dX7_most_55 rfl (lv_at hl 6 rfl) ?_
            refine k_get (D := (dC, dI)) (ci := 7) (v := .ref (p3 14)) (C := RX7) (T := TX7) (N := 92) hx hb hts hinX7 hown hK hP 4 rfl rfl 14 (by decide) w_1 rfl rfl dX7_most_56 ?_
            refine lv_aload_n hx hb dX7_most_59 rfl (lv_at hl 6 rfl) ?_
            refine k_get (D := (dC, dI)) (ci := 7) (v := .int 0) (C := RX7) (T := TX7) (N := 92) hx hb hts hinX7 hown hK hP 4 rfl rfl 13 (by decide) w_2 rfl rfl dX7_most_60 ?_
            refine k_iald (v := 0) hx hb hK hP 5 0 0 rfl rfl rfl (Nat.le_of_ble_eq_true rfl) (Nat.le_of_ble_eq_true rfl) rfl dX7_most_63 ?_
            refine lv_ishl hx hb dX7_most_64 ?_
            refine k_int (v := 1) (by decide +kernel) ?_
            refine lv_icmp_ge (tgt := 160) hx hb dX7_most_65 (by decide) (fun _ => ?_) (fun q9 => absurd q9 (by decide +kernel))
            refine lv_iinc (v := 3) (lv' := [(5, .int 3), (6, .int 1), (7, .int (-1)), (4, .int 0), (8, .int 0), (3, .int (-1)), (0, .ref p0), (1, .int p1), (2, .int p2)]) hx hb dX7_most_160 hl (k := 2) rfl (by decide +kernel) (by decide) rfl (fun ls hl => ?_)
            refine lv_goto (tgt := 43) hx hb dX7_most_163 (by decide) ?_
            refine lv_iload hx hb dX7_most_43 (lv_at hl 0 rfl) ?_
            refine lv_iload_n hx hb dX7_most_45 rfl (lv_at hl 7 rfl) ?_
            refine lv_icmp_gt (tgt := 166) hx hb dX7_most_46 (by decide) (fun c_34 => ?_) (fun c_34 => ?_)
            · have c_34 : p1.toInt < 3 := k_ltT rfl (by decide +kernel) c_34
              refine lv_iload_n hx hb dX7_most_166 rfl (lv_at hl 8 rfl) ?_
              refine lv_if_ne (tgt := 175) hx hb dX7_most_167 (by decide) (fun c_35 => ?_) (fun c_35 => ?_)
              · have c_35 : ¬ p2.toInt = 0 := k_eqF rfl (by decide +kernel) c_35
                refine lv_iload_n hx hb dX7_most_175 rfl (lv_at hl 8 rfl) ?_
                refine lv_iconst (v := 1) hx hb dX7_most_176 (by decide +kernel) ?_
                refine lv_icmp_ne (tgt := 187) hx hb dX7_most_177 (by decide) (fun c_36 => ?_) (fun c_36 => ?_)
                · have c_36 : ¬ p2.toInt = 1 := k_eqF rfl (by decide +kernel) c_36
                  refine lv_iload_n hx hb dX7_most_187 rfl (lv_at hl 8 rfl) ?_
                  refine lv_iconst (v := 2) hx hb dX7_most_188 (by decide +kernel) ?_
                  refine lv_icmp_ne (tgt := 199) hx hb dX7_most_189 (by decide) (fun c_37 => ?_) (fun c_37 => ?_)
                  · have c_37 : ¬ p2.toInt = 2 := k_eqF rfl (by decide +kernel) c_37
                    refine lv_aload_n hx hb dX7_most_199 rfl (lv_at hl 6 rfl) ?_
                    refine k_get (D := (dC, dI)) (ci := 7) (v := .int 0) (C := RX7) (T := TX7) (N := 92) hx hb hts hinX7 hown hK hP 4 rfl rfl 76 (by decide) w_4 rfl rfl dX7_most_200 ?_
                    exact k_ri B hP hD hS dX7_most_203 (12, (fun _ => 0)) [4, 0, 1, 2, 5, 3] rfl rfl rfl (Nat.le_of_ble_eq_true rfl) (Nat.le_of_ble_eq_true rfl) ⟨c_6, c_7, c_13, c_14, c_19, c_22, c_28, c_34, c_35, c_36, c_37, rfl⟩
                  · have c_37 : p2.toInt = 2 := k_eqT rfl (by decide +kernel) c_37
                    refine lv_aload_n hx hb dX7_most_192 rfl (lv_at hl 6 rfl) ?_
                    refine k_ci (wc := [(p0, .inr (7, oM p3 (upd (upd i7 75 0) 76 0) j7)), ((p3 72), .inl (cI, 9216, .inl (upd (fun _ => (-1)) 0 0)))]) (wr := [((p3 49), .inl (cI, 22, .inl (fun _ => 0))), ((p3 50), .inl (cI, 22, .inl (fun _ => 0))), ((p3 18), .inl (cI, 2, .inl (fun _ => 0))), ((p3 14), .inl (cI, 2, .inl (fun _ => 0)))]) (fun hPc hDc => va_runV (As := []) (rest := []) ⟨hx, hb, hml, hown, hts⟩ (c_X7_foundSea_v0 l dC dI cI cJ cZ cM p0 p3 H.size) (cwV 0 hts gX7_most_X7_foundSea rfl rfl rfl (by decide +kernel) ⟨(Nat.le_of_ble_eq_true rfl), (Nat.le_of_ble_eq_true rfl)⟩) (k_pV hPc hDc hK hN hP (q0 := 4) (ci := 7) rfl rfl) rfl rfl hl.1 rfl (lv_room (Nat.le_of_ble_eq_true rfl)) dX7_most_193 ⟨(Nat.le_of_ble_eq_true rfl), (Nat.le_of_ble_eq_true rfl)⟩) hP hD hS hA [4, 2] [0, 1, 3, 5] rfl rfl rfl rfl (by decide) (fun _ => rfl) 0 0 rfl rfl (fun r_38 u_39 H locs hw hP hD hS => ?_)
                    obtain rfl : r_38 = 0 := hw
                    have hP : va_P (dC, dI) vwCl [((p3 49), .inl (cI, 22, .inl (fun _ => 0))), ((p3 50), .inl (cI, 22, .inl (fun _ => 0))), ((p3 18), .inl (cI, 2, .inl (fun _ => 0))), ((p3 14), .inl (cI, 2, .inl (fun _ => 0))), (p0, .inr (7, oM p3 (upd (upd i7 75 0) 76 0) j7)), ((p3 72), .inl (cI, 9216, .inl (upd (fun _ => (-1)) 0 0)))] H := hP
                    have hD : va_D A [((p3 49), .inl (cI, 22, .inl (fun _ => 0))), ((p3 50), .inl (cI, 22, .inl (fun _ => 0))), ((p3 18), .inl (cI, 2, .inl (fun _ => 0))), ((p3 14), .inl (cI, 2, .inl (fun _ => 0))), (p0, .inr (7, oM p3 (upd (upd i7 75 0) 76 0) j7)), ((p3 72), .inl (cI, 9216, .inl (upd (fun _ => (-1)) 0 0)))] := hD
                    refine lv_goto (tgt := 203) hx hb dX7_most_196 (by decide) ?_
                    exact k_ri B hP hD hS dX7_most_203 (13, (fun _ => 0)) [4, 0, 1, 5, 3, 2] rfl rfl rfl (Nat.le_of_ble_eq_true rfl) (Nat.le_of_ble_eq_true rfl) ⟨c_6, c_7, c_13, c_14, c_19, c_22, c_28, c_34, c_35, c_36, c_37, rfl⟩
                · have c_36 : p2.toInt = 1 := k_eqT rfl (by decide +kernel) c_36
                  refine lv_aload_n hx hb dX7_most_180 rfl (lv_at hl 6 rfl) ?_
                  refine k_get (D := (dC, dI)) (ci := 7) (v := .int 0) (C := RX7) (T := TX7) (N := 92) hx hb hts hinX7 hown hK hP 4 rfl rfl 75 (by decide) w_0 rfl rfl dX7_most_181 ?_
                  refine lv_goto (tgt := 203) hx hb dX7_most_184 (by decide) ?_
                  exact k_ri B hP hD hS dX7_most_203 (14, (fun _ => 0)) [4, 0, 1, 2, 5, 3] rfl rfl rfl (Nat.le_of_ble_eq_true rfl) (Nat.le_of_ble_eq_true rfl) ⟨c_6, c_7, c_13, c_14, c_19, c_22, c_28, c_34, c_35, c_36, rfl⟩
              · have c_35 : p2.toInt = 0 := k_eqT rfl (by decide +kernel) c_35
                refine lv_iload hx hb dX7_most_170 (lv_at hl 3 rfl) ?_
                refine lv_goto (tgt := 203) hx hb dX7_most_172 (by decide) ?_
                exact k_ri B hP hD hS dX7_most_203 (15, (fun _ => 0)) [4, 0, 1, 2, 5, 3] rfl rfl rfl (Nat.le_of_ble_eq_true rfl) (Nat.le_of_ble_eq_true rfl) ⟨c_6, c_7, c_13, c_14, c_19, c_22, c_28, c_34, c_35, rfl⟩
            · have c_34 : 3 ≤ p1.toInt := k_ltF rfl (by decide +kernel) c_34
              refine lv_iconst (v := 0) hx hb dX7_most_49 (by decide +kernel) ?_
              refine lv_istore (lv' := [(6, .int 0), (5, .int 3), (7, .int (-1)), (4, .int 0), (8, .int 0), (3, .int (-1)), (0, .ref p0), (1, .int p1), (2, .int p2)]) hx hb dX7_most_50 hl (by decide) rfl (fun ls hl => ?_)
              refine lv_iload hx hb dX7_most_52 (lv_at hl 0 rfl) ?_
              refine lv_iconst (v := 1) hx hb dX7_most_54 (by decide +kernel) ?_
              refine lv_aload_n hx hb dX7_most_55 rfl (lv_at hl 6 rfl) ?_
              refine k_get (D := (dC, dI)) (ci := 7) (v := .ref (p3 14)) (C := RX7) (T := TX7) (N := 92) hx hb hts hinX7 hown hK hP 4 rfl rfl 14 (by decide) w_1 rfl rfl dX7_most_56 ?_
              refine lv_aload_n hx hb dX7_most_59 rfl (lv_at hl 6 rfl) ?_
              refine k_get (D := (dC, dI)) (ci := 7) (v := .int 0) (C := RX7) (T := TX7) (N := 92) hx hb hts hinX7 hown hK hP 4 rfl rfl 13 (by decide) w_2 rfl rfl dX7_most_60 ?_
              refine k_iald (v := 0) hx hb hK hP 5 0 0 rfl rfl rfl (Nat.le_of_ble_eq_true rfl) (Nat.le_of_ble_eq_true rfl) rfl dX7_most_63 ?_
              refine lv_ishl hx hb dX7_most_64 ?_
              refine k_int (v := 1) (by decide +kernel) ?_
              refine lv_icmp_ge (tgt := 160) hx hb dX7_most_65 (by decide) (fun q9 => absurd q9 (by decide +kernel)) (fun _ => ?_)
              refine lv_aload_n hx hb dX7_most_68 rfl (lv_at hl 6 rfl) ?_
              refine k_get (D := (dC, dI)) (ci := 7) (v := .ref (p3 72)) (C := RX7) (T := TX7) (N := 92) hx hb hts hinX7 hown hK hP 4 rfl rfl 72 (by decide) w_3 rfl rfl dX7_most_69 ?_
              refine lv_sipush (v := 1024) hx hb dX7_most_72 (by decide +kernel) ?_
              refine lv_iload hx hb dX7_most_75 (lv_at hl 1 rfl) ?_
              refine lv_imul hx hb dX7_most_77 ?_
              refine k_int (v := 3072) (by decide +kernel) ?_
              refine lv_iload hx hb dX7_most_78 (lv_at hl 0 rfl) ?_
              refine lv_iadd hx hb dX7_most_80 ?_
              refine k_int (v := 3072) (by decide +kernel) ?_
              refine k_iald (v := (-1)) hx hb hK hP 2 0 3072 rfl rfl rfl (Nat.le_of_ble_eq_true rfl) (Nat.le_of_ble_eq_true rfl) rfl dX7_most_81 ?_
              refine lv_istore (lv' := [(7, .int (-1)), (6, .int 0), (5, .int 3), (4, .int 0), (8, .int 0), (3, .int (-1)), (0, .ref p0), (1, .int p1), (2, .int p2)]) hx hb dX7_most_82 hl (by decide) rfl (fun ls hl => ?_)
              refine lv_iload hx hb dX7_most_84 (lv_at hl 0 rfl) ?_
              refine lv_iconst (v := (-1)) hx hb dX7_most_86 (by decide +kernel) ?_
              refine lv_icmp_ne (tgt := 93) hx hb dX7_most_87 (by decide) (fun q9 => absurd q9 (by decide +kernel)) (fun _ => ?_)
              refine lv_goto (tgt := 154) hx hb dX7_most_90 (by decide) ?_
              refine lv_iinc (v := 1) (lv' := [(6, .int 1), (7, .int (-1)), (5, .int 3), (4, .int 0), (8, .int 0), (3, .int (-1)), (0, .ref p0), (1, .int p1), (2, .int p2)]) hx hb dX7_most_154 hl (k := 1) rfl (by decide +kernel) (by decide) rfl (fun ls hl => ?_)
              refine lv_goto (tgt := 52) hx hb dX7_most_157 (by decide) ?_
              refine lv_iload hx hb dX7_most_52 (lv_at hl 0 rfl) ?_
              refine lv_iconst (v := 1) hx hb dX7_most_54 (by decide +kernel) ?_
              refine lv_aload_n hx hb dX7_most_55 rfl (lv_at hl 6 rfl) ?_
              refine k_get (D := (dC, dI)) (ci := 7) (v := .ref (p3 14)) (C := RX7) (T := TX7) (N := 92) hx hb hts hinX7 hown hK hP 4 rfl rfl 14 (by decide) w_1 rfl rfl dX7_most_56 ?_
              refine lv_aload_n hx hb dX7_most_59 rfl (lv_at hl 6 rfl) ?_
              refine k_get (D := (dC, dI)) (ci := 7) (v := .int 0) (C := RX7) (T := TX7) (N := 92) hx hb hts hinX7 hown hK hP 4 rfl rfl 13 (by decide) w_2 rfl rfl dX7_most_60 ?_
              refine k_iald (v := 0) hx hb hK hP 5 0 0 rfl rfl rfl (Nat.le_of_ble_eq_true rfl) (Nat.le_of_ble_eq_true rfl) rfl dX7_most_63 ?_
              refine lv_ishl hx hb dX7_most_64 ?_
              refine k_int (v := 1) (by decide +kernel) ?_
              refine lv_icmp_ge (tgt := 160) hx hb dX7_most_65 (by decide) (fun _ => ?_) (fun q9 => absurd q9 (by decide +kernel))
              refine lv_iinc (v := 4) (lv' := [(5, .int 4), (6, .int 1), (7, .int (-1)), (4, .int 0), (8, .int 0), (3, .int (-1)), (0, .ref p0), (1, .int p1), (2, .int p2)]) hx hb dX7_most_160 hl (k := 2) rfl (by decide +kernel) (by decide) rfl (fun ls hl => ?_)
              refine lv_goto (tgt := 43) hx hb dX7_most_163 (by decide) ?_
              refine lv_iload hx hb dX7_most_43 (lv_at hl 0 rfl) ?_
              refine lv_iload_n hx hb dX7_most_45 rfl (lv_at hl 7 rfl) ?_
              refine lv_icmp_gt (tgt := 166) hx hb dX7_most_46 (by decide) (fun c_40 => ?_) (fun c_40 => ?_)
              · have c_40 : p1.toInt < 4 := k_ltT rfl (by decide +kernel) c_40
                refine lv_iload_n hx hb dX7_most_166 rfl (lv_at hl 8 rfl) ?_
                refine lv_if_ne (tgt := 175) hx hb dX7_most_167 (by decide) (fun c_41 => ?_) (fun c_41 => ?_)
                · have c_41 : ¬ p2.toInt = 0 := k_eqF rfl (by decide +kernel) c_41
                  refine lv_iload_n hx hb dX7_most_175 rfl (lv_at hl 8 rfl) ?_
                  refine lv_iconst (v := 1) hx hb dX7_most_176 (by decide +kernel) ?_
                  refine lv_icmp_ne (tgt := 187) hx hb dX7_most_177 (by decide) (fun c_42 => ?_) (fun c_42 => ?_)
                  · have c_42 : ¬ p2.toInt = 1 := k_eqF rfl (by decide +kernel) c_42
                    refine lv_iload_n hx hb dX7_most_187 rfl (lv_at hl 8 rfl) ?_
                    refine lv_iconst (v := 2) hx hb dX7_most_188 (by decide +kernel) ?_
                    refine lv_icmp_ne (tgt := 199) hx hb dX7_most_189 (by decide) (fun c_43 => ?_) (fun c_43 => ?_)
                    · have c_43 : ¬ p2.toInt = 2 := k_eqF rfl (by decide +kernel) c_43
                      refine lv_aload_n hx hb dX7_most_199 rfl (lv_at hl 6 rfl) ?_
                      refine k_get (D := (dC, dI)) (ci := 7) (v := .int 0) (C := RX7) (T := TX7) (N := 92) hx hb hts hinX7 hown hK hP 4 rfl rfl 76 (by decide) w_4 rfl rfl dX7_most_200 ?_
                      exact k_ri B hP hD hS dX7_most_203 (16, (fun _ => 0)) [4, 0, 1, 2, 5, 3] rfl rfl rfl (Nat.le_of_ble_eq_true rfl) (Nat.le_of_ble_eq_true rfl) ⟨c_6, c_7, c_13, c_14, c_19, c_22, c_28, c_34, c_40, c_41, c_42, c_43, rfl⟩
                    · have c_43 : p2.toInt = 2 := k_eqT rfl (by decide +kernel) c_43
                      refine lv_aload_n hx hb dX7_most_192 rfl (lv_at hl 6 rfl) ?_
                      refine k_ci (wc := [(p0, .inr (7, oM p3 (upd (upd i7 75 0) 76 0) j7)), ((p3 72), .inl (cI, 9216, .inl (upd (fun _ => (-1)) 0 0)))]) (wr := [((p3 49), .inl (cI, 22, .inl (fun _ => 0))), ((p3 50), .inl (cI, 22, .inl (fun _ => 0))), ((p3 18), .inl (cI, 2, .inl (fun _ => 0))), ((p3 14), .inl (cI, 2, .inl (fun _ => 0)))]) (fun hPc hDc => va_runV (As := []) (rest := []) ⟨hx, hb, hml, hown, hts⟩ (c_X7_foundSea_v0 l dC dI cI cJ cZ cM p0 p3 H.size) (cwV 0 hts gX7_most_X7_foundSea rfl rfl rfl (by decide +kernel) ⟨(Nat.le_of_ble_eq_true rfl), (Nat.le_of_ble_eq_true rfl)⟩) (k_pV hPc hDc hK hN hP (q0 := 4) (ci := 7) rfl rfl) rfl rfl hl.1 rfl (lv_room (Nat.le_of_ble_eq_true rfl)) dX7_most_193 ⟨(Nat.le_of_ble_eq_true rfl), (Nat.le_of_ble_eq_true rfl)⟩) hP hD hS hA [4, 2] [0, 1, 3, 5] rfl rfl rfl rfl (by decide) (fun _ => rfl) 0 0 rfl rfl (fun r_44 u_45 H locs hw hP hD hS => ?_)
                      obtain rfl : r_44 = 0 := hw
                      have hP : va_P (dC, dI) vwCl [((p3 49), .inl (cI, 22, .inl (fun _ => 0))), ((p3 50), .inl (cI, 22, .inl (fun _ => 0))), ((p3 18), .inl (cI, 2, .inl (fun _ => 0))), ((p3 14), .inl (cI, 2, .inl (fun _ => 0))), (p0, .inr (7, oM p3 (upd (upd i7 75 0) 76 0) j7)), ((p3 72), .inl (cI, 9216, .inl (upd (fun _ => (-1)) 0 0)))] H := hP
                      have hD : va_D A [((p3 49), .inl (cI, 22, .inl (fun _ => 0))), ((p3 50), .inl (cI, 22, .inl (fun _ => 0))), ((p3 18), .inl (cI, 2, .inl (fun _ => 0))), ((p3 14), .inl (cI, 2, .inl (fun _ => 0))), (p0, .inr (7, oM p3 (upd (upd i7 75 0) 76 0) j7)), ((p3 72), .inl (cI, 9216, .inl (upd (fun _ => (-1)) 0 0)))] := hD
                      refine lv_goto (tgt := 203) hx hb dX7_most_196 (by decide) ?_
                      exact k_ri B hP hD hS dX7_most_203 (17, (fun _ => 0)) [4, 0, 1, 5, 3, 2] rfl rfl rfl (Nat.le_of_ble_eq_true rfl) (Nat.le_of_ble_eq_true rfl) ⟨c_6, c_7, c_13, c_14, c_19, c_22, c_28, c_34, c_40, c_41, c_42, c_43, rfl⟩
                  · have c_42 : p2.toInt = 1 := k_eqT rfl (by decide +kernel) c_42
                    refine lv_aload_n hx hb dX7_most_180 rfl (lv_at hl 6 rfl) ?_
                    refine k_get (D := (dC, dI)) (ci := 7) (v := .int 0) (C := RX7) (T := TX7) (N := 92) hx hb hts hinX7 hown hK hP 4 rfl rfl 75 (by decide) w_0 rfl rfl dX7_most_181 ?_
                    refine lv_goto (tgt := 203) hx hb dX7_most_184 (by decide) ?_
                    exact k_ri B hP hD hS dX7_most_203 (18, (fun _ => 0)) [4, 0, 1, 2, 5, 3] rfl rfl rfl (Nat.le_of_ble_eq_true rfl) (Nat.le_of_ble_eq_true rfl) ⟨c_6, c_7, c_13, c_14, c_19, c_22, c_28, c_34, c_40, c_41, c_42, rfl⟩
                · have c_41 : p2.toInt = 0 := k_eqT rfl (by decide +kernel) c_41
                  refine lv_iload hx hb dX7_most_170 (lv_at hl 3 rfl) ?_
                  refine lv_goto (tgt := 203) hx hb dX7_most_172 (by decide) ?_
                  exact k_ri B hP hD hS dX7_most_203 (19, (fun _ => 0)) [4, 0, 1, 2, 5, 3] rfl rfl rfl (Nat.le_of_ble_eq_true rfl) (Nat.le_of_ble_eq_true rfl) ⟨c_6, c_7, c_13, c_14, c_19, c_22, c_28, c_34, c_40, c_41, rfl⟩
              · have c_40 : 4 ≤ p1.toInt := k_ltF rfl (by decide +kernel) c_40
                refine lv_iconst (v := 0) hx hb dX7_most_49 (by decide +kernel) ?_
                refine lv_istore (lv' := [(6, .int 0), (5, .int 4), (7, .int (-1)), (4, .int 0), (8, .int 0), (3, .int (-1)), (0, .ref p0), (1, .int p1), (2, .int p2)]) hx hb dX7_most_50 hl (by decide) rfl (fun ls hl => ?_)
                refine lv_iload hx hb dX7_most_52 (lv_at hl 0 rfl) ?_
                refine lv_iconst (v := 1) hx hb dX7_most_54 (by decide +kernel) ?_
                refine lv_aload_n hx hb dX7_most_55 rfl (lv_at hl 6 rfl) ?_
                refine k_get (D := (dC, dI)) (ci := 7) (v := .ref (p3 14)) (C := RX7) (T := TX7) (N := 92) hx hb hts hinX7 hown hK hP 4 rfl rfl 14 (by decide) w_1 rfl rfl dX7_most_56 ?_
                refine lv_aload_n hx hb dX7_most_59 rfl (lv_at hl 6 rfl) ?_
                refine k_get (D := (dC, dI)) (ci := 7) (v := .int 0) (C := RX7) (T := TX7) (N := 92) hx hb hts hinX7 hown hK hP 4 rfl rfl 13 (by decide) w_2 rfl rfl dX7_most_60 ?_
                refine k_iald (v := 0) hx hb hK hP 5 0 0 rfl rfl rfl (Nat.le_of_ble_eq_true rfl) (Nat.le_of_ble_eq_true rfl) rfl dX7_most_63 ?_
                refine lv_ishl hx hb dX7_most_64 ?_
                refine k_int (v := 1) (by decide +kernel) ?_
                refine lv_icmp_ge (tgt := 160) hx hb dX7_most_65 (by decide) (fun q9 => absurd q9 (by decide +kernel)) (fun _ => ?_)
                refine lv_aload_n hx hb dX7_most_68 rfl (lv_at hl 6 rfl) ?_
                refine k_get (D := (dC, dI)) (ci := 7) (v := .ref (p3 72)) (C := RX7) (T := TX7) (N := 92) hx hb hts hinX7 hown hK hP 4 rfl rfl 72 (by decide) w_3 rfl rfl dX7_most_69 ?_
                refine lv_sipush (v := 1024) hx hb dX7_most_72 (by decide +kernel) ?_
                refine lv_iload hx hb dX7_most_75 (lv_at hl 1 rfl) ?_
                refine lv_imul hx hb dX7_most_77 ?_
                refine k_int (v := 4096) (by decide +kernel) ?_
                refine lv_iload hx hb dX7_most_78 (lv_at hl 0 rfl) ?_
                refine lv_iadd hx hb dX7_most_80 ?_
                refine k_int (v := 4096) (by decide +kernel) ?_
                refine k_iald (v := (-1)) hx hb hK hP 2 0 4096 rfl rfl rfl (Nat.le_of_ble_eq_true rfl) (Nat.le_of_ble_eq_true rfl) rfl dX7_most_81 ?_
                refine lv_istore (lv' := [(7, .int (-1)), (6, .int 0), (5, .int 4), (4, .int 0), (8, .int 0), (3, .int (-1)), (0, .ref p0), (1, .int p1), (2, .int p2)]) hx hb dX7_most_82 hl (by decide) rfl (fun ls hl => ?_)
                refine lv_iload hx hb dX7_most_84 (lv_at hl 0 rfl) ?_
                refine lv_iconst (v := (-1)) hx hb dX7_most_86 (by decide +kernel) ?_
                refine lv_icmp_ne (tgt := 93) hx hb dX7_most_87 (by decide) (fun q9 => absurd q9 (by decide +kernel)) (fun _ => ?_)
                refine lv_goto (tgt := 154) hx hb dX7_most_90 (by decide) ?_
                refine lv_iinc (v := 1) (lv' := [(6, .int 1), (7, .int (-1)), (5, .int 4), (4, .int 0), (8, .int 0), (3, .int (-1)), (0, .ref p0), (1, .int p1), (2, .int p2)]) hx hb dX7_most_154 hl (k := 1) rfl (by decide +kernel) (by decide) rfl (fun ls hl => ?_)
                refine lv_goto (tgt := 52) hx hb dX7_most_157 (by decide) ?_
                refine lv_iload hx hb dX7_most_52 (lv_at hl 0 rfl) ?_
                refine lv_iconst (v := 1) hx hb dX7_most_54 (by decide +kernel) ?_
                refine lv_aload_n hx hb dX7_most_55 rfl (lv_at hl 6 rfl) ?_
                refine k_get (D := (dC, dI)) (ci := 7) (v := .ref (p3 14)) (C := RX7) (T := TX7) (N := 92) hx hb hts hinX7 hown hK hP 4 rfl rfl 14 (by decide) w_1 rfl rfl dX7_most_56 ?_
                refine lv_aload_n hx hb dX7_most_59 rfl (lv_at hl 6 rfl) ?_
                refine k_get (D := (dC, dI)) (ci := 7) (v := .int 0) (C := RX7) (T := TX7) (N := 92) hx hb hts hinX7 hown hK hP 4 rfl rfl 13 (by decide) w_2 rfl rfl dX7_most_60 ?_
                refine k_iald (v := 0) hx hb hK hP 5 0 0 rfl rfl rfl (Nat.le_of_ble_eq_true rfl) (Nat.le_of_ble_eq_true rfl) rfl dX7_most_63 ?_
                refine lv_ishl hx hb dX7_most_64 ?_
                refine k_int (v := 1) (by decide +kernel) ?_
                refine lv_icmp_ge (tgt := 160) hx hb dX7_most_65 (by decide) (fun _ => ?_) (fun q9 => absurd q9 (by decide +kernel))
                refine lv_iinc (v := 5) (lv' := [(5, .int 5), (6, .int 1), (7, .int (-1)), (4, .int 0), (8, .int 0), (3, .int (-1)), (0, .ref p0), (1, .int p1), (2, .int p2)]) hx hb dX7_most_160 hl (k := 2) rfl (by decide +kernel) (by decide) rfl (fun ls hl => ?_)
                refine lv_goto (tgt := 43) hx hb dX7_most_163 (by decide) ?_
                refine lv_iload hx hb dX7_most_43 (lv_at hl 0 rfl) ?_
                refine lv_iload_n hx hb dX7_most_45 rfl (lv_at hl 7 rfl) ?_
                refine lv_icmp_gt (tgt := 166) hx hb dX7_most_46 (by decide) (fun c_46 => ?_) (fun c_46 => ?_)
                · have c_46 : p1.toInt < 5 := k_ltT rfl (by decide +kernel) c_46
                  refine lv_iload_n hx hb dX7_most_166 rfl (lv_at hl 8 rfl) ?_
                  refine lv_if_ne (tgt := 175) hx hb dX7_most_167 (by decide) (fun c_47 => ?_) (fun c_47 => ?_)
                  · have c_47 : ¬ p2.toInt = 0 := k_eqF rfl (by decide +kernel) c_47
                    refine lv_iload_n hx hb dX7_most_175 rfl (lv_at hl 8 rfl) ?_
                    refine lv_iconst (v := 1) hx hb dX7_most_176 (by decide +kernel) ?_
                    refine lv_icmp_ne (tgt := 187) hx hb dX7_most_177 (by decide) (fun c_48 => ?_) (fun c_48 => ?_)
                    · have c_48 : ¬ p2.toInt = 1 := k_eqF rfl (by decide +kernel) c_48
                      refine lv_iload_n hx hb dX7_most_187 rfl (lv_at hl 8 rfl) ?_
                      refine lv_iconst (v := 2) hx hb dX7_most_188 (by decide +kernel) ?_
                      refine lv_icmp_ne (tgt := 199) hx hb dX7_most_189 (by decide) (fun c_49 => ?_) (fun c_49 => ?_)
                      · have c_49 : ¬ p2.toInt = 2 := k_eqF rfl (by decide +kernel) c_49
                        refine lv_aload_n hx hb dX7_most_199 rfl (lv_at hl 6 rfl) ?_
                        refine k_get (D := (dC, dI)) (ci := 7) (v := .int 0) (C := RX7) (T := TX7) (N := 92) hx hb hts hinX7 hown hK hP 4 rfl rfl 76 (by decide) w_4 rfl rfl dX7_most_200 ?_
                        exact k_ri B hP hD hS dX7_most_203 (20, (fun _ => 0)) [4, 0, 1, 2, 5, 3] rfl rfl rfl (Nat.le_of_ble_eq_true rfl) (Nat.le_of_ble_eq_true rfl) ⟨c_6, c_7, c_13, c_14, c_19, c_22, c_28, c_34, c_40, c_46, c_47, c_48, c_49, rfl⟩
                      · have c_49 : p2.toInt = 2 := k_eqT rfl (by decide +kernel) c_49
                        refine lv_aload_n hx hb dX7_most_192 rfl (lv_at hl 6 rfl) ?_
                        refine k_ci (wc := [(p0, .inr (7, oM p3 (upd (upd i7 75 0) 76 0) j7)), ((p3 72), .inl (cI, 9216, .inl (upd (fun _ => (-1)) 0 0)))]) (wr := [((p3 49), .inl (cI, 22, .inl (fun _ => 0))), ((p3 50), .inl (cI, 22, .inl (fun _ => 0))), ((p3 18), .inl (cI, 2, .inl (fun _ => 0))), ((p3 14), .inl (cI, 2, .inl (fun _ => 0)))]) (fun hPc hDc => va_runV (As := []) (rest := []) ⟨hx, hb, hml, hown, hts⟩ (c_X7_foundSea_v0 l dC dI cI cJ cZ cM p0 p3 H.size) (cwV 0 hts gX7_most_X7_foundSea rfl rfl rfl (by decide +kernel) ⟨(Nat.le_of_ble_eq_true rfl), (Nat.le_of_ble_eq_true rfl)⟩) (k_pV hPc hDc hK hN hP (q0 := 4) (ci := 7) rfl rfl) rfl rfl hl.1 rfl (lv_room (Nat.le_of_ble_eq_true rfl)) dX7_most_193 ⟨(Nat.le_of_ble_eq_true rfl), (Nat.le_of_ble_eq_true rfl)⟩) hP hD hS hA [4, 2] [0, 1, 3, 5] rfl rfl rfl rfl (by decide) (fun _ => rfl) 0 0 rfl rfl (fun r_50 u_51 H locs hw hP hD hS => ?_)
                        obtain rfl : r_50 = 0 := hw
                        have hP : va_P (dC, dI) vwCl [((p3 49), .inl (cI, 22, .inl (fun _ => 0))), ((p3 50), .inl (cI, 22, .inl (fun _ => 0))), ((p3 18), .inl (cI, 2, .inl (fun _ => 0))), ((p3 14), .inl (cI, 2, .inl (fun _ => 0))), (p0, .inr (7, oM p3 (upd (upd i7 75 0) 76 0) j7)), ((p3 72), .inl (cI, 9216, .inl (upd (fun _ => (-1)) 0 0)))] H := hP
                        have hD : va_D A [((p3 49), .inl (cI, 22, .inl (fun _ => 0))), ((p3 50), .inl (cI, 22, .inl (fun _ => 0))), ((p3 18), .inl (cI, 2, .inl (fun _ => 0))), ((p3 14), .inl (cI, 2, .inl (fun _ => 0))), (p0, .inr (7, oM p3 (upd (upd i7 75 0) 76 0) j7)), ((p3 72), .inl (cI, 9216, .inl (upd (fun _ => (-1)) 0 0)))] := hD
                        refine lv_goto (tgt := 203) hx hb dX7_most_196 (by decide) ?_
                        exact k_ri B hP hD hS dX7_most_203 (21, (fun _ => 0)) [4, 0, 1, 5, 3, 2] rfl rfl rfl (Nat.le_of_ble_eq_true rfl) (Nat.le_of_ble_eq_true rfl) ⟨c_6, c_7, c_13, c_14, c_19, c_22, c_28, c_34, c_40, c_46, c_47, c_48, c_49, rfl⟩
                    · have c_48 : p2.toInt = 1 := k_eqT rfl (by decide +kernel) c_48
                      refine lv_aload_n hx hb dX7_most_180 rfl (lv_at hl 6 rfl) ?_
                      refine k_get (D := (dC, dI)) (ci := 7) (v := .int 0) (C := RX7) (T := TX7) (N := 92) hx hb hts hinX7 hown hK hP 4 rfl rfl 75 (by decide) w_0 rfl rfl dX7_most_181 ?_
                      refine lv_goto (tgt := 203) hx hb dX7_most_184 (by decide) ?_
                      exact k_ri B hP hD hS dX7_most_203 (22, (fun _ => 0)) [4, 0, 1, 2, 5, 3] rfl rfl rfl (Nat.le_of_ble_eq_true rfl) (Nat.le_of_ble_eq_true rfl) ⟨c_6, c_7, c_13, c_14, c_19, c_22, c_28, c_34, c_40, c_46, c_47, c_48, rfl⟩
                  · have c_47 : p2.toInt = 0 := k_eqT rfl (by decide +kernel) c_47
                    refine lv_iload hx hb dX7_most_170 (lv_at hl 3 rfl) ?_
                    refine lv_goto (tgt := 203) hx hb dX7_most_172 (by decide) ?_
                    exact k_ri B hP hD hS dX7_most_203 (23, (fun _ => 0)) [4, 0, 1, 2, 5, 3] rfl rfl rfl (Nat.le_of_ble_eq_true rfl) (Nat.le_of_ble_eq_true rfl) ⟨c_6, c_7, c_13, c_14, c_19, c_22, c_28, c_34, c_40, c_46, c_47, rfl⟩
                · have c_46 : 5 ≤ p1.toInt := k_ltF rfl (by decide +kernel) c_46
                  refine lv_iconst (v := 0) hx hb dX7_most_49 (by decide +kernel) ?_
                  refine lv_istore (lv' := [(6, .int 0), (5, .int 5), (7, .int (-1)), (4, .int 0), (8, .int 0), (3, .int (-1)), (0, .ref p0), (1, .int p1), (2, .int p2)]) hx hb dX7_most_50 hl (by decide) rfl (fun ls hl => ?_)
                  refine lv_iload hx hb dX7_most_52 (lv_at hl 0 rfl) ?_
                  refine lv_iconst (v := 1) hx hb dX7_most_54 (by decide +kernel) ?_
                  refine lv_aload_n hx hb dX7_most_55 rfl (lv_at hl 6 rfl) ?_
                  refine k_get (D := (dC, dI)) (ci := 7) (v := .ref (p3 14)) (C := RX7) (T := TX7) (N := 92) hx hb hts hinX7 hown hK hP 4 rfl rfl 14 (by decide) w_1 rfl rfl dX7_most_56 ?_
                  refine lv_aload_n hx hb dX7_most_59 rfl (lv_at hl 6 rfl) ?_
                  refine k_get (D := (dC, dI)) (ci := 7) (v := .int 0) (C := RX7) (T := TX7) (N := 92) hx hb hts hinX7 hown hK hP 4 rfl rfl 13 (by decide) w_2 rfl rfl dX7_most_60 ?_
                  refine k_iald (v := 0) hx hb hK hP 5 0 0 rfl rfl rfl (Nat.le_of_ble_eq_true rfl) (Nat.le_of_ble_eq_true rfl) rfl dX7_most_63 ?_
                  refine lv_ishl hx hb dX7_most_64 ?_
                  refine k_int (v := 1) (by decide +kernel) ?_
                  refine lv_icmp_ge (tgt := 160) hx hb dX7_most_65 (by decide) (fun q9 => absurd q9 (by decide +kernel)) (fun _ => ?_)
                  refine lv_aload_n hx hb dX7_most_68 rfl (lv_at hl 6 rfl) ?_
                  refine k_get (D := (dC, dI)) (ci := 7) (v := .ref (p3 72)) (C := RX7) (T := TX7) (N := 92) hx hb hts hinX7 hown hK hP 4 rfl rfl 72 (by decide) w_3 rfl rfl dX7_most_69 ?_
                  refine lv_sipush (v := 1024) hx hb dX7_most_72 (by decide +kernel) ?_
                  refine lv_iload hx hb dX7_most_75 (lv_at hl 1 rfl) ?_
                  refine lv_imul hx hb dX7_most_77 ?_
                  refine k_int (v := 5120) (by decide +kernel) ?_
                  refine lv_iload hx hb dX7_most_78 (lv_at hl 0 rfl) ?_
                  refine lv_iadd hx hb dX7_most_80 ?_
                  refine k_int (v := 5120) (by decide +kernel) ?_
                  refine k_iald (v := (-1)) hx hb hK hP 2 0 5120 rfl rfl rfl (Nat.le_of_ble_eq_true rfl) (Nat.le_of_ble_eq_true rfl) rfl dX7_most_81 ?_
                  refine lv_istore (lv' := [(7, .int (-1)), (6, .int 0), (5, .int 5), (4, .int 0), (8, .int 0), (3, .int (-1)), (0, .ref p0), (1, .int p1), (2, .int p2)]) hx hb dX7_most_82 hl (by decide) rfl (fun ls hl => ?_)
                  refine lv_iload hx hb dX7_most_84 (lv_at hl 0 rfl) ?_
                  refine lv_iconst (v := (-1)) hx hb dX7_most_86 (by decide +kernel) ?_
                  refine lv_icmp_ne (tgt := 93) hx hb dX7_most_87 (by decide) (fun q9 => absurd q9 (by decide +kernel)) (fun _ => ?_)
                  refine lv_goto (tgt := 154) hx hb dX7_most_90 (by decide) ?_
                  refine lv_iinc (v := 1) (lv' := [(6, .int 1), (7, .int (-1)), (5, .int 5), (4, .int 0), (8, .int 0), (3, .int (-1)), (0, .ref p0), (1, .int p1), (2, .int p2)]) hx hb dX7_most_154 hl (k := 1) rfl (by decide +kernel) (by decide) rfl (fun ls hl => ?_)
                  refine lv_goto (tgt := 52) hx hb dX7_most_157 (by decide) ?_
                  refine lv_iload hx hb dX7_most_52 (lv_at hl 0 rfl) ?_
                  refine lv_iconst (v := 1) hx hb dX7_most_54 (by decide +kernel) ?_
                  refine lv_aload_n hx hb dX7_most_55 rfl (lv_at hl 6 rfl) ?_
                  refine k_get (D := (dC, dI)) (ci := 7) (v := .ref (p3 14)) (C := RX7) (T := TX7) (N := 92) hx hb hts hinX7 hown hK hP 4 rfl rfl 14 (by decide) w_1 rfl rfl dX7_most_56 ?_
                  refine lv_aload_n hx hb dX7_most_59 rfl (lv_at hl 6 rfl) ?_
                  refine k_get (D := (dC, dI)) (ci := 7) (v := .int 0) (C := RX7) (T := TX7) (N := 92) hx hb hts hinX7 hown hK hP 4 rfl rfl 13 (by decide) w_2 rfl rfl dX7_most_60 ?_
                  refine k_iald (v := 0) hx hb hK hP 5 0 0 rfl rfl rfl (Nat.le_of_ble_eq_true rfl) (Nat.le_of_ble_eq_true rfl) rfl dX7_most_63 ?_
                  refine lv_ishl hx hb dX7_most_64 ?_
                  refine k_int (v := 1) (by decide +kernel) ?_
                  refine lv_icmp_ge (tgt := 160) hx hb dX7_most_65 (by decide) (fun _ => ?_) (fun q9 => absurd q9 (by decide +kernel))
                  refine lv_iinc (v := 6) (lv' := [(5, .int 6), (6, .int 1), (7, .int (-1)), (4, .int 0), (8, .int 0), (3, .int (-1)), (0, .ref p0), (1, .int p1), (2, .int p2)]) hx hb dX7_most_160 hl (k := 2) rfl (by decide +kernel) (by decide) rfl (fun ls hl => ?_)
                  refine lv_goto (tgt := 43) hx hb dX7_most_163 (by decide) ?_
                  refine lv_iload hx hb dX7_most_43 (lv_at hl 0 rfl) ?_
                  refine lv_iload_n hx hb dX7_most_45 rfl (lv_at hl 7 rfl) ?_
                  refine lv_icmp_gt (tgt := 166) hx hb dX7_most_46 (by decide) (fun c_52 => ?_) (fun c_52 => ?_)
                  · have c_52 : p1.toInt < 6 := k_ltT rfl (by decide +kernel) c_52
                    refine lv_iload_n hx hb dX7_most_166 rfl (lv_at hl 8 rfl) ?_
                    refine lv_if_ne (tgt := 175) hx hb dX7_most_167 (by decide) (fun c_53 => ?_) (fun c_53 => ?_)
                    · have c_53 : ¬ p2.toInt = 0 := k_eqF rfl (by decide +kernel) c_53
                      refine lv_iload_n hx hb dX7_most_175 rfl (lv_at hl 8 rfl) ?_
                      refine lv_iconst (v := 1) hx hb dX7_most_176 (by decide +kernel) ?_
                      refine lv_icmp_ne (tgt := 187) hx hb dX7_most_177 (by decide) (fun c_54 => ?_) (fun c_54 => ?_)
                      · have c_54 : ¬ p2.toInt = 1 := k_eqF rfl (by decide +kernel) c_54
                        refine lv_iload_n hx hb dX7_most_187 rfl (lv_at hl 8 rfl) ?_
                        refine lv_iconst (v := 2) hx hb dX7_most_188 (by decide +kernel) ?_
                        refine lv_icmp_ne (tgt := 199) hx hb dX7_most_189 (by decide) (fun c_55 => ?_) (fun c_55 => ?_)
                        · have c_55 : ¬ p2.toInt = 2 := k_eqF rfl (by decide +kernel) c_55
                          refine lv_aload_n hx hb dX7_most_199 rfl (lv_at hl 6 rfl) ?_
                          refine k_get (D := (dC, dI)) (ci := 7) (v := .int 0) (C := RX7) (T := TX7) (N := 92) hx hb hts hinX7 hown hK hP 4 rfl rfl 76 (by decide) w_4 rfl rfl dX7_most_200 ?_
                          exact k_ri B hP hD hS dX7_most_203 (24, (fun _ => 0)) [4, 0, 1, 2, 5, 3] rfl rfl rfl (Nat.le_of_ble_eq_true rfl) (Nat.le_of_ble_eq_true rfl) ⟨c_6, c_7, c_13, c_14, c_19, c_22, c_28, c_34, c_40, c_46, c_52, c_53, c_54, c_55, rfl⟩
                        · have c_55 : p2.toInt = 2 := k_eqT rfl (by decide +kernel) c_55
                          refine lv_aload_n hx hb dX7_most_192 rfl (lv_at hl 6 rfl) ?_
                          refine k_ci (wc := [(p0, .inr (7, oM p3 (upd (upd i7 75 0) 76 0) j7)), ((p3 72), .inl (cI, 9216, .inl (upd (fun _ => (-1)) 0 0)))]) (wr := [((p3 49), .inl (cI, 22, .inl (fun _ => 0))), ((p3 50), .inl (cI, 22, .inl (fun _ => 0))), ((p3 18), .inl (cI, 2, .inl (fun _ => 0))), ((p3 14), .inl (cI, 2, .inl (fun _ => 0)))]) (fun hPc hDc => va_runV (As := []) (rest := []) ⟨hx, hb, hml, hown, hts⟩ (c_X7_foundSea_v0 l dC dI cI cJ cZ cM p0 p3 H.size) (cwV 0 hts gX7_most_X7_foundSea rfl rfl rfl (by decide +kernel) ⟨(Nat.le_of_ble_eq_true rfl), (Nat.le_of_ble_eq_true rfl)⟩) (k_pV hPc hDc hK hN hP (q0 := 4) (ci := 7) rfl rfl) rfl rfl hl.1 rfl (lv_room (Nat.le_of_ble_eq_true rfl)) dX7_most_193 ⟨(Nat.le_of_ble_eq_true rfl), (Nat.le_of_ble_eq_true rfl)⟩) hP hD hS hA [4, 2] [0, 1, 3, 5] rfl rfl rfl rfl (by decide) (fun _ => rfl) 0 0 rfl rfl (fun r_56 u_57 H locs hw hP hD hS => ?_)
                          obtain rfl : r_56 = 0 := hw
                          have hP : va_P (dC, dI) vwCl [((p3 49), .inl (cI, 22, .inl (fun _ => 0))), ((p3 50), .inl (cI, 22, .inl (fun _ => 0))), ((p3 18), .inl (cI, 2, .inl (fun _ => 0))), ((p3 14), .inl (cI, 2, .inl (fun _ => 0))), (p0, .inr (7, oM p3 (upd (upd i7 75 0) 76 0) j7)), ((p3 72), .inl (cI, 9216, .inl (upd (fun _ => (-1)) 0 0)))] H := hP
                          have hD : va_D A [((p3 49), .inl (cI, 22, .inl (fun _ => 0))), ((p3 50), .inl (cI, 22, .inl (fun _ => 0))), ((p3 18), .inl (cI, 2, .inl (fun _ => 0))), ((p3 14), .inl (cI, 2, .inl (fun _ => 0))), (p0, .inr (7, oM p3 (upd (upd i7 75 0) 76 0) j7)), ((p3 72), .inl (cI, 9216, .inl (upd (fun _ => (-1)) 0 0)))] := hD
                          refine lv_goto (tgt := 203) hx hb dX7_most_196 (by decide) ?_
                          exact k_ri B hP hD hS dX7_most_203 (25, (fun _ => 0)) [4, 0, 1, 5, 3, 2] rfl rfl rfl (Nat.le_of_ble_eq_true rfl) (Nat.le_of_ble_eq_true rfl) ⟨c_6, c_7, c_13, c_14, c_19, c_22, c_28, c_34, c_40, c_46, c_52, c_53, c_54, c_55, rfl⟩
                      · have c_54 : p2.toInt = 1 := k_eqT rfl (by decide +kernel) c_54
                        refine lv_aload_n hx hb dX7_most_180 rfl (lv_at hl 6 rfl) ?_
                        refine k_get (D := (dC, dI)) (ci := 7) (v := .int 0) (C := RX7) (T := TX7) (N := 92) hx hb hts hinX7 hown hK hP 4 rfl rfl 75 (by decide) w_0 rfl rfl dX7_most_181 ?_
                        refine lv_goto (tgt := 203) hx hb dX7_most_184 (by decide) ?_
                        exact k_ri B hP hD hS dX7_most_203 (26, (fun _ => 0)) [4, 0, 1, 2, 5, 3] rfl rfl rfl (Nat.le_of_ble_eq_true rfl) (Nat.le_of_ble_eq_true rfl) ⟨c_6, c_7, c_13, c_14, c_19, c_22, c_28, c_34, c_40, c_46, c_52, c_53, c_54, rfl⟩
                    · have c_53 : p2.toInt = 0 := k_eqT rfl (by decide +kernel) c_53
                      refine lv_iload hx hb dX7_most_170 (lv_at hl 3 rfl) ?_
                      refine lv_goto (tgt := 203) hx hb dX7_most_172 (by decide) ?_
                      exact k_ri B hP hD hS dX7_most_203 (27, (fun _ => 0)) [4, 0, 1, 2, 5, 3] rfl rfl rfl (Nat.le_of_ble_eq_true rfl) (Nat.le_of_ble_eq_true rfl) ⟨c_6, c_7, c_13, c_14, c_19, c_22, c_28, c_34, c_40, c_46, c_52, c_53, rfl⟩
                  · have c_52 : 6 ≤ p1.toInt := k_ltF rfl (by decide +kernel) c_52
                    refine lv_iconst (v := 0) hx hb dX7_most_49 (by decide +kernel) ?_
                    refine lv_istore (lv' := [(6, .int 0), (5, .int 6), (7, .int (-1)), (4, .int 0), (8, .int 0), (3, .int (-1)), (0, .ref p0), (1, .int p1), (2, .int p2)]) hx hb dX7_most_50 hl (by decide) rfl (fun ls hl => ?_)
                    refine lv_iload hx hb dX7_most_52 (lv_at hl 0 rfl) ?_
                    refine lv_iconst (v := 1) hx hb dX7_most_54 (by decide +kernel) ?_
                    refine lv_aload_n hx hb dX7_most_55 rfl (lv_at hl 6 rfl) ?_
                    refine k_get (D := (dC, dI)) (ci := 7) (v := .ref (p3 14)) (C := RX7) (T := TX7) (N := 92) hx hb hts hinX7 hown hK hP 4 rfl rfl 14 (by decide) w_1 rfl rfl dX7_most_56 ?_
                    refine lv_aload_n hx hb dX7_most_59 rfl (lv_at hl 6 rfl) ?_
                    refine k_get (D := (dC, dI)) (ci := 7) (v := .int 0) (C := RX7) (T := TX7) (N := 92) hx hb hts hinX7 hown hK hP 4 rfl rfl 13 (by decide) w_2 rfl rfl dX7_most_60 ?_
                    refine k_iald (v := 0) hx hb hK hP 5 0 0 rfl rfl rfl (Nat.le_of_ble_eq_true rfl) (Nat.le_of_ble_eq_true rfl) rfl dX7_most_63 ?_
                    refine lv_ishl hx hb dX7_most_64 ?_
                    refine k_int (v := 1) (by decide +kernel) ?_
                    refine lv_icmp_ge (tgt := 160) hx hb dX7_most_65 (by decide) (fun q9 => absurd q9 (by decide +kernel)) (fun _ => ?_)
                    refine lv_aload_n hx hb dX7_most_68 rfl (lv_at hl 6 rfl) ?_
                    refine k_get (D := (dC, dI)) (ci := 7) (v := .ref (p3 72)) (C := RX7) (T := TX7) (N := 92) hx hb hts hinX7 hown hK hP 4 rfl rfl 72 (by decide) w_3 rfl rfl dX7_most_69 ?_
                    refine lv_sipush (v := 1024) hx hb dX7_most_72 (by decide +kernel) ?_
                    refine lv_iload hx hb dX7_most_75 (lv_at hl 1 rfl) ?_
                    refine lv_imul hx hb dX7_most_77 ?_
                    refine k_int (v := 6144) (by decide +kernel) ?_
                    refine lv_iload hx hb dX7_most_78 (lv_at hl 0 rfl) ?_
                    refine lv_iadd hx hb dX7_most_80 ?_
                    refine k_int (v := 6144) (by decide +kernel) ?_
                    refine k_iald (v := (-1)) hx hb hK hP 2 0 6144 rfl rfl rfl (Nat.le_of_ble_eq_true rfl) (Nat.le_of_ble_eq_true rfl) rfl dX7_most_81 ?_
                    refine lv_istore (lv' := [(7, .int (-1)), (6, .int 0), (5, .int 6), (4, .int 0), (8, .int 0), (3, .int (-1)), (0, .ref p0), (1, .int p1), (2, .int p2)]) hx hb dX7_most_82 hl (by decide) rfl (fun ls hl => ?_)
                    refine lv_iload hx hb dX7_most_84 (lv_at hl 0 rfl) ?_
                    refine lv_iconst (v := (-1)) hx hb dX7_most_86 (by decide +kernel) ?_
                    refine lv_icmp_ne (tgt := 93) hx hb dX7_most_87 (by decide) (fun q9 => absurd q9 (by decide +kernel)) (fun _ => ?_)
                    refine lv_goto (tgt := 154) hx hb dX7_most_90 (by decide) ?_
                    refine lv_iinc (v := 1) (lv' := [(6, .int 1), (7, .int (-1)), (5, .int 6), (4, .int 0), (8, .int 0), (3, .int (-1)), (0, .ref p0), (1, .int p1), (2, .int p2)]) hx hb dX7_most_154 hl (k := 1) rfl (by decide +kernel) (by decide) rfl (fun ls hl => ?_)
                    refine lv_goto (tgt := 52) hx hb dX7_most_157 (by decide) ?_
                    refine lv_iload hx hb dX7_most_52 (lv_at hl 0 rfl) ?_
                    refine lv_iconst (v := 1) hx hb dX7_most_54 (by decide +kernel) ?_
                    refine lv_aload_n hx hb dX7_most_55 rfl (lv_at hl 6 rfl) ?_
                    refine k_get (D := (dC, dI)) (ci := 7) (v := .ref (p3 14)) (C := RX7) (T := TX7) (N := 92) hx hb hts hinX7 hown hK hP 4 rfl rfl 14 (by decide) w_1 rfl rfl dX7_most_56 ?_
                    refine lv_aload_n hx hb dX7_most_59 rfl (lv_at hl 6 rfl) ?_
                    refine k_get (D := (dC, dI)) (ci := 7) (v := .int 0) (C := RX7) (T := TX7) (N := 92) hx hb hts hinX7 hown hK hP 4 rfl rfl 13 (by decide) w_2 rfl rfl dX7_most_60 ?_
                    refine k_iald (v := 0) hx hb hK hP 5 0 0 rfl rfl rfl (Nat.le_of_ble_eq_true rfl) (Nat.le_of_ble_eq_true rfl) rfl dX7_most_63 ?_
                    refine lv_ishl hx hb dX7_most_64 ?_
                    refine k_int (v := 1) (by decide +kernel) ?_
                    refine lv_icmp_ge (tgt := 160) hx hb dX7_most_65 (by decide) (fun _ => ?_) (fun q9 => absurd q9 (by decide +kernel))
                    refine lv_iinc (v := 7) (lv' := [(5, .int 7), (6, .int 1), (7, .int (-1)), (4, .int 0), (8, .int 0), (3, .int (-1)), (0, .ref p0), (1, .int p1), (2, .int p2)]) hx hb dX7_most_160 hl (k := 2) rfl (by decide +kernel) (by decide) rfl (fun ls hl => ?_)
                    refine lv_goto (tgt := 43) hx hb dX7_most_163 (by decide) ?_
                    refine lv_iload hx hb dX7_most_43 (lv_at hl 0 rfl) ?_
                    refine lv_iload_n hx hb dX7_most_45 rfl (lv_at hl 7 rfl) ?_
                    refine lv_icmp_gt (tgt := 166) hx hb dX7_most_46 (by decide) (fun c_58 => ?_) (fun c_58 => ?_)
                    · have c_58 : p1.toInt < 7 := k_ltT rfl (by decide +kernel) c_58
                      refine lv_iload_n hx hb dX7_most_166 rfl (lv_at hl 8 rfl) ?_
                      refine lv_if_ne (tgt := 175) hx hb dX7_most_167 (by decide) (fun c_59 => ?_) (fun c_59 => ?_)
                      · have c_59 : ¬ p2.toInt = 0 := k_eqF rfl (by decide +kernel) c_59
                        refine lv_iload_n hx hb dX7_most_175 rfl (lv_at hl 8 rfl) ?_
                        refine lv_iconst (v := 1) hx hb dX7_most_176 (by decide +kernel) ?_
                        refine lv_icmp_ne (tgt := 187) hx hb dX7_most_177 (by decide) (fun c_60 => ?_) (fun c_60 => ?_)
                        · have c_60 : ¬ p2.toInt = 1 := k_eqF rfl (by decide +kernel) c_60
                          refine lv_iload_n hx hb dX7_most_187 rfl (lv_at hl 8 rfl) ?_
                          refine lv_iconst (v := 2) hx hb dX7_most_188 (by decide +kernel) ?_
                          refine lv_icmp_ne (tgt := 199) hx hb dX7_most_189 (by decide) (fun c_61 => ?_) (fun c_61 => ?_)
                          · have c_61 : ¬ p2.toInt = 2 := k_eqF rfl (by decide +kernel) c_61
                            refine lv_aload_n hx hb dX7_most_199 rfl (lv_at hl 6 rfl) ?_
                            refine k_get (D := (dC, dI)) (ci := 7) (v := .int 0) (C := RX7) (T := TX7) (N := 92) hx hb hts hinX7 hown hK hP 4 rfl rfl 76 (by decide) w_4 rfl rfl dX7_most_200 ?_
                            exact k_ri B hP hD hS dX7_most_203 (28, (fun _ => 0)) [4, 0, 1, 2, 5, 3] rfl rfl rfl (Nat.le_of_ble_eq_true rfl) (Nat.le_of_ble_eq_true rfl) ⟨c_6, c_7, c_13, c_14, c_19, c_22, c_28, c_34, c_40, c_46, c_52, c_58, c_59, c_60, c_61, rfl⟩
                          · have c_61 : p2.toInt = 2 := k_eqT rfl (by decide +kernel) c_61
                            refine lv_aload_n hx hb dX7_most_192 rfl (lv_at hl 6 rfl) ?_
                            refine k_ci (wc := [(p0, .inr (7, oM p3 (upd (upd i7 75 0) 76 0) j7)), ((p3 72), .inl (cI, 9216, .inl (upd (fun _ => (-1)) 0 0)))]) (wr := [((p3 49), .inl (cI, 22, .inl (fun _ => 0))), ((p3 50), .inl (cI, 22, .inl (fun _ => 0))), ((p3 18), .inl (cI, 2, .inl (fun _ => 0))), ((p3 14), .inl (cI, 2, .inl (fun _ => 0)))]) (fun hPc hDc => va_runV (As := []) (rest := []) ⟨hx, hb, hml, hown, hts⟩ (c_X7_foundSea_v0 l dC dI cI cJ cZ cM p0 p3 H.size) (cwV 0 hts gX7_most_X7_foundSea rfl rfl rfl (by decide +kernel) ⟨(Nat.le_of_ble_eq_true rfl), (Nat.le_of_ble_eq_true rfl)⟩) (k_pV hPc hDc hK hN hP (q0 := 4) (ci := 7) rfl rfl) rfl rfl hl.1 rfl (lv_room (Nat.le_of_ble_eq_true rfl)) dX7_most_193 ⟨(Nat.le_of_ble_eq_true rfl), (Nat.le_of_ble_eq_true rfl)⟩) hP hD hS hA [4, 2] [0, 1, 3, 5] rfl rfl rfl rfl (by decide) (fun _ => rfl) 0 0 rfl rfl (fun r_62 u_63 H locs hw hP hD hS => ?_)
                            obtain rfl : r_62 = 0 := hw
                            have hP : va_P (dC, dI) vwCl [((p3 49), .inl (cI, 22, .inl (fun _ => 0))), ((p3 50), .inl (cI, 22, .inl (fun _ => 0))), ((p3 18), .inl (cI, 2, .inl (fun _ => 0))), ((p3 14), .inl (cI, 2, .inl (fun _ => 0))), (p0, .inr (7, oM p3 (upd (upd i7 75 0) 76 0) j7)), ((p3 72), .inl (cI, 9216, .inl (upd (fun _ => (-1)) 0 0)))] H := hP
                            have hD : va_D A [((p3 49), .inl (cI, 22, .inl (fun _ => 0))), ((p3 50), .inl (cI, 22, .inl (fun _ => 0))), ((p3 18), .inl (cI, 2, .inl (fun _ => 0))), ((p3 14), .inl (cI, 2, .inl (fun _ => 0))), (p0, .inr (7, oM p3 (upd (upd i7 75 0) 76 0) j7)), ((p3 72), .inl (cI, 9216, .inl (upd (fun _ => (-1)) 0 0)))] := hD
                            refine lv_goto (tgt := 203) hx hb dX7_most_196 (by decide) ?_
                            exact k_ri B hP hD hS dX7_most_203 (29, (fun _ => 0)) [4, 0, 1, 5, 3, 2] rfl rfl rfl (Nat.le_of_ble_eq_true rfl) (Nat.le_of_ble_eq_true rfl) ⟨c_6, c_7, c_13, c_14, c_19, c_22, c_28, c_34, c_40, c_46, c_52, c_58, c_59, c_60, c_61, rfl⟩
                        · have c_60 : p2.toInt = 1 := k_eqT rfl (by decide +kernel) c_60
                          refine lv_aload_n hx hb dX7_most_180 rfl (lv_at hl 6 rfl) ?_
                          refine k_get (D := (dC, dI)) (ci := 7) (v := .int 0) (C := RX7) (T := TX7) (N := 92) hx hb hts hinX7 hown hK hP 4 rfl rfl 75 (by decide) w_0 rfl rfl dX7_most_181 ?_
                          refine lv_goto (tgt := 203) hx hb dX7_most_184 (by decide) ?_
                          exact k_ri B hP hD hS dX7_most_203 (30, (fun _ => 0)) [4, 0, 1, 2, 5, 3] rfl rfl rfl (Nat.le_of_ble_eq_true rfl) (Nat.le_of_ble_eq_true rfl) ⟨c_6, c_7, c_13, c_14, c_19, c_22, c_28, c_34, c_40, c_46, c_52, c_58, c_59, c_60, rfl⟩
                      · have c_59 : p2.toInt = 0 := k_eqT rfl (by decide +kernel) c_59
                        refine lv_iload hx hb dX7_most_170 (lv_at hl 3 rfl) ?_
                        refine lv_goto (tgt := 203) hx hb dX7_most_172 (by decide) ?_
                        exact k_ri B hP hD hS dX7_most_203 (31, (fun _ => 0)) [4, 0, 1, 2, 5, 3] rfl rfl rfl (Nat.le_of_ble_eq_true rfl) (Nat.le_of_ble_eq_true rfl) ⟨c_6, c_7, c_13, c_14, c_19, c_22, c_28, c_34, c_40, c_46, c_52, c_58, c_59, rfl⟩
                    · have c_58 : 7 ≤ p1.toInt := k_ltF rfl (by decide +kernel) c_58
                      refine lv_iconst (v := 0) hx hb dX7_most_49 (by decide +kernel) ?_
                      refine lv_istore (lv' := [(6, .int 0), (5, .int 7), (7, .int (-1)), (4, .int 0), (8, .int 0), (3, .int (-1)), (0, .ref p0), (1, .int p1), (2, .int p2)]) hx hb dX7_most_50 hl (by decide) rfl (fun ls hl => ?_)
                      refine lv_iload hx hb dX7_most_52 (lv_at hl 0 rfl) ?_
                      refine lv_iconst (v := 1) hx hb dX7_most_54 (by decide +kernel) ?_
                      refine lv_aload_n hx hb dX7_most_55 rfl (lv_at hl 6 rfl) ?_
                      refine k_get (D := (dC, dI)) (ci := 7) (v := .ref (p3 14)) (C := RX7) (T := TX7) (N := 92) hx hb hts hinX7 hown hK hP 4 rfl rfl 14 (by decide) w_1 rfl rfl dX7_most_56 ?_
                      refine lv_aload_n hx hb dX7_most_59 rfl (lv_at hl 6 rfl) ?_
                      refine k_get (D := (dC, dI)) (ci := 7) (v := .int 0) (C := RX7) (T := TX7) (N := 92) hx hb hts hinX7 hown hK hP 4 rfl rfl 13 (by decide) w_2 rfl rfl dX7_most_60 ?_
                      refine k_iald (v := 0) hx hb hK hP 5 0 0 rfl rfl rfl (Nat.le_of_ble_eq_true rfl) (Nat.le_of_ble_eq_true rfl) rfl dX7_most_63 ?_
                      refine lv_ishl hx hb dX7_most_64 ?_
                      refine k_int (v := 1) (by decide +kernel) ?_
                      refine lv_icmp_ge (tgt := 160) hx hb dX7_most_65 (by decide) (fun q9 => absurd q9 (by decide +kernel)) (fun _ => ?_)
                      refine lv_aload_n hx hb dX7_most_68 rfl (lv_at hl 6 rfl) ?_
                      refine k_get (D := (dC, dI)) (ci := 7) (v := .ref (p3 72)) (C := RX7) (T := TX7) (N := 92) hx hb hts hinX7 hown hK hP 4 rfl rfl 72 (by decide) w_3 rfl rfl dX7_most_69 ?_
                      refine lv_sipush (v := 1024) hx hb dX7_most_72 (by decide +kernel) ?_
                      refine lv_iload hx hb dX7_most_75 (lv_at hl 1 rfl) ?_
                      refine lv_imul hx hb dX7_most_77 ?_
                      refine k_int (v := 7168) (by decide +kernel) ?_
                      refine lv_iload hx hb dX7_most_78 (lv_at hl 0 rfl) ?_
                      refine lv_iadd hx hb dX7_most_80 ?_
                      refine k_int (v := 7168) (by decide +kernel) ?_
                      refine k_iald (v := (-1)) hx hb hK hP 2 0 7168 rfl rfl rfl (Nat.le_of_ble_eq_true rfl) (Nat.le_of_ble_eq_true rfl) rfl dX7_most_81 ?_
                      refine lv_istore (lv' := [(7, .int (-1)), (6, .int 0), (5, .int 7), (4, .int 0), (8, .int 0), (3, .int (-1)), (0, .ref p0), (1, .int p1), (2, .int p2)]) hx hb dX7_most_82 hl (by decide) rfl (fun ls hl => ?_)
                      refine lv_iload hx hb dX7_most_84 (lv_at hl 0 rfl) ?_
                      refine lv_iconst (v := (-1)) hx hb dX7_most_86 (by decide +kernel) ?_
                      refine lv_icmp_ne (tgt := 93) hx hb dX7_most_87 (by decide) (fun q9 => absurd q9 (by decide +kernel)) (fun _ => ?_)
                      refine lv_goto (tgt := 154) hx hb dX7_most_90 (by decide) ?_
                      refine lv_iinc (v := 1) (lv' := [(6, .int 1), (7, .int (-1)), (5, .int 7), (4, .int 0), (8, .int 0), (3, .int (-1)), (0, .ref p0), (1, .int p1), (2, .int p2)]) hx hb dX7_most_154 hl (k := 1) rfl (by decide +kernel) (by decide) rfl (fun ls hl => ?_)
                      refine lv_goto (tgt := 52) hx hb dX7_most_157 (by decide) ?_
                      refine lv_iload hx hb dX7_most_52 (lv_at hl 0 rfl) ?_
                      refine lv_iconst (v := 1) hx hb dX7_most_54 (by decide +kernel) ?_
                      refine lv_aload_n hx hb dX7_most_55 rfl (lv_at hl 6 rfl) ?_
                      refine k_get (D := (dC, dI)) (ci := 7) (v := .ref (p3 14)) (C := RX7) (T := TX7) (N := 92) hx hb hts hinX7 hown hK hP 4 rfl rfl 14 (by decide) w_1 rfl rfl dX7_most_56 ?_
                      refine lv_aload_n hx hb dX7_most_59 rfl (lv_at hl 6 rfl) ?_
                      refine k_get (D := (dC, dI)) (ci := 7) (v := .int 0) (C := RX7) (T := TX7) (N := 92) hx hb hts hinX7 hown hK hP 4 rfl rfl 13 (by decide) w_2 rfl rfl dX7_most_60 ?_
                      refine k_iald (v := 0) hx hb hK hP 5 0 0 rfl rfl rfl (Nat.le_of_ble_eq_true rfl) (Nat.le_of_ble_eq_true rfl) rfl dX7_most_63 ?_
                      refine lv_ishl hx hb dX7_most_64 ?_
                      refine k_int (v := 1) (by decide +kernel) ?_
                      refine lv_icmp_ge (tgt := 160) hx hb dX7_most_65 (by decide) (fun _ => ?_) (fun q9 => absurd q9 (by decide +kernel))
                      refine lv_iinc (v := 8) (lv' := [(5, .int 8), (6, .int 1), (7, .int (-1)), (4, .int 0), (8, .int 0), (3, .int (-1)), (0, .ref p0), (1, .int p1), (2, .int p2)]) hx hb dX7_most_160 hl (k := 2) rfl (by decide +kernel) (by decide) rfl (fun ls hl => ?_)
                      refine lv_goto (tgt := 43) hx hb dX7_most_163 (by decide) ?_
                      refine lv_iload hx hb dX7_most_43 (lv_at hl 0 rfl) ?_
                      refine lv_iload_n hx hb dX7_most_45 rfl (lv_at hl 7 rfl) ?_
                      refine lv_icmp_gt (tgt := 166) hx hb dX7_most_46 (by decide) (fun c_64 => ?_) (fun c_64 => ?_)
                      · have c_64 : p1.toInt < 8 := k_ltT rfl (by decide +kernel) c_64
                        refine lv_iload_n hx hb dX7_most_166 rfl (lv_at hl 8 rfl) ?_
                        refine lv_if_ne (tgt := 175) hx hb dX7_most_167 (by decide) (fun c_65 => ?_) (fun c_65 => ?_)
                        · have c_65 : ¬ p2.toInt = 0 := k_eqF rfl (by decide +kernel) c_65
                          refine lv_iload_n hx hb dX7_most_175 rfl (lv_at hl 8 rfl) ?_
                          refine lv_iconst (v := 1) hx hb dX7_most_176 (by decide +kernel) ?_
                          refine lv_icmp_ne (tgt := 187) hx hb dX7_most_177 (by decide) (fun c_66 => ?_) (fun c_66 => ?_)
                          · have c_66 : ¬ p2.toInt = 1 := k_eqF rfl (by decide +kernel) c_66
                            refine lv_iload_n hx hb dX7_most_187 rfl (lv_at hl 8 rfl) ?_
                            refine lv_iconst (v := 2) hx hb dX7_most_188 (by decide +kernel) ?_
                            refine lv_icmp_ne (tgt := 199) hx hb dX7_most_189 (by decide) (fun c_67 => ?_) (fun c_67 => ?_)
                            · have c_67 : ¬ p2.toInt = 2 := k_eqF rfl (by decide +kernel) c_67
                              refine lv_aload_n hx hb dX7_most_199 rfl (lv_at hl 6 rfl) ?_
                              refine k_get (D := (dC, dI)) (ci := 7) (v := .int 0) (C := RX7) (T := TX7) (N := 92) hx hb hts hinX7 hown hK hP 4 rfl rfl 76 (by decide) w_4 rfl rfl dX7_most_200 ?_
                              exact k_ri B hP hD hS dX7_most_203 (32, (fun _ => 0)) [4, 0, 1, 2, 5, 3] rfl rfl rfl (Nat.le_of_ble_eq_true rfl) (Nat.le_of_ble_eq_true rfl) ⟨c_6, c_7, c_13, c_14, c_19, c_22, c_28, c_34, c_40, c_46, c_52, c_58, c_64, c_65, c_66, c_67, rfl⟩
                            · have c_67 : p2.toInt = 2 := k_eqT rfl (by decide +kernel) c_67
                              refine lv_aload_n hx hb dX7_most_192 rfl (lv_at hl 6 rfl) ?_
                              refine k_ci (wc := [(p0, .inr (7, oM p3 (upd (upd i7 75 0) 76 0) j7)), ((p3 72), .inl (cI, 9216, .inl (upd (fun _ => (-1)) 0 0)))]) (wr := [((p3 49), .inl (cI, 22, .inl (fun _ => 0))), ((p3 50), .inl (cI, 22, .inl (fun _ => 0))), ((p3 18), .inl (cI, 2, .inl (fun _ => 0))), ((p3 14), .inl (cI, 2, .inl (fun _ => 0)))]) (fun hPc hDc => va_runV (As := []) (rest := []) ⟨hx, hb, hml, hown, hts⟩ (c_X7_foundSea_v0 l dC dI cI cJ cZ cM p0 p3 H.size) (cwV 0 hts gX7_most_X7_foundSea rfl rfl rfl (by decide +kernel) ⟨(Nat.le_of_ble_eq_true rfl), (Nat.le_of_ble_eq_true rfl)⟩) (k_pV hPc hDc hK hN hP (q0 := 4) (ci := 7) rfl rfl) rfl rfl hl.1 rfl (lv_room (Nat.le_of_ble_eq_true rfl)) dX7_most_193 ⟨(Nat.le_of_ble_eq_true rfl), (Nat.le_of_ble_eq_true rfl)⟩) hP hD hS hA [4, 2] [0, 1, 3, 5] rfl rfl rfl rfl (by decide) (fun _ => rfl) 0 0 rfl rfl (fun r_68 u_69 H locs hw hP hD hS => ?_)
                              obtain rfl : r_68 = 0 := hw
                              have hP : va_P (dC, dI) vwCl [((p3 49), .inl (cI, 22, .inl (fun _ => 0))), ((p3 50), .inl (cI, 22, .inl (fun _ => 0))), ((p3 18), .inl (cI, 2, .inl (fun _ => 0))), ((p3 14), .inl (cI, 2, .inl (fun _ => 0))), (p0, .inr (7, oM p3 (upd (upd i7 75 0) 76 0) j7)), ((p3 72), .inl (cI, 9216, .inl (upd (fun _ => (-1)) 0 0)))] H := hP
                              have hD : va_D A [((p3 49), .inl (cI, 22, .inl (fun _ => 0))), ((p3 50), .inl (cI, 22, .inl (fun _ => 0))), ((p3 18), .inl (cI, 2, .inl (fun _ => 0))), ((p3 14), .inl (cI, 2, .inl (fun _ => 0))), (p0, .inr (7, oM p3 (upd (upd i7 75 0) 76 0) j7)), ((p3 72), .inl (cI, 9216, .inl (upd (fun _ => (-1)) 0 0)))] := hD
                              refine lv_goto (tgt := 203) hx hb dX7_most_196 (by decide) ?_
                              exact k_ri B hP hD hS dX7_most_203 (33, (fun _ => 0)) [4, 0, 1, 5, 3, 2] rfl rfl rfl (Nat.le_of_ble_eq_true rfl) (Nat.le_of_ble_eq_true rfl) ⟨c_6, c_7, c_13, c_14, c_19, c_22, c_28, c_34, c_40, c_46, c_52, c_58, c_64, c_65, c_66, c_67, rfl⟩
                          · have c_66 : p2.toInt = 1 := k_eqT rfl (by decide +kernel) c_66
                            refine lv_aload_n hx hb dX7_most_180 rfl (lv_at hl 6 rfl) ?_
                            refine k_get (D := (dC, dI)) (ci := 7) (v := .int 0) (C := RX7) (T := TX7) (N := 92) hx hb hts hinX7 hown hK hP 4 rfl rfl 75 (by decide) w_0 rfl rfl dX7_most_181 ?_
                            refine lv_goto (tgt := 203) hx hb dX7_most_184 (by decide) ?_
                            exact k_ri B hP hD hS dX7_most_203 (34, (fun _ => 0)) [4, 0, 1, 2, 5, 3] rfl rfl rfl (Nat.le_of_ble_eq_true rfl) (Nat.le_of_ble_eq_true rfl) ⟨c_6, c_7, c_13, c_14, c_19, c_22, c_28, c_34, c_40, c_46, c_52, c_58, c_64, c_65, c_66, rfl⟩
                        · have c_65 : p2.toInt = 0 := k_eqT rfl (by decide +kernel) c_65
                          refine lv_iload hx hb dX7_most_170 (lv_at hl 3 rfl) ?_
                          refine lv_goto (tgt := 203) hx hb dX7_most_172 (by decide) ?_
                          exact k_ri B hP hD hS dX7_most_203 (35, (fun _ => 0)) [4, 0, 1, 2, 5, 3] rfl rfl rfl (Nat.le_of_ble_eq_true rfl) (Nat.le_of_ble_eq_true rfl) ⟨c_6, c_7, c_13, c_14, c_19, c_22, c_28, c_34, c_40, c_46, c_52, c_58, c_64, c_65, rfl⟩
                      · have c_64 : 8 ≤ p1.toInt := k_ltF rfl (by decide +kernel) c_64
                        refine lv_iconst (v := 0) hx hb dX7_most_49 (by decide +kernel) ?_
                        refine lv_istore (lv' := [(6, .int 0), (5, .int 8), (7, .int (-1)), (4, .int 0), (8, .int 0), (3, .int (-1)), (0, .ref p0), (1, .int p1), (2, .int p2)]) hx hb dX7_most_50 hl (by decide) rfl (fun ls hl => ?_)
                        refine lv_iload hx hb dX7_most_52 (lv_at hl 0 rfl) ?_
                        refine lv_iconst (v := 1) hx hb dX7_most_54 (by decide +kernel) ?_
                        refine lv_aload_n hx hb dX7_most_55 rfl (lv_at hl 6 rfl) ?_
                        refine k_get (D := (dC, dI)) (ci := 7) (v := .ref (p3 14)) (C := RX7) (T := TX7) (N := 92) hx hb hts hinX7 hown hK hP 4 rfl rfl 14 (by decide) w_1 rfl rfl dX7_most_56 ?_
                        refine lv_aload_n hx hb dX7_most_59 rfl (lv_at hl 6 rfl) ?_
                        refine k_get (D := (dC, dI)) (ci := 7) (v := .int 0) (C := RX7) (T := TX7) (N := 92) hx hb hts hinX7 hown hK hP 4 rfl rfl 13 (by decide) w_2 rfl rfl dX7_most_60 ?_
                        refine k_iald (v := 0) hx hb hK hP 5 0 0 rfl rfl rfl (Nat.le_of_ble_eq_true rfl) (Nat.le_of_ble_eq_true rfl) rfl dX7_most_63 ?_
                        refine lv_ishl hx hb dX7_most_64 ?_
                        refine k_int (v := 1) (by decide +kernel) ?_
                        refine lv_icmp_ge (tgt := 160) hx hb dX7_most_65 (by decide) (fun q9 => absurd q9 (by decide +kernel)) (fun _ => ?_)
                        refine lv_aload_n hx hb dX7_most_68 rfl (lv_at hl 6 rfl) ?_
                        refine k_get (D := (dC, dI)) (ci := 7) (v := .ref (p3 72)) (C := RX7) (T := TX7) (N := 92) hx hb hts hinX7 hown hK hP 4 rfl rfl 72 (by decide) w_3 rfl rfl dX7_most_69 ?_
                        refine lv_sipush (v := 1024) hx hb dX7_most_72 (by decide +kernel) ?_
                        refine lv_iload hx hb dX7_most_75 (lv_at hl 1 rfl) ?_
                        refine lv_imul hx hb dX7_most_77 ?_
                        refine k_int (v := 8192) (by decide +kernel) ?_
                        refine lv_iload hx hb dX7_most_78 (lv_at hl 0 rfl) ?_
                        refine lv_iadd hx hb dX7_most_80 ?_
                        refine k_int (v := 8192) (by decide +kernel) ?_
                        refine k_iald (v := (-1)) hx hb hK hP 2 0 8192 rfl rfl rfl (Nat.le_of_ble_eq_true rfl) (Nat.le_of_ble_eq_true rfl) rfl dX7_most_81 ?_
                        refine lv_istore (lv' := [(7, .int (-1)), (6, .int 0), (5, .int 8), (4, .int 0), (8, .int 0), (3, .int (-1)), (0, .ref p0), (1, .int p1), (2, .int p2)]) hx hb dX7_most_82 hl (by decide) rfl (fun ls hl => ?_)
                        refine lv_iload hx hb dX7_most_84 (lv_at hl 0 rfl) ?_
                        refine lv_iconst (v := (-1)) hx hb dX7_most_86 (by decide +kernel) ?_
                        refine lv_icmp_ne (tgt := 93) hx hb dX7_most_87 (by decide) (fun q9 => absurd q9 (by decide +kernel)) (fun _ => ?_)
                        refine lv_goto (tgt := 154) hx hb dX7_most_90 (by decide) ?_
                        refine lv_iinc (v := 1) (lv' := [(6, .int 1), (7, .int (-1)), (5, .int 8), (4, .int 0), (8, .int 0), (3, .int (-1)), (0, .ref p0), (1, .int p1), (2, .int p2)]) hx hb dX7_most_154 hl (k := 1) rfl (by decide +kernel) (by decide) rfl (fun ls hl => ?_)
                        refine lv_goto (tgt := 52) hx hb dX7_most_157 (by decide) ?_
                        refine lv_iload hx hb dX7_most_52 (lv_at hl 0 rfl) ?_
                        refine lv_iconst (v := 1) hx hb dX7_most_54 (by decide +kernel) ?_
                        refine lv_aload_n hx hb dX7_most_55 rfl (lv_at hl 6 rfl) ?_
                        refine k_get (D := (dC, dI)) (ci := 7) (v := .ref (p3 14)) (C := RX7) (T := TX7) (N := 92) hx hb hts hinX7 hown hK hP 4 rfl rfl 14 (by decide) w_1 rfl rfl dX7_most_56 ?_
                        refine lv_aload_n hx hb dX7_most_59 rfl (lv_at hl 6 rfl) ?_
                        refine k_get (D := (dC, dI)) (ci := 7) (v := .int 0) (C := RX7) (T := TX7) (N := 92) hx hb hts hinX7 hown hK hP 4 rfl rfl 13 (by decide) w_2 rfl rfl dX7_most_60 ?_
                        refine k_iald (v := 0) hx hb hK hP 5 0 0 rfl rfl rfl (Nat.le_of_ble_eq_true rfl) (Nat.le_of_ble_eq_true rfl) rfl dX7_most_63 ?_
                        refine lv_ishl hx hb dX7_most_64 ?_
                        refine k_int (v := 1) (by decide +kernel) ?_
                        refine lv_icmp_ge (tgt := 160) hx hb dX7_most_65 (by decide) (fun _ => ?_) (fun q9 => absurd q9 (by decide +kernel))
                        refine lv_iinc (v := 9) (lv' := [(5, .int 9), (6, .int 1), (7, .int (-1)), (4, .int 0), (8, .int 0), (3, .int (-1)), (0, .ref p0), (1, .int p1), (2, .int p2)]) hx hb dX7_most_160 hl (k := 2) rfl (by decide +kernel) (by decide) rfl (fun ls hl => ?_)
                        refine lv_goto (tgt := 43) hx hb dX7_most_163 (by decide) ?_
                        refine lv_iload hx hb dX7_most_43 (lv_at hl 0 rfl) ?_
                        refine lv_iload_n hx hb dX7_most_45 rfl (lv_at hl 7 rfl) ?_
                        refine lv_icmp_gt (tgt := 166) hx hb dX7_most_46 (by decide) (fun c_70 => ?_) (fun c_70 => ?_)
                        · have c_70 : p1.toInt < 9 := k_ltT rfl (by decide +kernel) c_70
                          refine lv_iload_n hx hb dX7_most_166 rfl (lv_at hl 8 rfl) ?_
                          refine lv_if_ne (tgt := 175) hx hb dX7_most_167 (by decide) (fun c_71 => ?_) (fun c_71 => ?_)
                          · have c_71 : ¬ p2.toInt = 0 := k_eqF rfl (by decide +kernel) c_71
                            refine lv_iload_n hx hb dX7_most_175 rfl (lv_at hl 8 rfl) ?_
                            refine lv_iconst (v := 1) hx hb dX7_most_176 (by decide +kernel) ?_
                            refine lv_icmp_ne (tgt := 187) hx hb dX7_most_177 (by decide) (fun c_72 => ?_) (fun c_72 => ?_)
                            · have c_72 : ¬ p2.toInt = 1 := k_eqF rfl (by decide +kernel) c_72
                              refine lv_iload_n hx hb dX7_most_187 rfl (lv_at hl 8 rfl) ?_
                              refine lv_iconst (v := 2) hx hb dX7_most_188 (by decide +kernel) ?_
                              refine lv_icmp_ne (tgt := 199) hx hb dX7_most_189 (by decide) (fun c_73 => ?_) (fun c_73 => ?_)
                              · have c_73 : ¬ p2.toInt = 2 := k_eqF rfl (by decide +kernel) c_73
                                refine lv_aload_n hx hb dX7_most_199 rfl (lv_at hl 6 rfl) ?_
                                refine k_get (D := (dC, dI)) (ci := 7) (v := .int 0) (C := RX7) (T := TX7) (N := 92) hx hb hts hinX7 hown hK hP 4 rfl rfl 76 (by decide) w_4 rfl rfl dX7_most_200 ?_
                                exact k_ri B hP hD hS dX7_most_203 (36, (fun _ => 0)) [4, 0, 1, 2, 5, 3] rfl rfl rfl (Nat.le_of_ble_eq_true rfl) (Nat.le_of_ble_eq_true rfl) ⟨c_6, c_7, c_13, c_14, c_19, c_22, c_28, c_34, c_40, c_46, c_52, c_58, c_64, c_70, c_71, c_72, c_73, rfl⟩
                              · have c_73 : p2.toInt = 2 := k_eqT rfl (by decide +kernel) c_73
                                refine lv_aload_n hx hb dX7_most_192 rfl (lv_at hl 6 rfl) ?_
                                refine k_ci (wc := [(p0, .inr (7, oM p3 (upd (upd i7 75 0) 76 0) j7)), ((p3 72), .inl (cI, 9216, .inl (upd (fun _ => (-1)) 0 0)))]) (wr := [((p3 49), .inl (cI, 22, .inl (fun _ => 0))), ((p3 50), .inl (cI, 22, .inl (fun _ => 0))), ((p3 18), .inl (cI, 2, .inl (fun _ => 0))), ((p3 14), .inl (cI, 2, .inl (fun _ => 0)))]) (fun hPc hDc => va_runV (As := []) (rest := []) ⟨hx, hb, hml, hown, hts⟩ (c_X7_foundSea_v0 l dC dI cI cJ cZ cM p0 p3 H.size) (cwV 0 hts gX7_most_X7_foundSea rfl rfl rfl (by decide +kernel) ⟨(Nat.le_of_ble_eq_true rfl), (Nat.le_of_ble_eq_true rfl)⟩) (k_pV hPc hDc hK hN hP (q0 := 4) (ci := 7) rfl rfl) rfl rfl hl.1 rfl (lv_room (Nat.le_of_ble_eq_true rfl)) dX7_most_193 ⟨(Nat.le_of_ble_eq_true rfl), (Nat.le_of_ble_eq_true rfl)⟩) hP hD hS hA [4, 2] [0, 1, 3, 5] rfl rfl rfl rfl (by decide) (fun _ => rfl) 0 0 rfl rfl (fun r_74 u_75 H locs hw hP hD hS => ?_)
                                obtain rfl : r_74 = 0 := hw
                                have hP : va_P (dC, dI) vwCl [((p3 49), .inl (cI, 22, .inl (fun _ => 0))), ((p3 50), .inl (cI, 22, .inl (fun _ => 0))), ((p3 18), .inl (cI, 2, .inl (fun _ => 0))), ((p3 14), .inl (cI, 2, .inl (fun _ => 0))), (p0, .inr (7, oM p3 (upd (upd i7 75 0) 76 0) j7)), ((p3 72), .inl (cI, 9216, .inl (upd (fun _ => (-1)) 0 0)))] H := hP
                                have hD : va_D A [((p3 49), .inl (cI, 22, .inl (fun _ => 0))), ((p3 50), .inl (cI, 22, .inl (fun _ => 0))), ((p3 18), .inl (cI, 2, .inl (fun _ => 0))), ((p3 14), .inl (cI, 2, .inl (fun _ => 0))), (p0, .inr (7, oM p3 (upd (upd i7 75 0) 76 0) j7)), ((p3 72), .inl (cI, 9216, .inl (upd (fun _ => (-1)) 0 0)))] := hD
                                refine lv_goto (tgt := 203) hx hb dX7_most_196 (by decide) ?_
                                exact k_ri B hP hD hS dX7_most_203 (37, (fun _ => 0)) [4, 0, 1, 5, 3, 2] rfl rfl rfl (Nat.le_of_ble_eq_true rfl) (Nat.le_of_ble_eq_true rfl) ⟨c_6, c_7, c_13, c_14, c_19, c_22, c_28, c_34, c_40, c_46, c_52, c_58, c_64, c_70, c_71, c_72, c_73, rfl⟩
                            · have c_72 : p2.toInt = 1 := k_eqT rfl (by decide +kernel) c_72
                              refine lv_aload_n hx hb dX7_most_180 rfl (lv_at hl 6 rfl) ?_
                              refine k_get (D := (dC, dI)) (ci := 7) (v := .int 0) (C := RX7) (T := TX7) (N := 92) hx hb hts hinX7 hown hK hP 4 rfl rfl 75 (by decide) w_0 rfl rfl dX7_most_181 ?_
                              refine lv_goto (tgt := 203) hx hb dX7_most_184 (by decide) ?_
                              exact k_ri B hP hD hS dX7_most_203 (38, (fun _ => 0)) [4, 0, 1, 2, 5, 3] rfl rfl rfl (Nat.le_of_ble_eq_true rfl) (Nat.le_of_ble_eq_true rfl) ⟨c_6, c_7, c_13, c_14, c_19, c_22, c_28, c_34, c_40, c_46, c_52, c_58, c_64, c_70, c_71, c_72, rfl⟩
                          · have c_71 : p2.toInt = 0 := k_eqT rfl (by decide +kernel) c_71
                            refine lv_iload hx hb dX7_most_170 (lv_at hl 3 rfl) ?_
                            refine lv_goto (tgt := 203) hx hb dX7_most_172 (by decide) ?_
                            exact k_ri B hP hD hS dX7_most_203 (39, (fun _ => 0)) [4, 0, 1, 2, 5, 3] rfl rfl rfl (Nat.le_of_ble_eq_true rfl) (Nat.le_of_ble_eq_true rfl) ⟨c_6, c_7, c_13, c_14, c_19, c_22, c_28, c_34, c_40, c_46, c_52, c_58, c_64, c_70, c_71, rfl⟩
                        · have c_70 : 9 ≤ p1.toInt := k_ltF rfl (by decide +kernel) c_70
                          exfalso; omega
    · exact False.elim hw
  · exact False.elim hw
