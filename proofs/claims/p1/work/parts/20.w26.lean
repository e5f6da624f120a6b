set_option maxHeartbeats 4000000 in
set_option maxRecDepth 100000 in
theorem c_X7_turns_v7 (l : Launch) (dC : Nat → ClassId) (dI : Nat → Nat → Nat) (cI cJ cZ cM : ClassId) (p0 : Nat) (p1 : Nat → Nat)   : k_Mi l yX7_turns wsX7_turns ({ frames := 1, cells := 0, slots := 0, locals := 40 }) (dC, dI) vwCl (tyy cI cJ cZ cM) [(p0, .inr (7, oM p1 i7 j7)), ((p1 84), .inl (cI, 12, .inl (upd (upd (upd (upd (upd (upd (upd (upd (fun _ => 0) 0 0) 1 0) 2 0) 3 0) 4 0) 5 0) 6 0) 7 0))), ((p1 85), .inl (cI, 6, .inl (upd (upd (upd (upd (fun _ => 0) 0 0) 1 0) 2 0) 3 0))), ((p1 89), .inl (cI, 6, .inl (upd (upd (upd (upd (fun _ => 0) 0 0) 1 0) 2 0) 3 0))), ((p1 18), .inl (cI, 2, .inl (fun _ => 0)))] [.ref p0, .int 0, .int 0, .int 0] 0 0 (fun (u9 : Unit) => [(p0, .inr (7, oM p1 i7 j7)), ((p1 84), .inl (cI, 12, .inl (upd (upd (upd (upd (upd (upd (upd (upd (upd (upd (fun _ => 0) 0 0) 1 0) 2 0) 3 0) 4 0) 5 0) 6 0) 7 0) 2 0) 3 0))), ((p1 85), .inl (cI, 6, .inl (upd (upd (upd (upd (upd (fun _ => 0) 0 0) 1 0) 2 0) 3 0) 1 0))), ((p1 89), .inl (cI, 6, .inl (upd (upd (upd (upd (upd (fun _ => 0) 0 0) 1 0) 2 0) 3 0) 1 0))), ((p1 18), .inl (cI, 2, .inl (fun _ => 0)))]) (fun (r9 : Int32) (u9 : Unit) => r9 = 0) := by
  refine fun sz => k_enter (cc := cX7_turns) (maxL := 4) (ret := some (.boolean)) (Qc := fun A => va_Qi (fun (r9 : Int32) (u9 : Unit) => r9 = 0) (fun u => k_B (dC, dI) vwCl (tyy cI cJ cZ cM) A ((fun (u9 : Unit) => [(p0, .inr (7, oM p1 i7 j7)), ((p1 84), .inl (cI, 12, .inl (upd (upd (upd (upd (upd (upd (upd (upd (upd (upd (fun _ => 0) 0 0) 1 0) 2 0) 3 0) 4 0) 5 0) 6 0) 7 0) 2 0) 3 0))), ((p1 85), .inl (cI, 6, .inl (upd (upd (upd (upd (upd (fun _ => 0) 0 0) 1 0) 2 0) 3 0) 1 0))), ((p1 89), .inl (cI, 6, .inl (upd (upd (upd (upd (upd (fun _ => 0) 0 0) 1 0) 2 0) 3 0) 1 0))), ((p1 18), .inl (cI, 2, .inl (fun _ => 0)))]) u)) A) sz (by decide +kernel) rfl (Nat.le_of_ble_eq_true rfl) (fun p e s m args below meth c A ls H locs B hP hD hS hl => ?_)
  obtain ⟨hx, hb, hml, hown, hts, hr, hlk, hnm, hK, hA, hN, hC⟩ := id B
  have hown : s.vm.findClass RX7 = some m.cls := hown
  have hl : lv_has ls 4 [(0, .ref p0), (1, .int 0), (2, .int 0), (3, .int 0)] := hl
  have w_0 : (Cond.fieldLink RX7 267 "WishSeaModel" "ownHad" "[I").before args s = true := hts _ (List.mem_of_getElem? (i := 1) rfl)
  have w_1 : (Cond.fieldLink RX7 270 "WishSeaModel" "bothSea" "[I").before args s = true := hts _ (List.mem_of_getElem? (i := 2) rfl)
  have w_2 : (Cond.fieldLink RX7 282 "WishSeaModel" "saidAhead" "[I").before args s = true := hts _ (List.mem_of_getElem? (i := 3) rfl)
  have w_3 : (Cond.fieldLink RX7 66 "WishSeaModel" "wishes" "[I").before args s = true := hts _ (List.mem_of_getElem? (i := 4) rfl)
  have w_4 : (Cond.fieldLink RX7 51 "WishSeaModel" "bank" "I").before args s = true := hts _ (List.mem_of_getElem? (i := 5) rfl)
  have hinX7 : ∀ w ∈ u_ws RX7 TX7 92, w ∈ wsX7_turns := fun _ h => List.mem_cons_of_mem _ (List.mem_append_right _ h)
  refine lv_aload_n hx hb dX7_turns_0 rfl (lv_at hl 0 rfl) ?_
  refine k_get (D := (dC, dI)) (ci := 7) (v := .ref (p1 84)) (C := RX7) (T := TX7) (N := 92) hx hb hts hinX7 hown hK hP 0 rfl rfl 84 (by decide) w_0 rfl rfl dX7_turns_1 ?_
  refine lv_iconst (v := 2) hx hb dX7_turns_4 (by decide +kernel) ?_
  refine lv_iload_n hx hb dX7_turns_5 rfl (lv_at hl 1 rfl) ?_
  refine lv_imul hx hb dX7_turns_6 ?_
  refine k_int (v := 0) (by decide +kernel) ?_
  refine lv_iconst (v := 2) hx hb dX7_turns_7 (by decide +kernel) ?_
  refine lv_iadd hx hb dX7_turns_8 ?_
  refine k_int (v := 2) (by decide +kernel) ?_
  refine lv_aload_n hx hb dX7_turns_9 rfl (lv_at hl 0 rfl) ?_
  refine k_get (D := (dC, dI)) (ci := 7) (v := .ref (p1 84)) (C := RX7) (T := TX7) (N := 92) hx hb hts hinX7 hown hK hP 0 rfl rfl 84 (by decide) w_0 rfl rfl dX7_turns_10 ?_
  refine lv_iconst (v := 2) hx hb dX7_turns_13 (by decide +kernel) ?_
  refine lv_iload_n hx hb dX7_turns_14 rfl (lv_at hl 1 rfl) ?_
  refine lv_imul hx hb dX7_turns_15 ?_
  refine k_int (v := 0) (by decide +kernel) ?_
  refine k_iald (v := 0) hx hb hK hP 1 0 0 rfl rfl rfl (Nat.le_of_ble_eq_true rfl) (Nat.le_of_ble_eq_true rfl) rfl dX7_turns_16 ?_
  refine k_iast (g := (upd (upd (upd (upd (upd (upd (upd (upd (upd (fun _ => 0) 0 0) 1 0) 2 0) 3 0) 4 0) 5 0) 6 0) 7 0) 2 0)) (ws' := [(p0, .inr (7, oM p1 i7 j7)), ((p1 84), .inl (cI, 12, .inl (upd (upd (upd (upd (upd (upd (upd (upd (upd (fun _ => 0) 0 0) 1 0) 2 0) 3 0) 4 0) 5 0) 6 0) 7 0) 2 0))), ((p1 85), .inl (cI, 6, .inl (upd (upd (upd (upd (fun _ => 0) 0 0) 1 0) 2 0) 3 0))), ((p1 89), .inl (cI, 6, .inl (upd (upd (upd (upd (fun _ => 0) 0 0) 1 0) 2 0) 3 0))), ((p1 18), .inl (cI, 2, .inl (fun _ => 0)))]) hx hb hK hP hD hS 1 0 2 rfl rfl rfl (Nat.le_of_ble_eq_true rfl) (Nat.le_of_ble_eq_true rfl) rfl rfl dX7_turns_17 (fun H locs hP hD hS => ?_)
  refine lv_aload_n hx hb dX7_turns_18 rfl (lv_at hl 0 rfl) ?_
  refine k_get (D := (dC, dI)) (ci := 7) (v := .ref (p1 84)) (C := RX7) (T := TX7) (N := 92) hx hb hts hinX7 hown hK hP 0 rfl rfl 84 (by decide) w_0 rfl rfl dX7_turns_19 ?_
  refine lv_iconst (v := 2) hx hb dX7_turns_22 (by decide +kernel) ?_
  refine lv_iload_n hx hb dX7_turns_23 rfl (lv_at hl 1 rfl) ?_
  refine lv_imul hx hb dX7_turns_24 ?_
  refine k_int (v := 0) (by decide +kernel) ?_
  refine lv_iconst (v := 3) hx hb dX7_turns_25 (by decide +kernel) ?_
  refine lv_iadd hx hb dX7_turns_26 ?_
  refine k_int (v := 3) (by decide +kernel) ?_
  refine lv_aload_n hx hb dX7_turns_27 rfl (lv_at hl 0 rfl) ?_
  refine k_get (D := (dC, dI)) (ci := 7) (v := .ref (p1 84)) (C := RX7) (T := TX7) (N := 92) hx hb hts hinX7 hown hK hP 0 rfl rfl 84 (by decide) w_0 rfl rfl dX7_turns_28 ?_
  refine lv_iconst (v := 2) hx hb dX7_turns_31 (by decide +kernel) ?_
  refine lv_iload_n hx hb dX7_turns_32 rfl (lv_at hl 1 rfl) ?_
  refine lv_imul hx hb dX7_turns_33 ?_
  refine k_int (v := 0) (by decide +kernel) ?_
  refine lv_iconst (v := 1) hx hb dX7_turns_34 (by decide +kernel) ?_
  refine lv_iadd hx hb dX7_turns_35 ?_
  refine k_int (v := 1) (by decide +kernel) ?_
  refine k_iald (v := 0) hx hb hK hP 1 0 1 rfl rfl rfl (Nat.le_of_ble_eq_true rfl) (Nat.le_of_ble_eq_true rfl) rfl dX7_turns_36 ?_
  refine k_iast (g := (upd (upd (upd (upd (upd (upd (upd (upd (upd (upd (fun _ => 0) 0 0) 1 0) 2 0) 3 0) 4 0) 5 0) 6 0) 7 0) 2 0) 3 0)) (ws' := [(p0, .inr (7, oM p1 i7 j7)), ((p1 84), .inl (cI, 12, .inl (upd (upd (upd (upd (upd (upd (upd (upd (upd (upd (fun _ => 0) 0 0) 1 0) 2 0) 3 0) 4 0) 5 0) 6 0) 7 0) 2 0) 3 0))), ((p1 85), .inl (cI, 6, .inl (upd (upd (upd (upd (fun _ => 0) 0 0) 1 0) 2 0) 3 0))), ((p1 89), .inl (cI, 6, .inl (upd (upd (upd (upd (fun _ => 0) 0 0) 1 0) 2 0) 3 0))), ((p1 18), .inl (cI, 2, .inl (fun _ => 0)))]) hx hb hK hP hD hS 1 0 3 rfl rfl rfl (Nat.le_of_ble_eq_true rfl) (Nat.le_of_ble_eq_true rfl) rfl rfl dX7_turns_37 (fun H locs hP hD hS => ?_)
  refine lv_aload_n hx hb dX7_turns_38 rfl (lv_at hl 0 rfl) ?_
  refine k_get (D := (dC, dI)) (ci := 7) (v := .ref (p1 85)) (C := RX7) (T := TX7) (N := 92) hx hb hts hinX7 hown hK hP 0 rfl rfl 85 (by decide) w_1 rfl rfl dX7_turns_39 ?_
  refine lv_iload_n hx hb dX7_turns_42 rfl (lv_at hl 1 rfl) ?_
  refine lv_iconst (v := 1) hx hb dX7_turns_43 (by decide +kernel) ?_
  refine lv_iadd hx hb dX7_turns_44 ?_
  refine k_int (v := 1) (by decide +kernel) ?_
  refine lv_aload_n hx hb dX7_turns_45 rfl (lv_at hl 0 rfl) ?_
  refine k_get (D := (dC, dI)) (ci := 7) (v := .ref (p1 85)) (C := RX7) (T := TX7) (N := 92) hx hb hts hinX7 hown hK hP 0 rfl rfl 85 (by decide) w_1 rfl rfl dX7_turns_46 ?_
  refine lv_iload_n hx hb dX7_turns_49 rfl (lv_at hl 1 rfl) ?_
  refine k_iald (v := 0) hx hb hK hP 2 0 0 rfl rfl rfl (Nat.le_of_ble_eq_true rfl) (Nat.le_of_ble_eq_true rfl) rfl dX7_turns_50 ?_
  refine k_iast (g := (upd (upd (upd (upd (upd (fun _ => 0) 0 0) 1 0) 2 0) 3 0) 1 0)) (ws' := [(p0, .inr (7, oM p1 i7 j7)), ((p1 84), .inl (cI, 12, .inl (upd (upd (upd (upd (upd (upd (upd (upd (upd (upd (fun _ => 0) 0 0) 1 0) 2 0) 3 0) 4 0) 5 0) 6 0) 7 0) 2 0) 3 0))), ((p1 85), .inl (cI, 6, .inl (upd (upd (upd (upd (upd (fun _ => 0) 0 0) 1 0) 2 0) 3 0) 1 0))), ((p1 89), .inl (cI, 6, .inl (upd (upd (upd (upd (fun _ => 0) 0 0) 1 0) 2 0) 3 0))), ((p1 18), .inl (cI, 2, .inl (fun _ => 0)))]) hx hb hK hP hD hS 2 0 1 rfl rfl rfl (Nat.le_of_ble_eq_true rfl) (Nat.le_of_ble_eq_true rfl) rfl rfl dX7_turns_51 (fun H locs hP hD hS => ?_)
  refine lv_aload_n hx hb dX7_turns_52 rfl (lv_at hl 0 rfl) ?_
  refine k_get (D := (dC, dI)) (ci := 7) (v := .ref (p1 89)) (C := RX7) (T := TX7) (N := 92) hx hb hts hinX7 hown hK hP 0 rfl rfl 89 (by decide) w_2 rfl rfl dX7_turns_53 ?_
  refine lv_iload_n hx hb dX7_turns_56 rfl (lv_at hl 1 rfl) ?_
  refine lv_iconst (v := 1) hx hb dX7_turns_57 (by decide +kernel) ?_
  refine lv_iadd hx hb dX7_turns_58 ?_
  refine k_int (v := 1) (by decide +kernel) ?_
  refine lv_aload_n hx hb dX7_turns_59 rfl (lv_at hl 0 rfl) ?_
  refine k_get (D := (dC, dI)) (ci := 7) (v := .ref (p1 89)) (C := RX7) (T := TX7) (N := 92) hx hb hts hinX7 hown hK hP 0 rfl rfl 89 (by decide) w_2 rfl rfl dX7_turns_60 ?_
  refine lv_iload_n hx hb dX7_turns_63 rfl (lv_at hl 1 rfl) ?_
  refine k_iald (v := 0) hx hb hK hP 3 0 0 rfl rfl rfl (Nat.le_of_ble_eq_true rfl) (Nat.le_of_ble_eq_true rfl) rfl dX7_turns_64 ?_
  refine k_iast (g := (upd (upd (upd (upd (upd (fun _ => 0) 0 0) 1 0) 2 0) 3 0) 1 0)) (ws' := [(p0, .inr (7, oM p1 i7 j7)), ((p1 84), .inl (cI, 12, .inl (upd (upd (upd (upd (upd (upd (upd (upd (upd (upd (fun _ => 0) 0 0) 1 0) 2 0) 3 0) 4 0) 5 0) 6 0) 7 0) 2 0) 3 0))), ((p1 85), .inl (cI, 6, .inl (upd (upd (upd (upd (upd (fun _ => 0) 0 0) 1 0) 2 0) 3 0) 1 0))), ((p1 89), .inl (cI, 6, .inl (upd (upd (upd (upd (upd (fun _ => 0) 0 0) 1 0) 2 0) 3 0) 1 0))), ((p1 18), .inl (cI, 2, .inl (fun _ => 0)))]) hx hb hK hP hD hS 3 0 1 rfl rfl rfl (Nat.le_of_ble_eq_true rfl) (Nat.le_of_ble_eq_true rfl) rfl rfl dX7_turns_65 (fun H locs hP hD hS => ?_)
  refine lv_iload_n hx hb dX7_turns_66 rfl (lv_at hl 3 rfl) ?_
  refine lv_aload_n hx hb dX7_turns_67 rfl (lv_at hl 0 rfl) ?_
  refine k_get (D := (dC, dI)) (ci := 7) (v := .ref (p1 18)) (C := RX7) (T := TX7) (N := 92) hx hb hts hinX7 hown hK hP 0 rfl rfl 18 (by decide) w_3 rfl rfl dX7_turns_68 ?_
  refine lv_aload_n hx hb dX7_turns_71 rfl (lv_at hl 0 rfl) ?_
  refine k_get (D := (dC, dI)) (ci := 7) (v := .int 0) (C := RX7) (T := TX7) (N := 92) hx hb hts hinX7 hown hK hP 0 rfl rfl 13 (by decide) w_4 rfl rfl dX7_turns_72 ?_
  refine k_iald (v := 0) hx hb hK hP 4 0 0 rfl rfl rfl (Nat.le_of_ble_eq_true rfl) (Nat.le_of_ble_eq_true rfl) rfl dX7_turns_75 ?_
  refine lv_icmp_ne (tgt := 81) hx hb dX7_turns_76 (by decide) (fun q9 => absurd q9 (by decide +kernel)) (fun _ => ?_)
  refine lv_iconst (v := 0) hx hb dX7_turns_79 (by decide +kernel) ?_
  exact k_ri B hP hD hS dX7_turns_80 () [0, 1, 2, 3, 4] rfl rfl rfl (Nat.le_of_ble_eq_true rfl) (Nat.le_of_ble_eq_true rfl) rfl
set_option maxHeartbeats 4000000 in
set_option maxRecDepth 100000 in
theorem c_X7_rivals_v19 (l : Launch) (dC : Nat → ClassId) (dI : Nat → Nat → Nat) (cI cJ cZ cM : ClassId) (p0 : Nat) (p1 : Int32) (p2 : Int32) (p3 : Nat → Nat) (b_0 : 3 ≤ p1.toInt) (t_0 : p1.toInt ≤ 3) (b_1 : 0 ≤ p2.toInt) (t_1 : p2.toInt ≤ 0)  : k_Mi l yX7_rivals wsX7_rivals ({ frames := 3, cells := 0, slots := 0, locals := 90 }) (dC, dI) vwCl (tyy cI cJ cZ cM) [(p0, .inr (7, oM p3 i7 j7)), ((p3 23), .inl (cI, 2, .inl (fun _ => 0))), ((p3 84), .inl (cI, 12, .inl (fun _ => 0))), ((p3 85), .inl (cI, 6, .inl (fun _ => 0))), ((p3 89), .inl (cI, 6, .inl (fun _ => 0))), ((p3 86), .inl (cI, 5, .inl (fun _ => 0))), ((p3 88), .inl (cI, 5, .inl (fun _ => 0))), ((p3 18), .inl (cI, 2, .inl (fun _ => 0))), ((p3 14), .inl (cI, 2, .inl (fun _ => 0))), ((p3 87), .inl (cI, 5, .inl (fun _ => 0)))] [.ref p0, .int p1, .int p2] 0 0 (fun (u9 : Unit) => [(p0, .inr (7, oM p3 i7 j7)), ((p3 23), .inl (cI, 2, .inl (fun _ => 0))), ((p3 84), .inl (cI, 12, .inl (upd (upd (upd (upd (upd (upd (upd (upd (upd (upd (fun _ => 0) 0 0) 1 0) 2 0) 3 0) 4 0) 5 0) 6 0) 7 0) 2 0) 3 0))), ((p3 85), .inl (cI, 6, .inl (upd (upd (upd (upd (upd (fun _ => 0) 0 0) 1 0) 2 0) 3 0) 1 0))), ((p3 89), .inl (cI, 6, .inl (upd (upd (upd (upd (upd (fun _ => 0) 0 0) 1 0) 2 0) 3 0) 1 0))), ((p3 86), .inl (cI, 5, .inl (upd (upd (upd (upd (upd (upd (upd (upd (upd (fun _ => 0) 0 0) 0 1) 1 0) 1 1) 2 0) 2 1) 2 2) 1 2) 0 2))), ((p3 88), .inl (cI, 5, .inl (upd (upd (upd (upd (upd (upd (fun _ => 0) 0 (-1)) 1 (-1)) 2 (-1)) 2 0) 1 0) 0 0))), ((p3 18), .inl (cI, 2, .inl (fun _ => 0))), ((p3 14), .inl (cI, 2, .inl (fun _ => 0))), ((p3 87), .inl (cI, 5, .inl (upd (upd (upd (fun _ => 0) 2 0) 1 0) 0 0)))]) (fun (r9 : Int32) (u9 : Unit) => r9 = 20) := by
  refine fun sz => k_enter (cc := cX7_rivals) (maxL := 7) (ret := some (.int)) (Qc := fun A => va_Qi (fun (r9 : Int32) (u9 : Unit) => r9 = 20) (fun u => k_B (dC, dI) vwCl (tyy cI cJ cZ cM) A ((fun (u9 : Unit) => [(p0, .inr (7, oM p3 i7 j7)), ((p3 23), .inl (cI, 2, .inl (fun _ => 0))), ((p3 84), .inl (cI, 12, .inl (upd (upd (upd (upd (upd (upd (upd (upd (upd (upd (fun _ => 0) 0 0) 1 0) 2 0) 3 0) 4 0) 5 0) 6 0) 7 0) 2 0) 3 0))), ((p3 85), .inl (cI, 6, .inl (upd (upd (upd (upd (upd (fun _ => 0) 0 0) 1 0) 2 0) 3 0) 1 0))), ((p3 89), .inl (cI, 6, .inl (upd (upd (upd (upd (upd (fun _ => 0) 0 0) 1 0) 2 0) 3 0) 1 0))), ((p3 86), .inl (cI, 5, .inl (upd (upd (upd (upd (upd (upd (upd (upd (upd (fun _ => 0) 0 0) 0 1) 1 0) 1 1) 2 0) 2 1) 2 2) 1 2) 0 2))), ((p3 88), .inl (cI, 5, .inl (upd (upd (upd (upd (upd (upd (fun _ => 0) 0 (-1)) 1 (-1)) 2 (-1)) 2 0) 1 0) 0 0))), ((p3 18), .inl (cI, 2, .inl (fun _ => 0))), ((p3 14), .inl (cI, 2, .inl (fun _ => 0))), ((p3 87), .inl (cI, 5, .inl (upd (upd (upd (fun _ => 0) 2 0) 1 0) 0 0)))]) u)) A) sz (by decide +kernel) rfl (Nat.le_of_ble_eq_true rfl) (fun p e s m args below meth c A ls H locs B hP hD hS hl => ?_)
  obtain ⟨hx, hb, hml, hown, hts, hr, hlk, hnm, hK, hA, hN, hC⟩ := id B
  have hown : s.vm.findClass RX7 = some m.cls := hown
  have hl : lv_has ls 7 [(0, .ref p0), (1, .int p1), (2, .int p2)] := hl
  have w_0 : (Cond.fieldLink RX7 267 "WishSeaModel" "ownHad" "[I").before args s = true := hts _ (List.mem_of_getElem? (i := 2) rfl)
  have w_1 : (Cond.fieldLink RX7 81 "WishSeaModel" "firstOnes" "[I").before args s = true := hts _ (List.mem_of_getElem? (i := 3) rfl)
  have w_2 : (Cond.fieldLink RX7 51 "WishSeaModel" "bank" "I").before args s = true := hts _ (List.mem_of_getElem? (i := 4) rfl)
  have w_3 : (Cond.fieldLink RX7 270 "WishSeaModel" "bothSea" "[I").before args s = true := hts _ (List.mem_of_getElem? (i := 5) rfl)
  have w_4 : (Cond.fieldLink RX7 282 "WishSeaModel" "saidAhead" "[I").before args s = true := hts _ (List.mem_of_getElem? (i := 6) rfl)
  have w_5 : (Cond.fieldLink RX7 279 "WishSeaModel" "bestSaid" "[I").before args s = true := hts _ (List.mem_of_getElem? (i := 7) rfl)
  have w_6 : (Cond.fieldLink RX7 66 "WishSeaModel" "wishes" "[I").before args s = true := hts _ (List.mem_of_getElem? (i := 8) rfl)
  have hinX7 : ∀ w ∈ u_ws RX7 TX7 92, w ∈ wsX7_rivals := fun _ h => List.mem_cons_of_mem _ (List.mem_append_right _ h)
  rcases (show p1.toInt = 3 by omega) with c_1
  obtain rfl : p1 = 3 := k_eqL (by decide +kernel) c_1
  refine lv_iload_n hx hb dX7_rivals_0 rfl (lv_at hl 1 rfl) ?_
  refine lv_iconst (v := 0) hx hb dX7_rivals_1 (by decide +kernel) ?_
  refine lv_iconst (v := 4) hx hb dX7_rivals_2 (by decide +kernel) ?_
  refine k_ci (wc := []) (wr := [(p0, .inr (7, oM p3 i7 j7)), ((p3 23), .inl (cI, 2, .inl (fun _ => 0))), ((p3 84), .inl (cI, 12, .inl (fun _ => 0))), ((p3 85), .inl (cI, 6, .inl (fun _ => 0))), ((p3 89), .inl (cI, 6, .inl (fun _ => 0))), ((p3 86), .inl (cI, 5, .inl (fun _ => 0))), ((p3 88), .inl (cI, 5, .inl (fun _ => 0))), ((p3 18), .inl (cI, 2, .inl (fun _ => 0))), ((p3 14), .inl (cI, 2, .inl (fun _ => 0))), ((p3 87), .inl (cI, 5, .inl (fun _ => 0)))]) (fun hPc hDc hFc => va_runS (As := [.int 3, .int 0, .int 4]) (rest := []) ⟨hx, hb, hml, hown, hts⟩ (c_X7_is_v37 l dC dI cI cJ cZ cM H.size) (va_cwS 3 hts gX7_rivals_X7_is rfl rfl rfl (by decide +kernel) ⟨(Nat.le_of_ble_eq_true rfl), (Nat.le_of_ble_eq_true rfl)⟩) (k_pS hPc hDc hK hN hC hS hFc) rfl rfl hl.1 rfl (lv_room (Nat.le_of_ble_eq_true rfl)) dX7_rivals_3 ⟨(Nat.le_of_ble_eq_true rfl), (Nat.le_of_ble_eq_true rfl)⟩) hP hD hS hA [] [0, 1, 2, 3, 4, 5, 6, 7, 8, 9] rfl rfl rfl rfl (by decide) (fun _ => rfl) 0 0 rfl rfl (fun r_2 u_3 H locs hw hP hD hS => ?_)
  obtain rfl : r_2 = 1 := hw
  have hP : va_P (dC, dI) vwCl [(p0, .inr (7, oM p3 i7 j7)), ((p3 23), .inl (cI, 2, .inl (fun _ => 0))), ((p3 84), .inl (cI, 12, .inl (fun _ => 0))), ((p3 85), .inl (cI, 6, .inl (fun _ => 0))), ((p3 89), .inl (cI, 6, .inl (fun _ => 0))), ((p3 86), .inl (cI, 5, .inl (fun _ => 0))), ((p3 88), .inl (cI, 5, .inl (fun _ => 0))), ((p3 18), .inl (cI, 2, .inl (fun _ => 0))), ((p3 14), .inl (cI, 2, .inl (fun _ => 0))), ((p3 87), .inl (cI, 5, .inl (fun _ => 0)))] H := hP
  have hD : va_D A [(p0, .inr (7, oM p3 i7 j7)), ((p3 23), .inl (cI, 2, .inl (fun _ => 0))), ((p3 84), .inl (cI, 12, .inl (fun _ => 0))), ((p3 85), .inl (cI, 6, .inl (fun _ => 0))), ((p3 89), .inl (cI, 6, .inl (fun _ => 0))), ((p3 86), .inl (cI, 5, .inl (fun _ => 0))), ((p3 88), .inl (cI, 5, .inl (fun _ => 0))), ((p3 18), .inl (cI, 2, .inl (fun _ => 0))), ((p3 14), .inl (cI, 2, .inl (fun _ => 0))), ((p3 87), .inl (cI, 5, .inl (fun _ => 0)))] := hD
  refine lv_if_eq (tgt := 25) hx hb dX7_rivals_6 (by decide) (fun q9 => absurd q9 (by decide +kernel)) (fun _ => ?_)
  refine lv_iload_n hx hb dX7_rivals_9 rfl (lv_at hl 2 rfl) ?_
  refine lv_iconst (v := (-1)) hx hb dX7_rivals_10 (by decide +kernel) ?_
  refine lv_icmp_eq (tgt := 29) hx hb dX7_rivals_11 (by decide) (fun c_4 => ?_) (fun c_4 => ?_)
  · have c_4 : p2.toInt = (-1) := k_eqT rfl (by decide +kernel) c_4
    exfalso; omega
  · have c_4 : ¬ p2.toInt = (-1) := k_eqF rfl (by decide +kernel) c_4
    refine lv_iload_n hx hb dX7_rivals_14 rfl (lv_at hl 2 rfl) ?_
    refine lv_iconst (v := 0) hx hb dX7_rivals_15 (by decide +kernel) ?_
    refine lv_iload_n hx hb dX7_rivals_16 rfl (lv_at hl 1 rfl) ?_
    refine lv_iconst (v := 1) hx hb dX7_rivals_17 (by decide +kernel) ?_
    refine lv_isub hx hb dX7_rivals_18 ?_
    refine k_int (v := 2) (by decide +kernel) ?_
    refine k_ci (wc := []) (wr := [(p0, .inr (7, oM p3 i7 j7)), ((p3 23), .inl (cI, 2, .inl (fun _ => 0))), ((p3 84), .inl (cI, 12, .inl (fun _ => 0))), ((p3 85), .inl (cI, 6, .inl (fun _ => 0))), ((p3 89), .inl (cI, 6, .inl (fun _ => 0))), ((p3 86), .inl (cI, 5, .inl (fun _ => 0))), ((p3 88), .inl (cI, 5, .inl (fun _ => 0))), ((p3 18), .inl (cI, 2, .inl (fun _ => 0))), ((p3 14), .inl (cI, 2, .inl (fun _ => 0))), ((p3 87), .inl (cI, 5, .inl (fun _ => 0)))]) (fun hPc hDc hFc => va_runS (As := [.int p2, .int 0, .int 2]) (rest := []) ⟨hx, hb, hml, hown, hts⟩ (c_X7_is_v53 l dC dI cI cJ cZ cM p2 (by omega) (by omega) H.size) (va_cwS 3 hts gX7_rivals_X7_is rfl rfl rfl (by decide +kernel) ⟨(Nat.le_of_ble_eq_true rfl), (Nat.le_of_ble_eq_true rfl)⟩) (k_pS hPc hDc hK hN hC hS hFc) rfl rfl hl.1 rfl (lv_room (Nat.le_of_ble_eq_true rfl)) dX7_rivals_19 ⟨(Nat.le_of_ble_eq_true rfl), (Nat.le_of_ble_eq_true rfl)⟩) hP hD hS hA [] [0, 1, 2, 3, 4, 5, 6, 7, 8, 9] rfl rfl rfl rfl (by decide) (fun _ => rfl) 0 0 rfl rfl (fun r_5 u_6 H locs hw hP hD hS => ?_)
    obtain rfl : r_5 = 1 := hw
    have hP : va_P (dC, dI) vwCl [(p0, .inr (7, oM p3 i7 j7)), ((p3 23), .inl (cI, 2, .inl (fun _ => 0))), ((p3 84), .inl (cI, 12, .inl (fun _ => 0))), ((p3 85), .inl (cI, 6, .inl (fun _ => 0))), ((p3 89), .inl (cI, 6, .inl (fun _ => 0))), ((p3 86), .inl (cI, 5, .inl (fun _ => 0))), ((p3 88), .inl (cI, 5, .inl (fun _ => 0))), ((p3 18), .inl (cI, 2, .inl (fun _ => 0))), ((p3 14), .inl (cI, 2, .inl (fun _ => 0))), ((p3 87), .inl (cI, 5, .inl (fun _ => 0)))] H := hP
    have hD : va_D A [(p0, .inr (7, oM p3 i7 j7)), ((p3 23), .inl (cI, 2, .inl (fun _ => 0))), ((p3 84), .inl (cI, 12, .inl (fun _ => 0))), ((p3 85), .inl (cI, 6, .inl (fun _ => 0))), ((p3 89), .inl (cI, 6, .inl (fun _ => 0))), ((p3 86), .inl (cI, 5, .inl (fun _ => 0))), ((p3 88), .inl (cI, 5, .inl (fun _ => 0))), ((p3 18), .inl (cI, 2, .inl (fun _ => 0))), ((p3 14), .inl (cI, 2, .inl (fun _ => 0))), ((p3 87), .inl (cI, 5, .inl (fun _ => 0)))] := hD
    refine lv_if_ne (tgt := 29) hx hb dX7_rivals_22 (by decide) (fun _ => ?_) (fun q9 => absurd q9 (by decide +kernel))
    refine lv_aload_n hx hb dX7_rivals_29 rfl (lv_at hl 0 rfl) ?_
    refine k_get (D := (dC, dI)) (ci := 7) (v := .ref (p3 84)) (C := RX7) (T := TX7) (N := 92) hx hb hts hinX7 hown hK hP 0 rfl rfl 84 (by decide) w_0 rfl rfl dX7_rivals_30 ?_
    refine lv_iconst (v := 0) hx hb dX7_rivals_33 (by decide +kernel) ?_
    refine lv_aload_n hx hb dX7_rivals_34 rfl (lv_at hl 0 rfl) ?_
    refine k_get (D := (dC, dI)) (ci := 7) (v := .ref (p3 23)) (C := RX7) (T := TX7) (N := 92) hx hb hts hinX7 hown hK hP 0 rfl rfl 23 (by decide) w_1 rfl rfl dX7_rivals_35 ?_
    refine lv_aload_n hx hb dX7_rivals_38 rfl (lv_at hl 0 rfl) ?_
    refine k_get (D := (dC, dI)) (ci := 7) (v := .int 0) (C := RX7) (T := TX7) (N := 92) hx hb hts hinX7 hown hK hP 0 rfl rfl 13 (by decide) w_2 rfl rfl dX7_rivals_39 ?_
    refine k_iald (v := 0) hx hb hK hP 1 0 0 rfl rfl rfl (Nat.le_of_ble_eq_true rfl) (Nat.le_of_ble_eq_true rfl) rfl dX7_rivals_42 ?_
    refine k_iast (g := (upd (fun _ => 0) 0 0)) (ws' := [(p0, .inr (7, oM p3 i7 j7)), ((p3 23), .inl (cI, 2, .inl (fun _ => 0))), ((p3 84), .inl (cI, 12, .inl (upd (fun _ => 0) 0 0))), ((p3 85), .inl (cI, 6, .inl (fun _ => 0))), ((p3 89), .inl (cI, 6, .inl (fun _ => 0))), ((p3 86), .inl (cI, 5, .inl (fun _ => 0))), ((p3 88), .inl (cI, 5, .inl (fun _ => 0))), ((p3 18), .inl (cI, 2, .inl (fun _ => 0))), ((p3 14), .inl (cI, 2, .inl (fun _ => 0))), ((p3 87), .inl (cI, 5, .inl (fun _ => 0)))]) hx hb hK hP hD hS 2 0 0 rfl rfl rfl (Nat.le_of_ble_eq_true rfl) (Nat.le_of_ble_eq_true rfl) rfl rfl dX7_rivals_43 (fun H locs hP hD hS => ?_)
    refine lv_aload_n hx hb dX7_rivals_44 rfl (lv_at hl 0 rfl) ?_
    refine k_get (D := (dC, dI)) (ci := 7) (v := .ref (p3 84)) (C := RX7) (T := TX7) (N := 92) hx hb hts hinX7 hown hK hP 0 rfl rfl 84 (by decide) w_0 rfl rfl dX7_rivals_45 ?_
    refine lv_iconst (v := 1) hx hb dX7_rivals_48 (by decide +kernel) ?_
    refine lv_aload_n hx hb dX7_rivals_49 rfl (lv_at hl 0 rfl) ?_
    refine k_get (D := (dC, dI)) (ci := 7) (v := .ref (p3 23)) (C := RX7) (T := TX7) (N := 92) hx hb hts hinX7 hown hK hP 0 rfl rfl 23 (by decide) w_1 rfl rfl dX7_rivals_50 ?_
    refine lv_aload_n hx hb dX7_rivals_53 rfl (lv_at hl 0 rfl) ?_
    refine k_get (D := (dC, dI)) (ci := 7) (v := .int 0) (C := RX7) (T := TX7) (N := 92) hx hb hts hinX7 hown hK hP 0 rfl rfl 13 (by decide) w_2 rfl rfl dX7_rivals_54 ?_
    refine k_iald (v := 0) hx hb hK hP 1 0 0 rfl rfl rfl (Nat.le_of_ble_eq_true rfl) (Nat.le_of_ble_eq_true rfl) rfl dX7_rivals_57 ?_
    refine k_iast (g := (upd (upd (fun _ => 0) 0 0) 1 0)) (ws' := [(p0, .inr (7, oM p3 i7 j7)), ((p3 23), .inl (cI, 2, .inl (fun _ => 0))), ((p3 84), .inl (cI, 12, .inl (upd (upd (fun _ => 0) 0 0) 1 0))), ((p3 85), .inl (cI, 6, .inl (fun _ => 0))), ((p3 89), .inl (cI, 6, .inl (fun _ => 0))), ((p3 86), .inl (cI, 5, .inl (fun _ => 0))), ((p3 88), .inl (cI, 5, .inl (fun _ => 0))), ((p3 18), .inl (cI, 2, .inl (fun _ => 0))), ((p3 14), .inl (cI, 2, .inl (fun _ => 0))), ((p3 87), .inl (cI, 5, .inl (fun _ => 0)))]) hx hb hK hP hD hS 2 0 1 rfl rfl rfl (Nat.le_of_ble_eq_true rfl) (Nat.le_of_ble_eq_true rfl) rfl rfl dX7_rivals_58 (fun H locs hP hD hS => ?_)
    refine lv_aload_n hx hb dX7_rivals_59 rfl (lv_at hl 0 rfl) ?_
    refine k_get (D := (dC, dI)) (ci := 7) (v := .ref (p3 85)) (C := RX7) (T := TX7) (N := 92) hx hb hts hinX7 hown hK hP 0 rfl rfl 85 (by decide) w_3 rfl rfl dX7_rivals_60 ?_
    refine lv_iconst (v := 0) hx hb dX7_rivals_63 (by decide +kernel) ?_
    refine lv_iconst (v := 0) hx hb dX7_rivals_64 (by decide +kernel) ?_
    refine k_iast (g := (upd (fun _ => 0) 0 0)) (ws' := [(p0, .inr (7, oM p3 i7 j7)), ((p3 23), .inl (cI, 2, .inl (fun _ => 0))), ((p3 84), .inl (cI, 12, .inl (upd (upd (fun _ => 0) 0 0) 1 0))), ((p3 85), .inl (cI, 6, .inl (upd (fun _ => 0) 0 0))), ((p3 89), .inl (cI, 6, .inl (fun _ => 0))), ((p3 86), .inl (cI, 5, .inl (fun _ => 0))), ((p3 88), .inl (cI, 5, .inl (fun _ => 0))), ((p3 18), .inl (cI, 2, .inl (fun _ => 0))), ((p3 14), .inl (cI, 2, .inl (fun _ => 0))), ((p3 87), .inl (cI, 5, .inl (fun _ => 0)))]) hx hb hK hP hD hS 3 0 0 rfl rfl rfl (Nat.le_of_ble_eq_true rfl) (Nat.le_of_ble_eq_true rfl) rfl rfl dX7_rivals_65 (fun H locs hP hD hS => ?_)
    refine lv_aload_n hx hb dX7_rivals_66 rfl (lv_at hl 0 rfl) ?_
    refine k_get (D := (dC, dI)) (ci := 7) (v := .ref (p3 89)) (C := RX7) (T := TX7) (N := 92) hx hb hts hinX7 hown hK hP 0 rfl rfl 89 (by decide) w_4 rfl rfl dX7_rivals_67 ?_
    refine lv_iconst (v := 0) hx hb dX7_rivals_70 (by decide +kernel) ?_
    refine lv_iconst (v := 0) hx hb dX7_rivals_71 (by decide +kernel) ?_
    refine k_iast (g := (upd (fun _ => 0) 0 0)) (ws' := [(p0, .inr (7, oM p3 i7 j7)), ((p3 23), .inl (cI, 2, .inl (fun _ => 0))), ((p3 84), .inl (cI, 12, .inl (upd (upd (fun _ => 0) 0 0) 1 0))), ((p3 85), .inl (cI, 6, .inl (upd (fun _ => 0) 0 0))), ((p3 89), .inl (cI, 6, .inl (upd (fun _ => 0) 0 0))), ((p3 86), .inl (cI, 5, .inl (fun _ => 0))), ((p3 88), .inl (cI, 5, .inl (fun _ => 0))), ((p3 18), .inl (cI, 2, .inl (fun _ => 0))), ((p3 14), .inl (cI, 2, .inl (fun _ => 0))), ((p3 87), .inl (cI, 5, .inl (fun _ => 0)))]) hx hb hK hP hD hS 4 0 0 rfl rfl rfl (Nat.le_of_ble_eq_true rfl) (Nat.le_of_ble_eq_true rfl) rfl rfl dX7_rivals_72 (fun H locs hP hD hS => ?_)
    refine lv_iload_n hx hb dX7_rivals_73 rfl (lv_at hl 1 rfl) ?_
    refine lv_if_ne (tgt := 79) hx hb dX7_rivals_74 (by decide) (fun _ => ?_) (fun q9 => absurd q9 (by decide +kernel))
    refine lv_iconst (v := 0) hx hb dX7_rivals_79 (by decide +kernel) ?_
    refine lv_istore_n (lv' := [(3, .int 0), (0, .ref p0), (1, .int 3), (2, .int p2)]) hx hb dX7_rivals_80 rfl hl (by decide) rfl (fun ls hl => ?_)
    refine lv_bipush (v := 20) hx hb dX7_rivals_81 (by decide +kernel) ?_
    refine lv_istore (lv' := [(4, .int 20), (3, .int 0), (0, .ref p0), (1, .int 3), (2, .int p2)]) hx hb dX7_rivals_83 hl (by decide) rfl (fun ls hl => ?_)
    refine lv_iconst (v := 0) hx hb dX7_rivals_85 (by decide +kernel) ?_
    refine lv_istore (lv' := [(5, .int 0), (4, .int 20), (3, .int 0), (0, .ref p0), (1, .int 3), (2, .int p2)]) hx hb dX7_rivals_86 hl (by decide) rfl (fun ls hl => ?_)
    refine lv_iload hx hb dX7_rivals_88 (lv_at hl 0 rfl) ?_
    refine lv_iload_n hx hb dX7_rivals_90 rfl (lv_at hl 5 rfl) ?_
    refine lv_iconst (v := (-1)) hx hb dX7_rivals_91 (by decide +kernel) ?_
    refine lv_icmp_ne (tgt := 99) hx hb dX7_rivals_92 (by decide) (fun c_7 => ?_) (fun c_7 => ?_)
    · have c_7 : ¬ p2.toInt = (-1) := k_eqF rfl (by decide +kernel) c_7
      refine lv_iload_n hx hb dX7_rivals_99 rfl (lv_at hl 5 rfl) ?_
      refine lv_icmp_gt (tgt := 177) hx hb dX7_rivals_100 (by decide) (fun c_8 => ?_) (fun c_8 => ?_)
      · have c_8 : p2.toInt < 0 := k_ltT rfl (by decide +kernel) c_8
        exfalso; omega
      · have c_8 : 0 ≤ p2.toInt := k_ltF rfl (by decide +kernel) c_8
        refine lv_bipush (v := 20) hx hb dX7_rivals_103 (by decide +kernel) ?_
        refine lv_istore (lv' := [(4, .int 20), (5, .int 0), (3, .int 0), (0, .ref p0), (1, .int 3), (2, .int p2)]) hx hb dX7_rivals_105 hl (by decide) rfl (fun ls hl => ?_)
        refine lv_iload_n hx hb dX7_rivals_107 rfl (lv_at hl 2 rfl) ?_
        refine lv_if_eq (tgt := 114) hx hb dX7_rivals_108 (by decide) (fun _ => ?_) (fun q9 => absurd q9 (by decide +kernel))
        refine lv_aload_n hx hb dX7_rivals_114 rfl (lv_at hl 3 rfl) ?_
        refine lv_iload hx hb dX7_rivals_115 (lv_at hl 1 rfl) ?_
        refine lv_iload_n hx hb dX7_rivals_117 rfl (lv_at hl 4 rfl) ?_
        refine k_cv (wc := [(p0, .inr (7, oM p3 i7 j7)), ((p3 86), .inl (cI, 5, .inl (fun _ => 0))), ((p3 88), .inl (cI, 5, .inl (fun _ => 0))), ((p3 18), .inl (cI, 2, .inl (fun _ => 0))), ((p3 84), .inl (cI, 12, .inl (upd (upd (fun _ => 0) 0 0) 1 0))), ((p3 85), .inl (cI, 6, .inl (upd (fun _ => 0) 0 0))), ((p3 89), .inl (cI, 6, .inl (upd (fun _ => 0) 0 0))), ((p3 14), .inl (cI, 2, .inl (fun _ => 0))), ((p3 87), .inl (cI, 5, .inl (fun _ => 0)))]) (wr := [((p3 23), .inl (cI, 2, .inl (fun _ => 0)))]) (fun hPc hDc hFc => va_runV (As := [.int 0, .int 3]) (rest := []) ⟨hx, hb, hml, hown, hts⟩ (c_X7_solves_v3 l dC dI cI cJ cZ cM p0 p3 H.size) (cwV 2 hts gX7_rivals_X7_solves rfl rfl rfl (by decide +kernel) ⟨(Nat.le_of_ble_eq_true rfl), (Nat.le_of_ble_eq_true rfl)⟩) (k_pV hPc hDc hK hN hC hS hFc hP (q0 := 0) (ci := 7) rfl rfl) rfl rfl hl.1 rfl (lv_room (Nat.le_of_ble_eq_true rfl)) dX7_rivals_118 ⟨(Nat.le_of_ble_eq_true rfl), (Nat.le_of_ble_eq_true rfl)⟩) hP hD hS hA [0, 5, 6, 7, 2, 3, 4, 8, 9] [1] rfl rfl rfl rfl (by decide) (fun _ => rfl) 0 0 rfl rfl (fun u_10 H locs hw hP hD hS => ?_)
        have hP : va_P (dC, dI) vwCl [((p3 23), .inl (cI, 2, .inl (fun _ => 0))), (p0, .inr (7, oM p3 i7 j7)), ((p3 86), .inl (cI, 5, .inl (upd (upd (upd (upd (upd (upd (upd (upd (upd (fun _ => 0) 0 0) 0 1) 1 0) 1 1) 2 0) 2 1) 2 2) 1 2) 0 2))), ((p3 88), .inl (cI, 5, .inl (upd (upd (upd (upd (upd (upd (fun _ => 0) 0 (-1)) 1 (-1)) 2 (-1)) 2 0) 1 0) 0 0))), ((p3 18), .inl (cI, 2, .inl (fun _ => 0))), ((p3 84), .inl (cI, 12, .inl (upd (upd (upd (upd (upd (upd (upd (upd (fun _ => 0) 0 0) 1 0) 2 0) 3 0) 4 0) 5 0) 6 0) 7 0))), ((p3 85), .inl (cI, 6, .inl (upd (upd (upd (upd (fun _ => 0) 0 0) 1 0) 2 0) 3 0))), ((p3 89), .inl (cI, 6, .inl (upd (upd (upd (upd (fun _ => 0) 0 0) 1 0) 2 0) 3 0))), ((p3 14), .inl (cI, 2, .inl (fun _ => 0))), ((p3 87), .inl (cI, 5, .inl (upd (upd (upd (fun _ => 0) 2 0) 1 0) 0 0)))] H := hP
        have hD : va_D A [((p3 23), .inl (cI, 2, .inl (fun _ => 0))), (p0, .inr (7, oM p3 i7 j7)), ((p3 86), .inl (cI, 5, .inl (upd (upd (upd (upd (upd (upd (upd (upd (upd (fun _ => 0) 0 0) 0 1) 1 0) 1 1) 2 0) 2 1) 2 2) 1 2) 0 2))), ((p3 88), .inl (cI, 5, .inl (upd (upd (upd (upd (upd (upd (fun _ => 0) 0 (-1)) 1 (-1)) 2 (-1)) 2 0) 1 0) 0 0))), ((p3 18), .inl (cI, 2, .inl (fun _ => 0))), ((p3 84), .inl (cI, 12, .inl (upd (upd (upd (upd (upd (upd (upd (upd (fun _ => 0) 0 0) 1 0) 2 0) 3 0) 4 0) 5 0) 6 0) 7 0))), ((p3 85), .inl (cI, 6, .inl (upd (upd (upd (upd (fun _ => 0) 0 0) 1 0) 2 0) 3 0))), ((p3 89), .inl (cI, 6, .inl (upd (upd (upd (upd (fun _ => 0) 0 0) 1 0) 2 0) 3 0))), ((p3 14), .inl (cI, 2, .inl (fun _ => 0))), ((p3 87), .inl (cI, 5, .inl (upd (upd (upd (fun _ => 0) 2 0) 1 0) 0 0)))] := hD
        refine lv_aload_n hx hb dX7_rivals_121 rfl (lv_at hl 3 rfl) ?_
        refine k_get (D := (dC, dI)) (ci := 7) (v := .ref (p3 88)) (C := RX7) (T := TX7) (N := 92) hx hb hts hinX7 hown hK hP 1 rfl rfl 88 (by decide) w_5 rfl rfl dX7_rivals_122 ?_
        refine lv_iload hx hb dX7_rivals_125 (lv_at hl 1 rfl) ?_
        refine k_iald (v := 0) hx hb hK hP 3 0 0 rfl rfl rfl (Nat.le_of_ble_eq_true rfl) (Nat.le_of_ble_eq_true rfl) rfl dX7_rivals_127 ?_
        refine lv_istore (lv' := [(6, .int 0), (4, .int 20), (5, .int 0), (3, .int 0), (0, .ref p0), (1, .int 3), (2, .int p2)]) hx hb dX7_rivals_128 hl (by decide) rfl (fun ls hl => ?_)
        refine lv_iload hx hb dX7_rivals_130 (lv_at hl 0 rfl) ?_
        refine lv_aload_n hx hb dX7_rivals_132 rfl (lv_at hl 4 rfl) ?_
        refine k_get (D := (dC, dI)) (ci := 7) (v := .ref (p3 18)) (C := RX7) (T := TX7) (N := 92) hx hb hts hinX7 hown hK hP 1 rfl rfl 18 (by decide) w_6 rfl rfl dX7_rivals_133 ?_
        refine lv_aload_n hx hb dX7_rivals_136 rfl (lv_at hl 4 rfl) ?_
        refine k_get (D := (dC, dI)) (ci := 7) (v := .int 0) (C := RX7) (T := TX7) (N := 92) hx hb hts hinX7 hown hK hP 1 rfl rfl 13 (by decide) w_2 rfl rfl dX7_rivals_137 ?_
        refine k_iald (v := 0) hx hb hK hP 4 0 0 rfl rfl rfl (Nat.le_of_ble_eq_true rfl) (Nat.le_of_ble_eq_true rfl) rfl dX7_rivals_140 ?_
        refine lv_icmp_ne (tgt := 149) hx hb dX7_rivals_141 (by decide) (fun q9 => absurd q9 (by decide +kernel)) (fun _ => ?_)
        refine lv_bipush (v := 20) hx hb dX7_rivals_144 (by decide +kernel) ?_
        refine lv_goto (tgt := 151) hx hb dX7_rivals_146 (by decide) ?_
        refine lv_istore (lv' := [(4, .int 20), (6, .int 0), (5, .int 0), (3, .int 0), (0, .ref p0), (1, .int 3), (2, .int p2)]) hx hb dX7_rivals_151 hl (by decide) rfl (fun ls hl => ?_)
        refine lv_iload_n hx hb dX7_rivals_153 rfl (lv_at hl 6 rfl) ?_
        refine lv_iconst (v := (-1)) hx hb dX7_rivals_154 (by decide +kernel) ?_
        refine lv_icmp_eq (tgt := 171) hx hb dX7_rivals_155 (by decide) (fun c_11 => ?_) (fun c_11 => ?_)
        · have c_11 : p2.toInt = (-1) := k_eqT rfl (by decide +kernel) c_11
          exfalso; omega
        · have c_11 : ¬ p2.toInt = (-1) := k_eqF rfl (by decide +kernel) c_11
          refine lv_aload_n hx hb dX7_rivals_158 rfl (lv_at hl 4 rfl) ?_
          refine lv_iload hx hb dX7_rivals_159 (lv_at hl 2 rfl) ?_
          refine lv_iload hx hb dX7_rivals_161 (lv_at hl 2 rfl) ?_
          refine lv_iconst (v := 2) hx hb dX7_rivals_163 (by decide +kernel) ?_
          refine lv_irem hx hb dX7_rivals_164 (by decide +kernel) ?_
          refine k_int (v := 0) (by decide +kernel) ?_
          refine lv_iload hx hb dX7_rivals_165 (lv_at hl 1 rfl) ?_
          refine k_ci (wc := [(p0, .inr (7, oM p3 i7 j7)), ((p3 84), .inl (cI, 12, .inl (upd (upd (upd (upd (upd (upd (upd (upd (fun _ => 0) 0 0) 1 0) 2 0) 3 0) 4 0) 5 0) 6 0) 7 0))), ((p3 85), .inl (cI, 6, .inl (upd (upd (upd (upd (fun _ => 0) 0 0) 1 0) 2 0) 3 0))), ((p3 89), .inl (cI, 6, .inl (upd (upd (upd (upd (fun _ => 0) 0 0) 1 0) 2 0) 3 0))), ((p3 18), .inl (cI, 2, .inl (fun _ => 0)))]) (wr := [((p3 23), .inl (cI, 2, .inl (fun _ => 0))), ((p3 86), .inl (cI, 5, .inl (upd (upd (upd (upd (upd (upd (upd (upd (upd (fun _ => 0) 0 0) 0 1) 1 0) 1 1) 2 0) 2 1) 2 2) 1 2) 0 2))), ((p3 88), .inl (cI, 5, .inl (upd (upd (upd (upd (upd (upd (fun _ => 0) 0 (-1)) 1 (-1)) 2 (-1)) 2 0) 1 0) 0 0))), ((p3 14), .inl (cI, 2, .inl (fun _ => 0))), ((p3 87), .inl (cI, 5, .inl (upd (upd (upd (fun _ => 0) 2 0) 1 0) 0 0)))]) (fun hPc hDc hFc => va_runV (As := [.int 0, .int 0, .int 0]) (rest := []) ⟨hx, hb, hml, hown, hts⟩ (c_X7_turns_v7 l dC dI cI cJ cZ cM p0 p3 H.size) (cwV 3 hts gX7_rivals_X7_turns rfl rfl rfl (by decide +kernel) ⟨(Nat.le_of_ble_eq_true rfl), (Nat.le_of_ble_eq_true rfl)⟩) (k_pV hPc hDc hK hN hC hS hFc hP (q0 := 1) (ci := 7) rfl rfl) rfl rfl hl.1 rfl (lv_room (Nat.le_of_ble_eq_true rfl)) dX7_rivals_167 ⟨(Nat.le_of_ble_eq_true rfl), (Nat.le_of_ble_eq_true rfl)⟩) hP hD hS hA [1, 5, 6, 7, 4] [0, 2, 3, 8, 9] rfl rfl rfl rfl (by decide) (fun _ => rfl) 0 0 rfl rfl (fun r_12 u_13 H locs hw hP hD hS => ?_)
          obtain rfl : r_12 = 0 := hw
          have hP : va_P (dC, dI) vwCl [((p3 23), .inl (cI, 2, .inl (fun _ => 0))), ((p3 86), .inl (cI, 5, .inl (upd (upd (upd (upd (upd (upd (upd (upd (upd (fun _ => 0) 0 0) 0 1) 1 0) 1 1) 2 0) 2 1) 2 2) 1 2) 0 2))), ((p3 88), .inl (cI, 5, .inl (upd (upd (upd (upd (upd (upd (fun _ => 0) 0 (-1)) 1 (-1)) 2 (-1)) 2 0) 1 0) 0 0))), ((p3 14), .inl (cI, 2, .inl (fun _ => 0))), ((p3 87), .inl (cI, 5, .inl (upd (upd (upd (fun _ => 0) 2 0) 1 0) 0 0))), (p0, .inr (7, oM p3 i7 j7)), ((p3 84), .inl (cI, 12, .inl (upd (upd (upd (upd (upd (upd (upd (upd (upd (upd (fun _ => 0) 0 0) 1 0) 2 0) 3 0) 4 0) 5 0) 6 0) 7 0) 2 0) 3 0))), ((p3 85), .inl (cI, 6, .inl (upd (upd (upd (upd (upd (fun _ => 0) 0 0) 1 0) 2 0) 3 0) 1 0))), ((p3 89), .inl (cI, 6, .inl (upd (upd (upd (upd (upd (fun _ => 0) 0 0) 1 0) 2 0) 3 0) 1 0))), ((p3 18), .inl (cI, 2, .inl (fun _ => 0)))] H := hP
          have hD : va_D A [((p3 23), .inl (cI, 2, .inl (fun _ => 0))), ((p3 86), .inl (cI, 5, .inl (upd (upd (upd (upd (upd (upd (upd (upd (upd (fun _ => 0) 0 0) 0 1) 1 0) 1 1) 2 0) 2 1) 2 2) 1 2) 0 2))), ((p3 88), .inl (cI, 5, .inl (upd (upd (upd (upd (upd (upd (fun _ => 0) 0 (-1)) 1 (-1)) 2 (-1)) 2 0) 1 0) 0 0))), ((p3 14), .inl (cI, 2, .inl (fun _ => 0))), ((p3 87), .inl (cI, 5, .inl (upd (upd (upd (fun _ => 0) 2 0) 1 0) 0 0))), (p0, .inr (7, oM p3 i7 j7)), ((p3 84), .inl (cI, 12, .inl (upd (upd (upd (upd (upd (upd (upd (upd (upd (upd (fun _ => 0) 0 0) 1 0) 2 0) 3 0) 4 0) 5 0) 6 0) 7 0) 2 0) 3 0))), ((p3 85), .inl (cI, 6, .inl (upd (upd (upd (upd (upd (fun _ => 0) 0 0) 1 0) 2 0) 3 0) 1 0))), ((p3 89), .inl (cI, 6, .inl (upd (upd (upd (upd (upd (fun _ => 0) 0 0) 1 0) 2 0) 3 0) 1 0))), ((p3 18), .inl (cI, 2, .inl (fun _ => 0)))] := hD
          refine lv_istore_n (lv' := [(3, .int 0), (4, .int 20), (6, .int 0), (5, .int 0), (0, .ref p0), (1, .int 3), (2, .int p2)]) hx hb dX7_rivals_170 rfl hl (by decide) rfl (fun ls hl => ?_)
          refine lv_iinc (v := 1) (lv' := [(5, .int 1), (3, .int 0), (4, .int 20), (6, .int 0), (0, .ref p0), (1, .int 3), (2, .int p2)]) hx hb dX7_rivals_171 hl (k := 3) rfl (by decide +kernel) (by decide) rfl (fun ls hl => ?_)
          refine lv_goto (tgt := 88) hx hb dX7_rivals_174 (by decide) ?_
          refine lv_iload hx hb dX7_rivals_88 (lv_at hl 0 rfl) ?_
          refine lv_iload_n hx hb dX7_rivals_90 rfl (lv_at hl 6 rfl) ?_
          refine lv_iconst (v := (-1)) hx hb dX7_rivals_91 (by decide +kernel) ?_
          refine lv_icmp_ne (tgt := 99) hx hb dX7_rivals_92 (by decide) (fun c_14 => ?_) (fun c_14 => ?_)
          · have c_14 : ¬ p2.toInt = (-1) := k_eqF rfl (by decide +kernel) c_14
            refine lv_iload_n hx hb dX7_rivals_99 rfl (lv_at hl 6 rfl) ?_
            refine lv_icmp_gt (tgt := 177) hx hb dX7_rivals_100 (by decide) (fun c_15 => ?_) (fun c_15 => ?_)
            · have c_15 : p2.toInt < 1 := k_ltT rfl (by decide +kernel) c_15
              refine lv_iload_n hx hb dX7_rivals_177 rfl (lv_at hl 6 rfl) ?_
              refine lv_iconst (v := (-1)) hx hb dX7_rivals_178 (by decide +kernel) ?_
              refine lv_icmp_ne (tgt := 191) hx hb dX7_rivals_179 (by decide) (fun c_16 => ?_) (fun c_16 => ?_)
              · have c_16 : ¬ p2.toInt = (-1) := k_eqF rfl (by decide +kernel) c_16
                refine lv_iload hx hb dX7_rivals_191 (lv_at hl 2 rfl) ?_
                exact k_ri B hP hD hS dX7_rivals_193 () [5, 0, 6, 7, 8, 1, 2, 9, 3, 4] rfl rfl rfl (Nat.le_of_ble_eq_true rfl) (Nat.le_of_ble_eq_true rfl) rfl
              · have c_16 : p2.toInt = (-1) := k_eqT rfl (by decide +kernel) c_16
                exfalso; omega
            · have c_15 : 1 ≤ p2.toInt := k_ltF rfl (by decide +kernel) c_15
              exfalso; omega
          · have c_14 : p2.toInt = (-1) := k_eqT rfl (by decide +kernel) c_14
            exfalso; omega
    · have c_7 : p2.toInt = (-1) := k_eqT rfl (by decide +kernel) c_7
      exfalso; omega
set_option maxHeartbeats 4000000 in
set_option maxRecDepth 100000 in
theorem c_X7_is_v54 (l : Launch) (dC : Nat → ClassId) (dI : Nat → Nat → Nat) (cI cJ cZ cM : ClassId) (p0 : Int32) (b_0 : 1 ≤ p0.toInt) (t_0 : p0.toInt ≤ 1)  : k_Mi l yX7_is wsX7_is ({ frames := 1, cells := 0, slots := 0, locals := 40 }) (dC, dI) vwCl (tyy cI cJ cZ cM) [] [.int p0, .int 0, .int 2] 0 0 (fun (u9 : Unit) => []) (fun (r9 : Int32) (u9 : Unit) => r9 = 1) := by
  refine fun sz => k_enter (cc := cX7_is) (maxL := 3) (ret := some (.boolean)) (Qc := fun A => va_Qi (fun (r9 : Int32) (u9 : Unit) => r9 = 1) (fun u => k_B (dC, dI) vwCl (tyy cI cJ cZ cM) A ((fun (u9 : Unit) => []) u)) A) sz (by decide +kernel) rfl (Nat.le_of_ble_eq_true rfl) (fun p e s m args below meth c A ls H locs B hP hD hS hl => ?_)
  obtain ⟨hx, hb, hml, hown, hts, hr, hlk, hnm, hK, hA, hN, hC⟩ := id B
  have hown : s.vm.findClass RX7 = some m.cls := hown
  have hl : lv_has ls 3 [(0, .int p0), (1, .int 0), (2, .int 2)] := hl
  rcases (show p0.toInt = 1 by omega) with c_1
  obtain rfl : p0 = 1 := k_eqL (by decide +kernel) c_1
  refine lv_iload_n hx hb dX7_is_0 rfl (lv_at hl 0 rfl) ?_
  refine lv_iload_n hx hb dX7_is_1 rfl (lv_at hl 1 rfl) ?_
  refine lv_icmp_lt (tgt := 14) hx hb dX7_is_2 (by decide) (fun q9 => absurd q9 (by decide +kernel)) (fun _ => ?_)
  refine lv_iload_n hx hb dX7_is_5 rfl (lv_at hl 0 rfl) ?_
  refine lv_iload_n hx hb dX7_is_6 rfl (lv_at hl 2 rfl) ?_
  refine lv_icmp_gt (tgt := 14) hx hb dX7_is_7 (by decide) (fun q9 => absurd q9 (by decide +kernel)) (fun _ => ?_)
  refine lv_iconst (v := 1) hx hb dX7_is_10 (by decide +kernel) ?_
  refine lv_goto (tgt := 15) hx hb dX7_is_11 (by decide) ?_
  exact k_ri B hP hD hS dX7_is_15 () [] rfl rfl rfl (Nat.le_of_ble_eq_true rfl) (Nat.le_of_ble_eq_true rfl) rfl
set_option maxHeartbeats 4000000 in
set_option maxRecDepth 100000 in
theorem c_X7_turns_v8 (l : Launch) (dC : Nat → ClassId) (dI : Nat → Nat → Nat) (cI cJ cZ cM : ClassId) (p0 : Nat) (p1 : Nat → Nat)   : k_Mi l yX7_turns wsX7_turns ({ frames := 1, cells := 0, slots := 0, locals := 40 }) (dC, dI) vwCl (tyy cI cJ cZ cM) [(p0, .inr (7, oM p1 i7 j7)), ((p1 84), .inl (cI, 12, .inl (upd (upd (upd (upd (upd (upd (upd (upd (upd (upd (fun _ => 0) 0 0) 1 0) 2 0) 3 0) 4 0) 5 0) 6 0) 7 0) 2 0) 3 0))), ((p1 85), .inl (cI, 6, .inl (upd (upd (upd (upd (upd (fun _ => 0) 0 0) 1 0) 2 0) 3 0) 1 0))), ((p1 89), .inl (cI, 6, .inl (upd (upd (upd (upd (upd (fun _ => 0) 0 0) 1 0) 2 0) 3 0) 1 0))), ((p1 18), .inl (cI, 2, .inl (fun _ => 0)))] [.ref p0, .int 1, .int 1, .int 0] 0 0 (fun (u9 : Unit) => [(p0, .inr (7, oM p1 i7 j7)), ((p1 84), .inl (cI, 12, .inl (upd (upd (upd (upd (upd (upd (upd (upd (upd (upd (upd (upd (fun _ => 0) 0 0) 1 0) 2 0) 3 0) 4 0) 5 0) 6 0) 7 0) 2 0) 3 0) 4 0) 5 0))), ((p1 85), .inl (cI, 6, .inl (upd (upd (upd (upd (upd (upd (fun _ => 0) 0 0) 1 0) 2 0) 3 0) 1 0) 2 0))), ((p1 89), .inl (cI, 6, .inl (upd (upd (upd (upd (upd (upd (fun _ => 0) 0 0) 1 0) 2 0) 3 0) 1 0) 2 0))), ((p1 18), .inl (cI, 2, .inl (fun _ => 0)))]) (fun (r9 : Int32) (u9 : Unit) => r9 = 0) := by
  refine fun sz => k_enter (cc := cX7_turns) (maxL := 4) (ret := some (.boolean)) (Qc := fun A => va_Qi (fun (r9 : Int32) (u9 : Unit) => r9 = 0) (fun u => k_B (dC, dI) vwCl (tyy cI cJ cZ cM) A ((fun (u9 : Unit) => [(p0, .inr (7, oM p1 i7 j7)), ((p1 84), .inl (cI, 12, .inl (upd (upd (upd (upd (upd (upd (upd (upd (upd (upd (upd (upd (fun _ => 0) 0 0) 1 0) 2 0) 3 0) 4 0) 5 0) 6 0) 7 0) 2 0) 3 0) 4 0) 5 0))), ((p1 85), .inl (cI, 6, .inl (upd (upd (upd (upd (upd (upd (fun _ => 0) 0 0) 1 0) 2 0) 3 0) 1 0) 2 0))), ((p1 89), .inl (cI, 6, .inl (upd (upd (upd (upd (upd (upd (fun _ => 0) 0 0) 1 0) 2 0) 3 0) 1 0) 2 0))), ((p1 18), .inl (cI, 2, .inl (fun _ => 0)))]) u)) A) sz (by decide +kernel) rfl (Nat.le_of_ble_eq_true rfl) (fun p e s m args below meth c A ls H locs B hP hD hS hl => ?_)
  obtain ⟨hx, hb, hml, hown, hts, hr, hlk, hnm, hK, hA, hN, hC⟩ := id B
  have hown : s.vm.findClass RX7 = some m.cls := hown
  have hl : lv_has ls 4 [(0, .ref p0), (1, .int 1), (2, .int 1), (3, .int 0)] := hl
  have w_0 : (Cond.fieldLink RX7 267 "WishSeaModel" "ownHad" "[I").before args s = true := hts _ (List.mem_of_getElem? (i := 1) rfl)
  have w_1 : (Cond.fieldLink RX7 270 "WishSeaModel" "bothSea" "[I").before args s = true := hts _ (List.mem_of_getElem? (i := 2) rfl)
  have w_2 : (Cond.fieldLink RX7 282 "WishSeaModel" "saidAhead" "[I").before args s = true := hts _ (List.mem_of_getElem? (i := 3) rfl)
  have w_3 : (Cond.fieldLink RX7 66 "WishSeaModel" "wishes" "[I").before args s = true := hts _ (List.mem_of_getElem? (i := 4) rfl)
  have w_4 : (Cond.fieldLink RX7 51 "WishSeaModel" "bank" "I").before args s = true := hts _ (List.mem_of_getElem? (i := 5) rfl)
  have hinX7 : ∀ w ∈ u_ws RX7 TX7 92, w ∈ wsX7_turns := fun _ h => List.mem_cons_of_mem _ (List.mem_append_right _ h)
  refine lv_aload_n hx hb dX7_turns_0 rfl (lv_at hl 0 rfl) ?_
  refine k_get (D := (dC, dI)) (ci := 7) (v := .ref (p1 84)) (C := RX7) (T := TX7) (N := 92) hx hb hts hinX7 hown hK hP 0 rfl rfl 84 (by decide) w_0 rfl rfl dX7_turns_1 ?_
  refine lv_iconst (v := 2) hx hb dX7_turns_4 (by decide +kernel) ?_
  refine lv_iload_n hx hb dX7_turns_5 rfl (lv_at hl 1 rfl) ?_
  refine lv_imul hx hb dX7_turns_6 ?_
  refine k_int (v := 2) (by decide +kernel) ?_
  refine lv_iconst (v := 2) hx hb dX7_turns_7 (by decide +kernel) ?_
  refine lv_iadd hx hb dX7_turns_8 ?_
  refine k_int (v := 4) (by decide +kernel) ?_
  refine lv_aload_n hx hb dX7_turns_9 rfl (lv_at hl 0 rfl) ?_
  refine k_get (D := (dC, dI)) (ci := 7) (v := .ref (p1 84)) (C := RX7) (T := TX7) (N := 92) hx hb hts hinX7 hown hK hP 0 rfl rfl 84 (by decide) w_0 rfl rfl dX7_turns_10 ?_
  refine lv_iconst (v := 2) hx hb dX7_turns_13 (by decide +kernel) ?_
  refine lv_iload_n hx hb dX7_turns_14 rfl (lv_at hl 1 rfl) ?_
  refine lv_imul hx hb dX7_turns_15 ?_
  refine k_int (v := 2) (by decide +kernel) ?_
  refine k_iald (v := 0) hx hb hK hP 1 0 2 rfl rfl rfl (Nat.le_of_ble_eq_true rfl) (Nat.le_of_ble_eq_true rfl) rfl dX7_turns_16 ?_
  refine k_iast (g := (upd (upd (upd (upd (upd (upd (upd (upd (upd (upd (upd (fun _ => 0) 0 0) 1 0) 2 0) 3 0) 4 0) 5 0) 6 0) 7 0) 2 0) 3 0) 4 0)) (ws' := [(p0, .inr (7, oM p1 i7 j7)), ((p1 84), .inl (cI, 12, .inl (upd (upd (upd (upd (upd (upd (upd (upd (upd (upd (upd (fun _ => 0) 0 0) 1 0) 2 0) 3 0) 4 0) 5 0) 6 0) 7 0) 2 0) 3 0) 4 0))), ((p1 85), .inl (cI, 6, .inl (upd (upd (upd (upd (upd (fun _ => 0) 0 0) 1 0) 2 0) 3 0) 1 0))), ((p1 89), .inl (cI, 6, .inl (upd (upd (upd (upd (upd (fun _ => 0) 0 0) 1 0) 2 0) 3 0) 1 0))), ((p1 18), .inl (cI, 2, .inl (fun _ => 0)))]) hx hb hK hP hD hS 1 0 4 rfl rfl rfl (Nat.le_of_ble_eq_true rfl) (Nat.le_of_ble_eq_true rfl) rfl rfl dX7_turns_17 (fun H locs hP hD hS => ?_)
  refine lv_aload_n hx hb dX7_turns_18 rfl (lv_at hl 0 rfl) ?_
  refine k_get (D := (dC, dI)) (ci := 7) (v := .ref (p1 84)) (C := RX7) (T := TX7) (N := 92) hx hb hts hinX7 hown hK hP 0 rfl rfl 84 (by decide) w_0 rfl rfl dX7_turns_19 ?_
  refine lv_iconst (v := 2) hx hb dX7_turns_22 (by decide +kernel) ?_
  refine lv_iload_n hx hb dX7_turns_23 rfl (lv_at hl 1 rfl) ?_
  refine lv_imul hx hb dX7_turns_24 ?_
  refine k_int (v := 2) (by decide +kernel) ?_
  refine lv_iconst (v := 3) hx hb dX7_turns_25 (by decide +kernel) ?_
  refine lv_iadd hx hb dX7_turns_26 ?_
  refine k_int (v := 5) (by decide +kernel) ?_
  refine lv_aload_n hx hb dX7_turns_27 rfl (lv_at hl 0 rfl) ?_
  refine k_get (D := (dC, dI)) (ci := 7) (v := .ref (p1 84)) (C := RX7) (T := TX7) (N := 92) hx hb hts hinX7 hown hK hP 0 rfl rfl 84 (by decide) w_0 rfl rfl dX7_turns_28 ?_
  refine lv_iconst (v := 2) hx hb dX7_turns_31 (by decide +kernel) ?_
  refine lv_iload_n hx hb dX7_turns_32 rfl (lv_at hl 1 rfl) ?_
  refine lv_imul hx hb dX7_turns_33 ?_
  refine k_int (v := 2) (by decide +kernel) ?_
  refine lv_iconst (v := 1) hx hb dX7_turns_34 (by decide +kernel) ?_
  refine lv_iadd hx hb dX7_turns_35 ?_
  refine k_int (v := 3) (by decide +kernel) ?_
  refine k_iald (v := 0) hx hb hK hP 1 0 3 rfl rfl rfl (Nat.le_of_ble_eq_true rfl) (Nat.le_of_ble_eq_true rfl) rfl dX7_turns_36 ?_
  refine k_iast (g := (upd (upd (upd (upd (upd (upd (upd (upd (upd (upd (upd (upd (fun _ => 0) 0 0) 1 0) 2 0) 3 0) 4 0) 5 0) 6 0) 7 0) 2 0) 3 0) 4 0) 5 0)) (ws' := [(p0, .inr (7, oM p1 i7 j7)), ((p1 84), .inl (cI, 12, .inl (upd (upd (upd (upd (upd (upd (upd (upd (upd (upd (upd (upd (fun _ => 0) 0 0) 1 0) 2 0) 3 0) 4 0) 5 0) 6 0) 7 0) 2 0) 3 0) 4 0) 5 0))), ((p1 85), .inl (cI, 6, .inl (upd (upd (upd (upd (upd (fun _ => 0) 0 0) 1 0) 2 0) 3 0) 1 0))), ((p1 89), .inl (cI, 6, .inl (upd (upd (upd (upd (upd (fun _ => 0) 0 0) 1 0) 2 0) 3 0) 1 0))), ((p1 18), .inl (cI, 2, .inl (fun _ => 0)))]) hx hb hK hP hD hS 1 0 5 rfl rfl rfl (Nat.le_of_ble_eq_true rfl) (Nat.le_of_ble_eq_true rfl) rfl rfl dX7_turns_37 (fun H locs hP hD hS => ?_)
  refine lv_aload_n hx hb dX7_turns_38 rfl (lv_at hl 0 rfl) ?_
  refine k_get (D := (dC, dI)) (ci := 7) (v := .ref (p1 85)) (C := RX7) (T := TX7) (N := 92) hx hb hts hinX7 hown hK hP 0 rfl rfl 85 (by decide) w_1 rfl rfl dX7_turns_39 ?_
  refine lv_iload_n hx hb dX7_turns_42 rfl (lv_at hl 1 rfl) ?_
  refine lv_iconst (v := 1) hx hb dX7_turns_43 (by decide +kernel) ?_
  refine lv_iadd hx hb dX7_turns_44 ?_
  refine k_int (v := 2) (by decide +kernel) ?_
  refine lv_aload_n hx hb dX7_turns_45 rfl (lv_at hl 0 rfl) ?_
  refine k_get (D := (dC, dI)) (ci := 7) (v := .ref (p1 85)) (C := RX7) (T := TX7) (N := 92) hx hb hts hinX7 hown hK hP 0 rfl rfl 85 (by decide) w_1 rfl rfl dX7_turns_46 ?_
  refine lv_iload_n hx hb dX7_turns_49 rfl (lv_at hl 1 rfl) ?_
  refine k_iald (v := 0) hx hb hK hP 2 0 1 rfl rfl rfl (Nat.le_of_ble_eq_true rfl) (Nat.le_of_ble_eq_true rfl) rfl dX7_turns_50 ?_
  refine k_iast (g := (upd (upd (upd (upd (upd (upd (fun _ => 0) 0 0) 1 0) 2 0) 3 0) 1 0) 2 0)) (ws' := [(p0, .inr (7, oM p1 i7 j7)), ((p1 84), .inl (cI, 12, .inl (upd (upd (upd (upd (upd (upd (upd (upd (upd (upd (upd (upd (fun _ => 0) 0 0) 1 0) 2 0) 3 0) 4 0) 5 0) 6 0) 7 0) 2 0) 3 0) 4 0) 5 0))), ((p1 85), .inl (cI, 6, .inl (upd (upd (upd (upd (upd (upd (fun _ => 0) 0 0) 1 0) 2 0) 3 0) 1 0) 2 0))), ((p1 89), .inl (cI, 6, .inl (upd (upd (upd (upd (upd (fun _ => 0) 0 0) 1 0) 2 0) 3 0) 1 0))), ((p1 18), .inl (cI, 2, .inl (fun _ => 0)))]) hx hb hK hP hD hS 2 0 2 rfl rfl rfl (Nat.le_of_ble_eq_true rfl) (Nat.le_of_ble_eq_true rfl) rfl rfl dX7_turns_51 (fun H locs hP hD hS => ?_)
  refine lv_aload_n hx hb dX7_turns_52 rfl (lv_at hl 0 rfl) ?_
  refine k_get (D := (dC, dI)) (ci := 7) (v := .ref (p1 89)) (C := RX7) (T := TX7) (N := 92) hx hb hts hinX7 hown hK hP 0 rfl rfl 89 (by decide) w_2 rfl rfl dX7_turns_53 ?_
  refine lv_iload_n hx hb dX7_turns_56 rfl (lv_at hl 1 rfl) ?_
  refine lv_iconst (v := 1) hx hb dX7_turns_57 (by decide +kernel) ?_
  refine lv_iadd hx hb dX7_turns_58 ?_
  refine k_int (v := 2) (by decide +kernel) ?_
  refine lv_aload_n hx hb dX7_turns_59 rfl (lv_at hl 0 rfl) ?_
  refine k_get (D := (dC, dI)) (ci := 7) (v := .ref (p1 89)) (C := RX7) (T := TX7) (N := 92) hx hb hts hinX7 hown hK hP 0 rfl rfl 89 (by decide) w_2 rfl rfl dX7_turns_60 ?_
  refine lv_iload_n hx hb dX7_turns_63 rfl (lv_at hl 1 rfl) ?_
  refine k_iald (v := 0) hx hb hK hP 3 0 1 rfl rfl rfl (Nat.le_of_ble_eq_true rfl) (Nat.le_of_ble_eq_true rfl) rfl dX7_turns_64 ?_
  refine k_iast (g := (upd (upd (upd (upd (upd (upd (fun _ => 0) 0 0) 1 0) 2 0) 3 0) 1 0) 2 0)) (ws' := [(p0, .inr (7, oM p1 i7 j7)), ((p1 84), .inl (cI, 12, .inl (upd (upd (upd (upd (upd (upd (upd (upd (upd (upd (upd (upd (fun _ => 0) 0 0) 1 0) 2 0) 3 0) 4 0) 5 0) 6 0) 7 0) 2 0) 3 0) 4 0) 5 0))), ((p1 85), .inl (cI, 6, .inl (upd (upd (upd (upd (upd (upd (fun _ => 0) 0 0) 1 0) 2 0) 3 0) 1 0) 2 0))), ((p1 89), .inl (cI, 6, .inl (upd (upd (upd (upd (upd (upd (fun _ => 0) 0 0) 1 0) 2 0) 3 0) 1 0) 2 0))), ((p1 18), .inl (cI, 2, .inl (fun _ => 0)))]) hx hb hK hP hD hS 3 0 2 rfl rfl rfl (Nat.le_of_ble_eq_true rfl) (Nat.le_of_ble_eq_true rfl) rfl rfl dX7_turns_65 (fun H locs hP hD hS => ?_)
  refine lv_iload_n hx hb dX7_turns_66 rfl (lv_at hl 3 rfl) ?_
  refine lv_aload_n hx hb dX7_turns_67 rfl (lv_at hl 0 rfl) ?_
  refine k_get (D := (dC, dI)) (ci := 7) (v := .ref (p1 18)) (C := RX7) (T := TX7) (N := 92) hx hb hts hinX7 hown hK hP 0 rfl rfl 18 (by decide) w_3 rfl rfl dX7_turns_68 ?_
  refine lv_aload_n hx hb dX7_turns_71 rfl (lv_at hl 0 rfl) ?_
  refine k_get (D := (dC, dI)) (ci := 7) (v := .int 0) (C := RX7) (T := TX7) (N := 92) hx hb hts hinX7 hown hK hP 0 rfl rfl 13 (by decide) w_4 rfl rfl dX7_turns_72 ?_
  refine k_iald (v := 0) hx hb hK hP 4 0 0 rfl rfl rfl (Nat.le_of_ble_eq_true rfl) (Nat.le_of_ble_eq_true rfl) rfl dX7_turns_75 ?_
  refine lv_icmp_ne (tgt := 81) hx hb dX7_turns_76 (by decide) (fun q9 => absurd q9 (by decide +kernel)) (fun _ => ?_)
  refine lv_iconst (v := 0) hx hb dX7_turns_79 (by decide +kernel) ?_
  exact k_ri B hP hD hS dX7_turns_80 () [0, 1, 2, 3, 4] rfl rfl rfl (Nat.le_of_ble_eq_true rfl) (Nat.le_of_ble_eq_true rfl) rfl
set_option maxHeartbeats 4000000 in
set_option maxRecDepth 100000 in
theorem c_X7_turns_v9 (l : Launch) (dC : Nat → ClassId) (dI : Nat → Nat → Nat) (cI cJ cZ cM : ClassId) (p0 : Nat) (p1 : Nat → Nat)   : k_Mi l yX7_turns wsX7_turns ({ frames := 1, cells := 0, slots := 0, locals := 40 }) (dC, dI) vwCl (tyy cI cJ cZ cM) [(p0, .inr (7, oM p1 i7 j7)), ((p1 84), .inl (cI, 12, .inl (upd (upd (upd (upd (upd (upd (upd (upd (upd (upd (upd (upd (fun _ => 0) 0 0) 1 0) 2 0) 3 0) 4 0) 5 0) 6 0) 7 0) 2 0) 3 0) 4 0) 5 0))), ((p1 85), .inl (cI, 6, .inl (upd (upd (upd (upd (upd (upd (fun _ => 0) 0 0) 1 0) 2 0) 3 0) 1 0) 2 0))), ((p1 89), .inl (cI, 6, .inl (upd (upd (upd (upd (upd (upd (fun _ => 0) 0 0) 1 0) 2 0) 3 0) 1 0) 2 0))), ((p1 18), .inl (cI, 2, .inl (fun _ => 0)))] [.ref p0, .int 2, .int 0, .int 0] 0 0 (fun (u9 : Unit) => [(p0, .inr (7, oM p1 i7 j7)), ((p1 84), .inl (cI, 12, .inl (upd (upd (upd (upd (upd (upd (upd (upd (upd (upd (upd (upd (upd (upd (fun _ => 0) 0 0) 1 0) 2 0) 3 0) 4 0) 5 0) 6 0) 7 0) 2 0) 3 0) 4 0) 5 0) 6 0) 7 0))), ((p1 85), .inl (cI, 6, .inl (upd (upd (upd (upd (upd (upd (upd (fun _ => 0) 0 0) 1 0) 2 0) 3 0) 1 0) 2 0) 3 0))), ((p1 89), .inl (cI, 6, .inl (upd (upd (upd (upd (upd (upd (upd (fun _ => 0) 0 0) 1 0) 2 0) 3 0) 1 0) 2 0) 3 0))), ((p1 18), .inl (cI, 2, .inl (fun _ => 0)))]) (fun (r9 : Int32) (u9 : Unit) => r9 = 0) := by
  refine fun sz => k_enter (cc := cX7_turns) (maxL := 4) (ret := some (.boolean)) (Qc := fun A => va_Qi (fun (r9 : Int32) (u9 : Unit) => r9 = 0) (fun u => k_B (dC, dI) vwCl (tyy cI cJ cZ cM) A ((fun (u9 : Unit) => [(p0, .inr (7, oM p1 i7 j7)), ((p1 84), .inl (cI, 12, .inl (upd (upd (upd (upd (upd (upd (upd (upd (upd (upd (upd (upd (upd (upd (fun _ => 0) 0 0) 1 0) 2 0) 3 0) 4 0) 5 0) 6 0) 7 0) 2 0) 3 0) 4 0) 5 0) 6 0) 7 0))), ((p1 85), .inl (cI, 6, .inl (upd (upd (upd (upd (upd (upd (upd (fun _ => 0) 0 0) 1 0) 2 0) 3 0) 1 0) 2 0) 3 0))), ((p1 89), .inl (cI, 6, .inl (upd (upd (upd (upd (upd (upd (upd (fun _ => 0) 0 0) 1 0) 2 0) 3 0) 1 0) 2 0) 3 0))), ((p1 18), .inl (cI, 2, .inl (fun _ => 0)))]) u)) A) sz (by decide +kernel) rfl (Nat.le_of_ble_eq_true rfl) (fun p e s m args below meth c A ls H locs B hP hD hS hl => ?_)
  obtain ⟨hx, hb, hml, hown, hts, hr, hlk, hnm, hK, hA, hN, hC⟩ := id B
  have hown : s.vm.findClass RX7 = some m.cls := hown
  have hl : lv_has ls 4 [(0, .ref p0), (1, .int 2), (2, .int 0), (3, .int 0)] := hl
  have w_0 : (Cond.fieldLink RX7 267 "WishSeaModel" "ownHad" "[I").before args s = true := hts _ (List.mem_of_getElem? (i := 1) rfl)
  have w_1 : (Cond.fieldLink RX7 270 "WishSeaModel" "bothSea" "[I").before args s = true := hts _ (List.mem_of_getElem? (i := 2) rfl)
  have w_2 : (Cond.fieldLink RX7 282 "WishSeaModel" "saidAhead" "[I").before args s = true := hts _ (List.mem_of_getElem? (i := 3) rfl)
  have w_3 : (Cond.fieldLink RX7 66 "WishSeaModel" "wishes" "[I").before args s = true := hts _ (List.mem_of_getElem? (i := 4) rfl)
  have w_4 : (Cond.fieldLink RX7 51 "WishSeaModel" "bank" "I").before args s = true := hts _ (List.mem_of_getElem? (i := 5) rfl)
  have hinX7 : ∀ w ∈ u_ws RX7 TX7 92, w ∈ wsX7_turns := fun _ h => List.mem_cons_of_mem _ (List.mem_append_right _ h)
  refine lv_aload_n hx hb dX7_turns_0 rfl (lv_at hl 0 rfl) ?_
  refine k_get (D := (dC, dI)) (ci := 7) (v := .ref (p1 84)) (C := RX7) (T := TX7) (N := 92) hx hb hts hinX7 hown hK hP 0 rfl rfl 84 (by decide) w_0 rfl rfl dX7_turns_1 ?_
  refine lv_iconst (v := 2) hx hb dX7_turns_4 (by decide +kernel) ?_
  refine lv_iload_n hx hb dX7_turns_5 rfl (lv_at hl 1 rfl) ?_
  refine lv_imul hx hb dX7_turns_6 ?_
  refine k_int (v := 4) (by decide +kernel) ?_
  refine lv_iconst (v := 2) hx hb dX7_turns_7 (by decide +kernel) ?_
  refine lv_iadd hx hb dX7_turns_8 ?_
  refine k_int (v := 6) (by decide +kernel) ?_
  refine lv_aload_n hx hb dX7_turns_9 rfl (lv_at hl 0 rfl) ?_
  refine k_get (D := (dC, dI)) (ci := 7) (v := .ref (p1 84)) (C := RX7) (T := TX7) (N := 92) hx hb hts hinX7 hown hK hP 0 rfl rfl 84 (by decide) w_0 rfl rfl dX7_turns_10 ?_
  refine lv_iconst (v := 2) hx hb dX7_turns_13 (by decide +kernel) ?_
  refine lv_iload_n hx hb dX7_turns_14 rfl (lv_at hl 1 rfl) ?_
  refine lv_imul hx hb dX7_turns_15 ?_
  refine k_int (v := 4) (by decide +kernel) ?_
  refine k_iald (v := 0) hx hb hK hP 1 0 4 rfl rfl rfl (Nat.le_of_ble_eq_true rfl) (Nat.le_of_ble_eq_true rfl) rfl dX7_turns_16 ?_
  refine k_iast (g := (upd (upd (upd (upd (upd (upd (upd (upd (upd (upd (upd (upd (upd (fun _ => 0) 0 0) 1 0) 2 0) 3 0) 4 0) 5 0) 6 0) 7 0) 2 0) 3 0) 4 0) 5 0) 6 0)) (ws' := [(p0, .inr (7, oM p1 i7 j7)), ((p1 84), .inl (cI, 12, .inl (upd (upd (upd (upd (upd (upd (upd (upd (upd (upd (upd (upd (upd (fun _ => 0) 0 0) 1 0) 2 0) 3 0) 4 0) 5 0) 6 0) 7 0) 2 0) 3 0) 4 0) 5 0) 6 0))), ((p1 85), .inl (cI, 6, .inl (upd (upd (upd (upd (upd (upd (fun _ => 0) 0 0) 1 0) 2 0) 3 0) 1 0) 2 0))), ((p1 89), .inl (cI, 6, .inl (upd (upd (upd (upd (upd (upd (fun _ => 0) 0 0) 1 0) 2 0) 3 0) 1 0) 2 0))), ((p1 18), .inl (cI, 2, .inl (fun _ => 0)))]) hx hb hK hP hD hS 1 0 6 rfl rfl rfl (Nat.le_of_ble_eq_true rfl) (Nat.le_of_ble_eq_true rfl) rfl rfl dX7_turns_17 (fun H locs hP hD hS => ?_)
  refine lv_aload_n hx hb dX7_turns_18 rfl (lv_at hl 0 rfl) ?_
  refine k_get (D := (dC, dI)) (ci := 7) (v := .ref (p1 84)) (C := RX7) (T := TX7) (N := 92) hx hb hts hinX7 hown hK hP 0 rfl rfl 84 (by decide) w_0 rfl rfl dX7_turns_19 ?_
  refine lv_iconst (v := 2) hx hb dX7_turns_22 (by decide +kernel) ?_
  refine lv_iload_n hx hb dX7_turns_23 rfl (lv_at hl 1 rfl) ?_
  refine lv_imul hx hb dX7_turns_24 ?_
  refine k_int (v := 4) (by decide +kernel) ?_
  refine lv_iconst (v := 3) hx hb dX7_turns_25 (by decide +kernel) ?_
  refine lv_iadd hx hb dX7_turns_26 ?_
  refine k_int (v := 7) (by decide +kernel) ?_
  refine lv_aload_n hx hb dX7_turns_27 rfl (lv_at hl 0 rfl) ?_
  refine k_get (D := (dC, dI)) (ci := 7) (v := .ref (p1 84)) (C := RX7) (T := TX7) (N := 92) hx hb hts hinX7 hown hK hP 0 rfl rfl 84 (by decide) w_0 rfl rfl dX7_turns_28 ?_
  refine lv_iconst (v := 2) hx hb dX7_turns_31 (by decide +kernel) ?_
  refine lv_iload_n hx hb dX7_turns_32 rfl (lv_at hl 1 rfl) ?_
  refine lv_imul hx hb dX7_turns_33 ?_
  refine k_int (v := 4) (by decide +kernel) ?_
  refine lv_iconst (v := 1) hx hb dX7_turns_34 (by decide +kernel) ?_
  refine lv_iadd hx hb dX7_turns_35 ?_
  refine k_int (v := 5) (by decide +kernel) ?_
  refine k_iald (v := 0) hx hb hK hP 1 0 5 rfl rfl rfl (Nat.le_of_ble_eq_true rfl) (Nat.le_of_ble_eq_true rfl) rfl dX7_turns_36 ?_
  refine k_iast (g := (upd (upd (upd (upd (upd (upd (upd (upd (upd (upd (upd (upd (upd (upd (fun _ => 0) 0 0) 1 0) 2 0) 3 0) 4 0) 5 0) 6 0) 7 0) 2 0) 3 0) 4 0) 5 0) 6 0) 7 0)) (ws' := [(p0, .inr (7, oM p1 i7 j7)), ((p1 84), .inl (cI, 12, .inl (upd (upd (upd (upd (upd (upd (upd (upd (upd (upd (upd (upd (upd (upd (fun _ => 0) 0 0) 1 0) 2 0) 3 0) 4 0) 5 0) 6 0) 7 0) 2 0) 3 0) 4 0) 5 0) 6 0) 7 0))), ((p1 85), .inl (cI, 6, .inl (upd (upd (upd (upd (upd (upd (fun _ => 0) 0 0) 1 0) 2 0) 3 0) 1 0) 2 0))), ((p1 89), .inl (cI, 6, .inl (upd (upd (upd (upd (upd (upd (fun _ => 0) 0 0) 1 0) 2 0) 3 0) 1 0) 2 0))), ((p1 18), .inl (cI, 2, .inl (fun _ => 0)))]) hx hb hK hP hD hS 1 0 7 rfl rfl rfl (Nat.le_of_ble_eq_true rfl) (Nat.le_of_ble_eq_true rfl) rfl rfl dX7_turns_37 (fun H locs hP hD hS => ?_)
  refine lv_aload_n hx hb dX7_turns_38 rfl (lv_at hl 0 rfl) ?_
  refine k_get (D := (dC, dI)) (ci := 7) (v := .ref (p1 85)) (C := RX7) (T := TX7) (N := 92) hx hb hts hinX7 hown hK hP 0 rfl rfl 85 (by decide) w_1 rfl rfl dX7_turns_39 ?_
  refine lv_iload_n hx hb dX7_turns_42 rfl (lv_at hl 1 rfl) ?_
  refine lv_iconst (v := 1) hx hb dX7_turns_43 (by decide +kernel) ?_
  refine lv_iadd hx hb dX7_turns_44 ?_
  refine k_int (v := 3) (by decide +kernel) ?_
  refine lv_aload_n hx hb dX7_turns_45 rfl (lv_at hl 0 rfl) ?_
  refine k_get (D := (dC, dI)) (ci := 7) (v := .ref (p1 85)) (C := RX7) (T := TX7) (N := 92) hx hb hts hinX7 hown hK hP 0 rfl rfl 85 (by decide) w_1 rfl rfl dX7_turns_46 ?_
  refine lv_iload_n hx hb dX7_turns_49 rfl (lv_at hl 1 rfl) ?_
  refine k_iald (v := 0) hx hb hK hP 2 0 2 rfl rfl rfl (Nat.le_of_ble_eq_true rfl) (Nat.le_of_ble_eq_true rfl) rfl dX7_turns_50 ?_
  refine k_iast (g := (upd (upd (upd (upd (upd (upd (upd (fun _ => 0) 0 0) 1 0) 2 0) 3 0) 1 0) 2 0) 3 0)) (ws' := [(p0, .inr (7, oM p1 i7 j7)), ((p1 84), .inl (cI, 12, .inl (upd (upd (upd (upd (upd (upd (upd (upd (upd (upd (upd (upd (upd (upd (fun _ => 0) 0 0) 1 0) 2 0) 3 0) 4 0) 5 0) 6 0) 7 0) 2 0) 3 0) 4 0) 5 0) 6 0) 7 0))), ((p1 85), .inl (cI, 6, .inl (upd (upd (upd (upd (upd (upd (upd (fun _ => 0) 0 0) 1 0) 2 0) 3 0) 1 0) 2 0) 3 0))), ((p1 89), .inl (cI, 6, .inl (upd (upd (upd (upd (upd (upd (fun _ => 0) 0 0) 1 0) 2 0) 3 0) 1 0) 2 0))), ((p1 18), .inl (cI, 2, .inl (fun _ => 0)))]) hx hb hK hP hD hS 2 0 3 rfl rfl rfl (Nat.le_of_ble_eq_true rfl) (Nat.le_of_ble_eq_true rfl) rfl rfl dX7_turns_51 (fun H locs hP hD hS => ?_)
  refine lv_aload_n hx hb dX7_turns_52 rfl (lv_at hl 0 rfl) ?_
  refine k_get (D := (dC, dI)) (ci := 7) (v := .ref (p1 89)) (C := RX7) (T := TX7) (N := 92) hx hb hts hinX7 hown hK hP 0 rfl rfl 89 (by decide) w_2 rfl rfl dX7_turns_53 ?_
  refine lv_iload_n hx hb dX7_turns_56 rfl (lv_at hl 1 rfl) ?_
  refine lv_iconst (v := 1) hx hb dX7_turns_57 (by decide +kernel) ?_
  refine lv_iadd hx hb dX7_turns_58 ?_
  refine k_int (v := 3) (by decide +kernel) ?_
  refine lv_aload_n hx hb dX7_turns_59 rfl (lv_at hl 0 rfl) ?_
  refine k_get (D := (dC, dI)) (ci := 7) (v := .ref (p1 89)) (C := RX7) (T := TX7) (N := 92) hx hb hts hinX7 hown hK hP 0 rfl rfl 89 (by decide) w_2 rfl rfl dX7_turns_60 ?_
  refine lv_iload_n hx hb dX7_turns_63 rfl (lv_at hl 1 rfl) ?_
  refine k_iald (v := 0) hx hb hK hP 3 0 2 rfl rfl rfl (Nat.le_of_ble_eq_true rfl) (Nat.le_of_ble_eq_true rfl) rfl dX7_turns_64 ?_
  refine k_iast (g := (upd (upd (upd (upd (upd (upd (upd (fun _ => 0) 0 0) 1 0) 2 0) 3 0) 1 0) 2 0) 3 0)) (ws' := [(p0, .inr (7, oM p1 i7 j7)), ((p1 84), .inl (cI, 12, .inl (upd (upd (upd (upd (upd (upd (upd (upd (upd (upd (upd (upd (upd (upd (fun _ => 0) 0 0) 1 0) 2 0) 3 0) 4 0) 5 0) 6 0) 7 0) 2 0) 3 0) 4 0) 5 0) 6 0) 7 0))), ((p1 85), .inl (cI, 6, .inl (upd (upd (upd (upd (upd (upd (upd (fun _ => 0) 0 0) 1 0) 2 0) 3 0) 1 0) 2 0) 3 0))), ((p1 89), .inl (cI, 6, .inl (upd (upd (upd (upd (upd (upd (upd (fun _ => 0) 0 0) 1 0) 2 0) 3 0) 1 0) 2 0) 3 0))), ((p1 18), .inl (cI, 2, .inl (fun _ => 0)))]) hx hb hK hP hD hS 3 0 3 rfl rfl rfl (Nat.le_of_ble_eq_true rfl) (Nat.le_of_ble_eq_true rfl) rfl rfl dX7_turns_65 (fun H locs hP hD hS => ?_)
  refine lv_iload_n hx hb dX7_turns_66 rfl (lv_at hl 3 rfl) ?_
  refine lv_aload_n hx hb dX7_turns_67 rfl (lv_at hl 0 rfl) ?_
  refine k_get (D := (dC, dI)) (ci := 7) (v := .ref (p1 18)) (C := RX7) (T := TX7) (N := 92) hx hb hts hinX7 hown hK hP 0 rfl rfl 18 (by decide) w_3 rfl rfl dX7_turns_68 ?_
  refine lv_aload_n hx hb dX7_turns_71 rfl (lv_at hl 0 rfl) ?_
  refine k_get (D := (dC, dI)) (ci := 7) (v := .int 0) (C := RX7) (T := TX7) (N := 92) hx hb hts hinX7 hown hK hP 0 rfl rfl 13 (by decide) w_4 rfl rfl dX7_turns_72 ?_
  refine k_iald (v := 0) hx hb hK hP 4 0 0 rfl rfl rfl (Nat.le_of_ble_eq_true rfl) (Nat.le_of_ble_eq_true rfl) rfl dX7_turns_75 ?_
  refine lv_icmp_ne (tgt := 81) hx hb dX7_turns_76 (by decide) (fun q9 => absurd q9 (by decide +kernel)) (fun _ => ?_)
  refine lv_iconst (v := 0) hx hb dX7_turns_79 (by decide +kernel) ?_
  exact k_ri B hP hD hS dX7_turns_80 () [0, 1, 2, 3, 4] rfl rfl rfl (Nat.le_of_ble_eq_true rfl) (Nat.le_of_ble_eq_true rfl) rfl
set_option maxHeartbeats 4000000 in
set_option maxRecDepth 100000 in
theorem c_X7_offers_v7 (l : Launch) (dC : Nat → ClassId) (dI : Nat → Nat → Nat) (cI cJ cZ cM : ClassId) (p0 : Nat) (p1 : Nat → Nat)   : k_Mv l yX7_offers wsX7_offers ({ frames := 1, cells := 0, slots := 0, locals := 40 }) (dC, dI) vwCl (tyy cI cJ cZ cM) [(p0, .inr (7, oM p1 i7 j7)), ((p1 88), .inl (cI, 5, .inl (upd (upd (upd (upd (upd (upd (upd (upd (fun _ => 0) 0 (-1)) 1 (-1)) 2 (-1)) 2 0) 1 0) 0 0) 1 (-1)) 2 (-1)))), ((p1 87), .inl (cI, 5, .inl (upd (upd (upd (fun _ => 0) 2 0) 1 0) 0 0)))] [.ref p0, .int 2, .int 0, .int 0, .int 0] 0 0 (fun (u9 : Unit) => [(p0, .inr (7, oM p1 i7 j7)), ((p1 88), .inl (cI, 5, .inl (upd (upd (upd (upd (upd (upd (upd (upd (upd (fun _ => 0) 0 (-1)) 1 (-1)) 2 (-1)) 2 0) 1 0) 0 0) 1 (-1)) 2 (-1)) 2 0))), ((p1 87), .inl (cI, 5, .inl (upd (upd (upd (upd (fun _ => 0) 2 0) 1 0) 0 0) 2 0)))]) (fun (u9 : Unit) => True) := by
  refine fun sz => k_enter (cc := cX7_offers) (maxL := 6) (ret := none) (Qc := fun A => va_Qv (fun (u9 : Unit) => True) (fun u => k_B (dC, dI) vwCl (tyy cI cJ cZ cM) A ((fun (u9 : Unit) => [(p0, .inr (7, oM p1 i7 j7)), ((p1 88), .inl (cI, 5, .inl (upd (upd (upd (upd (upd (upd (upd (upd (upd (fun _ => 0) 0 (-1)) 1 (-1)) 2 (-1)) 2 0) 1 0) 0 0) 1 (-1)) 2 (-1)) 2 0))), ((p1 87), .inl (cI, 5, .inl (upd (upd (upd (upd (fun _ => 0) 2 0) 1 0) 0 0) 2 0)))]) u)) A) sz (by decide +kernel) rfl (Nat.le_of_ble_eq_true rfl) (fun p e s m args below meth c A ls H locs B hP hD hS hl => ?_)
  obtain ⟨hx, hb, hml, hown, hts, hr, hlk, hnm, hK, hA, hN, hC⟩ := id B
  have hown : s.vm.findClass RX7 = some m.cls := hown
  have hl : lv_has ls 6 [(0, .ref p0), (1, .int 2), (2, .int 0), (3, .int 0), (4, .int 0)] := hl
  have w_0 : (Cond.fieldLink RX7 279 "WishSeaModel" "bestSaid" "[I").before args s = true := hts _ (List.mem_of_getElem? (i := 1) rfl)
  have w_1 : (Cond.fieldLink RX7 276 "WishSeaModel" "bestOf" "[I").before args s = true := hts _ (List.mem_of_getElem? (i := 2) rfl)
  have hinX7 : ∀ w ∈ u_ws RX7 TX7 92, w ∈ wsX7_offers := fun _ h => List.mem_cons_of_mem _ (List.mem_append_right _ h)
  refine lv_aload_n hx hb dX7_offers_0 rfl (lv_at hl 0 rfl) ?_
  refine k_get (D := (dC, dI)) (ci := 7) (v := .ref (p1 88)) (C := RX7) (T := TX7) (N := 92) hx hb hts hinX7 hown hK hP 0 rfl rfl 88 (by decide) w_0 rfl rfl dX7_offers_1 ?_
  refine lv_iload_n hx hb dX7_offers_4 rfl (lv_at hl 1 rfl) ?_
  refine k_iald (v := (-1)) hx hb hK hP 1 0 2 rfl rfl rfl (Nat.le_of_ble_eq_true rfl) (Nat.le_of_ble_eq_true rfl) rfl dX7_offers_5 ?_
  refine lv_iconst (v := (-1)) hx hb dX7_offers_6 (by decide +kernel) ?_
  refine lv_icmp_eq (tgt := 37) hx hb dX7_offers_7 (by decide) (fun _ => ?_) (fun q9 => absurd q9 (by decide +kernel))
  refine lv_iconst (v := 1) hx hb dX7_offers_37 (by decide +kernel) ?_
  refine lv_goto (tgt := 42) hx hb dX7_offers_38 (by decide) ?_
  refine lv_istore (lv' := [(5, .int 1), (0, .ref p0), (1, .int 2), (2, .int 0), (3, .int 0), (4, .int 0)]) hx hb dX7_offers_42 hl (by decide) rfl (fun ls hl => ?_)
  refine lv_iload hx hb dX7_offers_44 (lv_at hl 0 rfl) ?_
  refine lv_if_ne (tgt := 50) hx hb dX7_offers_46 (by decide) (fun _ => ?_) (fun q9 => absurd q9 (by decide +kernel))
  refine lv_aload_n hx hb dX7_offers_50 rfl (lv_at hl 1 rfl) ?_
  refine k_get (D := (dC, dI)) (ci := 7) (v := .ref (p1 87)) (C := RX7) (T := TX7) (N := 92) hx hb hts hinX7 hown hK hP 0 rfl rfl 87 (by decide) w_1 rfl rfl dX7_offers_51 ?_
  refine lv_iload_n hx hb dX7_offers_54 rfl (lv_at hl 2 rfl) ?_
  refine lv_iload_n hx hb dX7_offers_55 rfl (lv_at hl 4 rfl) ?_
  refine k_iast (g := (upd (upd (upd (upd (fun _ => 0) 2 0) 1 0) 0 0) 2 0)) (ws' := [(p0, .inr (7, oM p1 i7 j7)), ((p1 88), .inl (cI, 5, .inl (upd (upd (upd (upd (upd (upd (upd (upd (fun _ => 0) 0 (-1)) 1 (-1)) 2 (-1)) 2 0) 1 0) 0 0) 1 (-1)) 2 (-1)))), ((p1 87), .inl (cI, 5, .inl (upd (upd (upd (upd (fun _ => 0) 2 0) 1 0) 0 0) 2 0)))]) hx hb hK hP hD hS 2 0 2 rfl rfl rfl (Nat.le_of_ble_eq_true rfl) (Nat.le_of_ble_eq_true rfl) rfl rfl dX7_offers_56 (fun H locs hP hD hS => ?_)
  refine lv_aload_n hx hb dX7_offers_57 rfl (lv_at hl 1 rfl) ?_
  refine k_get (D := (dC, dI)) (ci := 7) (v := .ref (p1 88)) (C := RX7) (T := TX7) (N := 92) hx hb hts hinX7 hown hK hP 0 rfl rfl 88 (by decide) w_0 rfl rfl dX7_offers_58 ?_
  refine lv_iload_n hx hb dX7_offers_61 rfl (lv_at hl 2 rfl) ?_
  refine lv_iload hx hb dX7_offers_62 (lv_at hl 5 rfl) ?_
  refine k_iast (g := (upd (upd (upd (upd (upd (upd (upd (upd (upd (fun _ => 0) 0 (-1)) 1 (-1)) 2 (-1)) 2 0) 1 0) 0 0) 1 (-1)) 2 (-1)) 2 0)) (ws' := [(p0, .inr (7, oM p1 i7 j7)), ((p1 88), .inl (cI, 5, .inl (upd (upd (upd (upd (upd (upd (upd (upd (upd (fun _ => 0) 0 (-1)) 1 (-1)) 2 (-1)) 2 0) 1 0) 0 0) 1 (-1)) 2 (-1)) 2 0))), ((p1 87), .inl (cI, 5, .inl (upd (upd (upd (upd (fun _ => 0) 2 0) 1 0) 0 0) 2 0)))]) hx hb hK hP hD hS 1 0 2 rfl rfl rfl (Nat.le_of_ble_eq_true rfl) (Nat.le_of_ble_eq_true rfl) rfl rfl dX7_offers_64 (fun H locs hP hD hS => ?_)
  exact k_rv B hP hD hS dX7_offers_65 () [0, 1, 2] rfl rfl (Nat.le_of_ble_eq_true rfl) (Nat.le_of_ble_eq_true rfl) trivial
set_option maxHeartbeats 4000000 in
set_option maxRecDepth 100000 in
theorem c_X7_offers_v8 (l : Launch) (dC : Nat → ClassId) (dI : Nat → Nat → Nat) (cI cJ cZ cM : ClassId) (p0 : Nat) (p1 : Nat → Nat)   : k_Mv l yX7_offers wsX7_offers ({ frames := 1, cells := 0, slots := 0, locals := 40 }) (dC, dI) vwCl (tyy cI cJ cZ cM) [(p0, .inr (7, oM p1 i7 j7)), ((p1 88), .inl (cI, 5, .inl (upd (upd (upd (upd (upd (upd (upd (upd (upd (fun _ => 0) 0 (-1)) 1 (-1)) 2 (-1)) 2 0) 1 0) 0 0) 1 (-1)) 2 (-1)) 2 0))), ((p1 87), .inl (cI, 5, .inl (upd (upd (upd (upd (fun _ => 0) 2 0) 1 0) 0 0) 2 0)))] [.ref p0, .int 1, .int 1, .int 0, .int 0] 0 0 (fun (u9 : Unit) => [(p0, .inr (7, oM p1 i7 j7)), ((p1 88), .inl (cI, 5, .inl (upd (upd (upd (upd (upd (upd (upd (upd (upd (upd (fun _ => 0) 0 (-1)) 1 (-1)) 2 (-1)) 2 0) 1 0) 0 0) 1 (-1)) 2 (-1)) 2 0) 1 0))), ((p1 87), .inl (cI, 5, .inl (upd (upd (upd (upd (upd (fun _ => 0) 2 0) 1 0) 0 0) 2 0) 1 0)))]) (fun (u9 : Unit) => True) := by
  refine fun sz => k_enter (cc := cX7_offers) (maxL := 6) (ret := none) (Qc := fun A => va_Qv (fun (u9 : Unit) => True) (fun u => k_B (dC, dI) vwCl (tyy cI cJ cZ cM) A ((fun (u9 : Unit) => [(p0, .inr (7, oM p1 i7 j7)), ((p1 88), .inl (cI, 5, .inl (upd (upd (upd (upd (upd (upd (upd (upd (upd (upd (fun _ => 0) 0 (-1)) 1 (-1)) 2 (-1)) 2 0) 1 0) 0 0) 1 (-1)) 2 (-1)) 2 0) 1 0))), ((p1 87), .inl (cI, 5, .inl (upd (upd (upd (upd (upd (fun _ => 0) 2 0) 1 0) 0 0) 2 0) 1 0)))]) u)) A) sz (by decide +kernel) rfl (Nat.le_of_ble_eq_true rfl) (fun p e s m args below meth c A ls H locs B hP hD hS hl => ?_)
  obtain ⟨hx, hb, hml, hown, hts, hr, hlk, hnm, hK, hA, hN, hC⟩ := id B
  have hown : s.vm.findClass RX7 = some m.cls := hown
  have hl : lv_has ls 6 [(0, .ref p0), (1, .int 1), (2, .int 1), (3, .int 0), (4, .int 0)] := hl
  have w_0 : (Cond.fieldLink RX7 279 "WishSeaModel" "bestSaid" "[I").before args s = true := hts _ (List.mem_of_getElem? (i := 1) rfl)
  have w_1 : (Cond.fieldLink RX7 276 "WishSeaModel" "bestOf" "[I").before args s = true := hts _ (List.mem_of_getElem? (i := 2) rfl)
  have hinX7 : ∀ w ∈ u_ws RX7 TX7 92, w ∈ wsX7_offers := fun _ h => List.mem_cons_of_mem _ (List.mem_append_right _ h)
  refine lv_aload_n hx hb dX7_offers_0 rfl (lv_at hl 0 rfl) ?_
  refine k_get (D := (dC, dI)) (ci := 7) (v := .ref (p1 88)) (C := RX7) (T := TX7) (N := 92) hx hb hts hinX7 hown hK hP 0 rfl rfl 88 (by decide) w_0 rfl rfl dX7_offers_1 ?_
  refine lv_iload_n hx hb dX7_offers_4 rfl (lv_at hl 1 rfl) ?_
  refine k_iald (v := (-1)) hx hb hK hP 1 0 1 rfl rfl rfl (Nat.le_of_ble_eq_true rfl) (Nat.le_of_ble_eq_true rfl) rfl dX7_offers_5 ?_
  refine lv_iconst (v := (-1)) hx hb dX7_offers_6 (by decide +kernel) ?_
  refine lv_icmp_eq (tgt := 37) hx hb dX7_offers_7 (by decide) (fun _ => ?_) (fun q9 => absurd q9 (by decide +kernel))
  refine lv_iconst (v := 1) hx hb dX7_offers_37 (by decide +kernel) ?_
  refine lv_goto (tgt := 42) hx hb dX7_offers_38 (by decide) ?_
  refine lv_istore (lv' := [(5, .int 1), (0, .ref p0), (1, .int 1), (2, .int 1), (3, .int 0), (4, .int 0)]) hx hb dX7_offers_42 hl (by decide) rfl (fun ls hl => ?_)
  refine lv_iload hx hb dX7_offers_44 (lv_at hl 0 rfl) ?_
  refine lv_if_ne (tgt := 50) hx hb dX7_offers_46 (by decide) (fun _ => ?_) (fun q9 => absurd q9 (by decide +kernel))
  refine lv_aload_n hx hb dX7_offers_50 rfl (lv_at hl 1 rfl) ?_
  refine k_get (D := (dC, dI)) (ci := 7) (v := .ref (p1 87)) (C := RX7) (T := TX7) (N := 92) hx hb hts hinX7 hown hK hP 0 rfl rfl 87 (by decide) w_1 rfl rfl dX7_offers_51 ?_
  refine lv_iload_n hx hb dX7_offers_54 rfl (lv_at hl 2 rfl) ?_
  refine lv_iload_n hx hb dX7_offers_55 rfl (lv_at hl 4 rfl) ?_
  refine k_iast (g := (upd (upd (upd (upd (upd (fun _ => 0) 2 0) 1 0) 0 0) 2 0) 1 0)) (ws' := [(p0, .inr (7, oM p1 i7 j7)), ((p1 88), .inl (cI, 5, .inl (upd (upd (upd (upd (upd (upd (upd (upd (upd (fun _ => 0) 0 (-1)) 1 (-1)) 2 (-1)) 2 0) 1 0) 0 0) 1 (-1)) 2 (-1)) 2 0))), ((p1 87), .inl (cI, 5, .inl (upd (upd (upd (upd (upd (fun _ => 0) 2 0) 1 0) 0 0) 2 0) 1 0)))]) hx hb hK hP hD hS 2 0 1 rfl rfl rfl (Nat.le_of_ble_eq_true rfl) (Nat.le_of_ble_eq_true rfl) rfl rfl dX7_offers_56 (fun H locs hP hD hS => ?_)
  refine lv_aload_n hx hb dX7_offers_57 rfl (lv_at hl 1 rfl) ?_
  refine k_get (D := (dC, dI)) (ci := 7) (v := .ref (p1 88)) (C := RX7) (T := TX7) (N := 92) hx hb hts hinX7 hown hK hP 0 rfl rfl 88 (by decide) w_0 rfl rfl dX7_offers_58 ?_
  refine lv_iload_n hx hb dX7_offers_61 rfl (lv_at hl 2 rfl) ?_
  refine lv_iload hx hb dX7_offers_62 (lv_at hl 5 rfl) ?_
  refine k_iast (g := (upd (upd (upd (upd (upd (upd (upd (upd (upd (upd (fun _ => 0) 0 (-1)) 1 (-1)) 2 (-1)) 2 0) 1 0) 0 0) 1 (-1)) 2 (-1)) 2 0) 1 0)) (ws' := [(p0, .inr (7, oM p1 i7 j7)), ((p1 88), .inl (cI, 5, .inl (upd (upd (upd (upd (upd (upd (upd (upd (upd (upd (fun _ => 0) 0 (-1)) 1 (-1)) 2 (-1)) 2 0) 1 0) 0 0) 1 (-1)) 2 (-1)) 2 0) 1 0))), ((p1 87), .inl (cI, 5, .inl (upd (upd (upd (upd (upd (fun _ => 0) 2 0) 1 0) 0 0) 2 0) 1 0)))]) hx hb hK hP hD hS 1 0 1 rfl rfl rfl (Nat.le_of_ble_eq_true rfl) (Nat.le_of_ble_eq_true rfl) rfl rfl dX7_offers_64 (fun H locs hP hD hS => ?_)
  exact k_rv B hP hD hS dX7_offers_65 () [0, 1, 2] rfl rfl (Nat.le_of_ble_eq_true rfl) (Nat.le_of_ble_eq_true rfl) trivial
set_option maxHeartbeats 4000000 in
set_option maxRecDepth 100000 in
theorem c_X7_solves_v4 (l : Launch) (dC : Nat → ClassId) (dI : Nat → Nat → Nat) (cI cJ cZ cM : ClassId) (p0 : Nat) (p1 : Nat → Nat)   : k_Mv l yX7_solves wsX7_solves ({ frames := 2, cells := 0, slots := 0, locals := 65 }) (dC, dI) vwCl (tyy cI cJ cZ cM) [(p0, .inr (7, oM p1 i7 j7)), ((p1 86), .inl (cI, 5, .inl (upd (upd (upd (upd (upd (upd (upd (upd (upd (fun _ => 0) 0 0) 0 1) 1 0) 1 1) 2 0) 2 1) 2 2) 1 2) 0 2))), ((p1 88), .inl (cI, 5, .inl (upd (upd (upd (upd (upd (upd (fun _ => 0) 0 (-1)) 1 (-1)) 2 (-1)) 2 0) 1 0) 0 0))), ((p1 18), .inl (cI, 2, .inl (fun _ => 0))), ((p1 84), .inl (cI, 12, .inl (upd (upd (upd (upd (upd (upd (upd (upd (upd (upd (fun _ => 0) 0 0) 1 0) 2 0) 3 0) 4 0) 5 0) 6 0) 7 0) 2 0) 3 0))), ((p1 85), .inl (cI, 6, .inl (upd (upd (upd (upd (upd (fun _ => 0) 0 0) 1 0) 2 0) 3 0) 1 0))), ((p1 89), .inl (cI, 6, .inl (upd (upd (upd (upd (upd (fun _ => 0) 0 0) 1 0) 2 0) 3 0) 1 0))), ((p1 14), .inl (cI, 2, .inl (fun _ => 0))), ((p1 87), .inl (cI, 5, .inl (upd (upd (upd (fun _ => 0) 2 0) 1 0) 0 0)))] [.ref p0, .int 1, .int 3] 0 0 (fun (u9 : Unit) => [(p0, .inr (7, oM p1 i7 j7)), ((p1 86), .inl (cI, 5, .inl (upd (upd (upd (upd (upd (upd (upd (upd (upd (upd (upd (upd (upd (upd (upd (fun _ => 0) 0 0) 0 1) 1 0) 1 1) 2 0) 2 1) 2 2) 1 2) 0 2) 1 0) 1 1) 2 0) 2 1) 2 2) 1 2))), ((p1 88), .inl (cI, 5, .inl (upd (upd (upd (upd (upd (upd (upd (upd (upd (upd (fun _ => 0) 0 (-1)) 1 (-1)) 2 (-1)) 2 0) 1 0) 0 0) 1 (-1)) 2 (-1)) 2 0) 1 0))), ((p1 18), .inl (cI, 2, .inl (fun _ => 0))), ((p1 84), .inl (cI, 12, .inl (upd (upd (upd (upd (upd (upd (upd (upd (upd (upd (upd (upd (upd (upd (fun _ => 0) 0 0) 1 0) 2 0) 3 0) 4 0) 5 0) 6 0) 7 0) 2 0) 3 0) 4 0) 5 0) 6 0) 7 0))), ((p1 85), .inl (cI, 6, .inl (upd (upd (upd (upd (upd (upd (upd (fun _ => 0) 0 0) 1 0) 2 0) 3 0) 1 0) 2 0) 3 0))), ((p1 89), .inl (cI, 6, .inl (upd (upd (upd (upd (upd (upd (upd (fun _ => 0) 0 0) 1 0) 2 0) 3 0) 1 0) 2 0) 3 0))), ((p1 14), .inl (cI, 2, .inl (fun _ => 0))), ((p1 87), .inl (cI, 5, .inl (upd (upd (upd (upd (upd (fun _ => 0) 2 0) 1 0) 0 0) 2 0) 1 0)))]) (fun (u9 : Unit) => True) := by
  refine fun sz => k_enter (cc := cX7_solves) (maxL := 6) (ret := none) (Qc := fun A => va_Qv (fun (u9 : Unit) => True) (fun u => k_B (dC, dI) vwCl (tyy cI cJ cZ cM) A ((fun (u9 : Unit) => [(p0, .inr (7, oM p1 i7 j7)), ((p1 86), .inl (cI, 5, .inl (upd (upd (upd (upd (upd (upd (upd (upd (upd (upd (upd (upd (upd (upd (upd (fun _ => 0) 0 0) 0 1) 1 0) 1 1) 2 0) 2 1) 2 2) 1 2) 0 2) 1 0) 1 1) 2 0) 2 1) 2 2) 1 2))), ((p1 88), .inl (cI, 5, .inl (upd (upd (upd (upd (upd (upd (upd (upd (upd (upd (fun _ => 0) 0 (-1)) 1 (-1)) 2 (-1)) 2 0) 1 0) 0 0) 1 (-1)) 2 (-1)) 2 0) 1 0))), ((p1 18), .inl (cI, 2, .inl (fun _ => 0))), ((p1 84), .inl (cI, 12, .inl (upd (upd (upd (upd (upd (upd (upd (upd (upd (upd (upd (upd (upd (upd (fun _ => 0) 0 0) 1 0) 2 0) 3 0) 4 0) 5 0) 6 0) 7 0) 2 0) 3 0) 4 0) 5 0) 6 0) 7 0))), ((p1 85), .inl (cI, 6, .inl (upd (upd (upd (upd (upd (upd (upd (fun _ => 0) 0 0) 1 0) 2 0) 3 0) 1 0) 2 0) 3 0))), ((p1 89), .inl (cI, 6, .inl (upd (upd (upd (upd (upd (upd (upd (fun _ => 0) 0 0) 1 0) 2 0) 3 0) 1 0) 2 0) 3 0))), ((p1 14), .inl (cI, 2, .inl (fun _ => 0))), ((p1 87), .inl (cI, 5, .inl (upd (upd (upd (upd (upd (fun _ => 0) 2 0) 1 0) 0 0) 2 0) 1 0)))]) u)) A) sz (by decide +kernel) rfl (Nat.le_of_ble_eq_true rfl) (fun p e s m args below meth c A ls H locs B hP hD hS hl => ?_)
  obtain ⟨hx, hb, hml, hown, hts, hr, hlk, hnm, hK, hA, hN, hC⟩ := id B
  have hown : s.vm.findClass RX7 = some m.cls := hown
  have hl : lv_has ls 6 [(0, .ref p0), (1, .int 1), (2, .int 3)] := hl
  have w_0 : (Cond.fieldLink RX7 273 "WishSeaModel" "next" "[I").before args s = true := hts _ (List.mem_of_getElem? (i := 1) rfl)
  have w_1 : (Cond.fieldLink RX7 279 "WishSeaModel" "bestSaid" "[I").before args s = true := hts _ (List.mem_of_getElem? (i := 2) rfl)
  have w_2 : (Cond.fieldLink RX7 66 "WishSeaModel" "wishes" "[I").before args s = true := hts _ (List.mem_of_getElem? (i := 3) rfl)
  have w_3 : (Cond.fieldLink RX7 51 "WishSeaModel" "bank" "I").before args s = true := hts _ (List.mem_of_getElem? (i := 4) rfl)
  have w_4 : (Cond.fieldLink RX7 267 "WishSeaModel" "ownHad" "[I").before args s = true := hts _ (List.mem_of_getElem? (i := 6) rfl)
  have w_5 : (Cond.fieldLink RX7 276 "WishSeaModel" "bestOf" "[I").before args s = true := hts _ (List.mem_of_getElem? (i := 5) rfl)
  have hinX7 : ∀ w ∈ u_ws RX7 TX7 92, w ∈ wsX7_solves := fun _ h => List.mem_cons_of_mem _ (List.mem_append_right _ h)
  refine lv_iload_n hx hb dX7_solves_0 rfl (lv_at hl 1 rfl) ?_
  refine lv_istore_n (lv' := [(3, .int 1), (0, .ref p0), (1, .int 1), (2, .int 3)]) hx hb dX7_solves_1 rfl hl (by decide) rfl (fun ls hl => ?_)
  refine lv_aload_n hx hb dX7_solves_2 rfl (lv_at hl 1 rfl) ?_
  refine k_get (D := (dC, dI)) (ci := 7) (v := .ref (p1 86)) (C := RX7) (T := TX7) (N := 92) hx hb hts hinX7 hown hK hP 0 rfl rfl 86 (by decide) w_0 rfl rfl dX7_solves_3 ?_
  refine lv_iload_n hx hb dX7_solves_6 rfl (lv_at hl 0 rfl) ?_
  refine lv_iconst (v := 0) hx hb dX7_solves_7 (by decide +kernel) ?_
  refine k_iast (g := (upd (upd (upd (upd (upd (upd (upd (upd (upd (upd (fun _ => 0) 0 0) 0 1) 1 0) 1 1) 2 0) 2 1) 2 2) 1 2) 0 2) 1 0)) (ws' := [(p0, .inr (7, oM p1 i7 j7)), ((p1 86), .inl (cI, 5, .inl (upd (upd (upd (upd (upd (upd (upd (upd (upd (upd (fun _ => 0) 0 0) 0 1) 1 0) 1 1) 2 0) 2 1) 2 2) 1 2) 0 2) 1 0))), ((p1 88), .inl (cI, 5, .inl (upd (upd (upd (upd (upd (upd (fun _ => 0) 0 (-1)) 1 (-1)) 2 (-1)) 2 0) 1 0) 0 0))), ((p1 18), .inl (cI, 2, .inl (fun _ => 0))), ((p1 84), .inl (cI, 12, .inl (upd (upd (upd (upd (upd (upd (upd (upd (upd (upd (fun _ => 0) 0 0) 1 0) 2 0) 3 0) 4 0) 5 0) 6 0) 7 0) 2 0) 3 0))), ((p1 85), .inl (cI, 6, .inl (upd (upd (upd (upd (upd (fun _ => 0) 0 0) 1 0) 2 0) 3 0) 1 0))), ((p1 89), .inl (cI, 6, .inl (upd (upd (upd (upd (upd (fun _ => 0) 0 0) 1 0) 2 0) 3 0) 1 0))), ((p1 14), .inl (cI, 2, .inl (fun _ => 0))), ((p1 87), .inl (cI, 5, .inl (upd (upd (upd (fun _ => 0) 2 0) 1 0) 0 0)))]) hx hb hK hP hD hS 1 0 1 rfl rfl rfl (Nat.le_of_ble_eq_true rfl) (Nat.le_of_ble_eq_true rfl) rfl rfl dX7_solves_8 (fun H locs hP hD hS => ?_)
  refine lv_aload_n hx hb dX7_solves_9 rfl (lv_at hl 1 rfl) ?_
  refine k_get (D := (dC, dI)) (ci := 7) (v := .ref (p1 88)) (C := RX7) (T := TX7) (N := 92) hx hb hts hinX7 hown hK hP 0 rfl rfl 88 (by decide) w_1 rfl rfl dX7_solves_10 ?_
  refine lv_iload_n hx hb dX7_solves_13 rfl (lv_at hl 0 rfl) ?_
  refine lv_iconst (v := (-1)) hx hb dX7_solves_14 (by decide +kernel) ?_
  refine k_iast (g := (upd (upd (upd (upd (upd (upd (upd (fun _ => 0) 0 (-1)) 1 (-1)) 2 (-1)) 2 0) 1 0) 0 0) 1 (-1))) (ws' := [(p0, .inr (7, oM p1 i7 j7)), ((p1 86), .inl (cI, 5, .inl (upd (upd (upd (upd (upd (upd (upd (upd (upd (upd (fun _ => 0) 0 0) 0 1) 1 0) 1 1) 2 0) 2 1) 2 2) 1 2) 0 2) 1 0))), ((p1 88), .inl (cI, 5, .inl (upd (upd (upd (upd (upd (upd (upd (fun _ => 0) 0 (-1)) 1 (-1)) 2 (-1)) 2 0) 1 0) 0 0) 1 (-1)))), ((p1 18), .inl (cI, 2, .inl (fun _ => 0))), ((p1 84), .inl (cI, 12, .inl (upd (upd (upd (upd (upd (upd (upd (upd (upd (upd (fun _ => 0) 0 0) 1 0) 2 0) 3 0) 4 0) 5 0) 6 0) 7 0) 2 0) 3 0))), ((p1 85), .inl (cI, 6, .inl (upd (upd (upd (upd (upd (fun _ => 0) 0 0) 1 0) 2 0) 3 0) 1 0))), ((p1 89), .inl (cI, 6, .inl (upd (upd (upd (upd (upd (fun _ => 0) 0 0) 1 0) 2 0) 3 0) 1 0))), ((p1 14), .inl (cI, 2, .inl (fun _ => 0))), ((p1 87), .inl (cI, 5, .inl (upd (upd (upd (fun _ => 0) 2 0) 1 0) 0 0)))]) hx hb hK hP hD hS 2 0 1 rfl rfl rfl (Nat.le_of_ble_eq_true rfl) (Nat.le_of_ble_eq_true rfl) rfl rfl dX7_solves_15 (fun H locs hP hD hS => ?_)
  refine lv_iload_n hx hb dX7_solves_16 rfl (lv_at hl 0 rfl) ?_
  refine lv_iload_n hx hb dX7_solves_17 rfl (lv_at hl 2 rfl) ?_
  refine lv_icmp_lt (tgt := 218) hx hb dX7_solves_18 (by decide) (fun q9 => absurd q9 (by decide +kernel)) (fun _ => ?_)
  refine lv_iload_n hx hb dX7_solves_21 rfl (lv_at hl 0 rfl) ?_
  refine lv_iconst (v := 2) hx hb dX7_solves_22 (by decide +kernel) ?_
  refine lv_irem hx hb dX7_solves_23 (by decide +kernel) ?_
  refine k_int (v := 1) (by decide +kernel) ?_
  refine lv_istore (lv' := [(4, .int 1), (3, .int 1), (0, .ref p0), (1, .int 1), (2, .int 3)]) hx hb dX7_solves_24 hl (by decide) rfl (fun ls hl => ?_)
  refine lv_aload_n hx hb dX7_solves_26 rfl (lv_at hl 2 rfl) ?_
  refine k_get (D := (dC, dI)) (ci := 7) (v := .ref (p1 86)) (C := RX7) (T := TX7) (N := 92) hx hb hts hinX7 hown hK hP 0 rfl rfl 86 (by decide) w_0 rfl rfl dX7_solves_27 ?_
  refine lv_iload_n hx hb dX7_solves_30 rfl (lv_at hl 1 rfl) ?_
  refine k_iald (v := 0) hx hb hK hP 1 0 1 rfl rfl rfl (Nat.le_of_ble_eq_true rfl) (Nat.le_of_ble_eq_true rfl) rfl dX7_solves_31 ?_
  refine lv_aload_n hx hb dX7_solves_32 rfl (lv_at hl 2 rfl) ?_
  refine k_get (D := (dC, dI)) (ci := 7) (v := .ref (p1 18)) (C := RX7) (T := TX7) (N := 92) hx hb hts hinX7 hown hK hP 0 rfl rfl 18 (by decide) w_2 rfl rfl dX7_solves_33 ?_
  refine lv_aload_n hx hb dX7_solves_36 rfl (lv_at hl 2 rfl) ?_
  refine k_get (D := (dC, dI)) (ci := 7) (v := .int 0) (C := RX7) (T := TX7) (N := 92) hx hb hts hinX7 hown hK hP 0 rfl rfl 13 (by decide) w_3 rfl rfl dX7_solves_37 ?_
  refine k_iald (v := 0) hx hb hK hP 3 0 0 rfl rfl rfl (Nat.le_of_ble_eq_true rfl) (Nat.le_of_ble_eq_true rfl) rfl dX7_solves_40 ?_
  refine lv_icmp_le (tgt := 53) hx hb dX7_solves_41 (by decide) (fun _ => ?_) (fun q9 => absurd q9 (by decide +kernel))
  refine lv_aload_n hx hb dX7_solves_53 rfl (lv_at hl 2 rfl) ?_
  refine lv_iload_n hx hb dX7_solves_54 rfl (lv_at hl 1 rfl) ?_
  refine lv_aload_n hx hb dX7_solves_55 rfl (lv_at hl 2 rfl) ?_
  refine k_get (D := (dC, dI)) (ci := 7) (v := .ref (p1 86)) (C := RX7) (T := TX7) (N := 92) hx hb hts hinX7 hown hK hP 0 rfl rfl 86 (by decide) w_0 rfl rfl dX7_solves_56 ?_
  refine lv_iload_n hx hb dX7_solves_59 rfl (lv_at hl 1 rfl) ?_
  refine k_iald (v := 0) hx hb hK hP 1 0 1 rfl rfl rfl (Nat.le_of_ble_eq_true rfl) (Nat.le_of_ble_eq_true rfl) rfl dX7_solves_60 ?_
  refine lv_iload hx hb dX7_solves_61 (lv_at hl 0 rfl) ?_
  refine k_ci (wc := [(p0, .inr (7, oM p1 i7 j7)), ((p1 18), .inl (cI, 2, .inl (fun _ => 0)))]) (wr := [((p1 86), .inl (cI, 5, .inl (upd (upd (upd (upd (upd (upd (upd (upd (upd (upd (fun _ => 0) 0 0) 0 1) 1 0) 1 1) 2 0) 2 1) 2 2) 1 2) 0 2) 1 0))), ((p1 88), .inl (cI, 5, .inl (upd (upd (upd (upd (upd (upd (upd (fun _ => 0) 0 (-1)) 1 (-1)) 2 (-1)) 2 0) 1 0) 0 0) 1 (-1)))), ((p1 84), .inl (cI, 12, .inl (upd (upd (upd (upd (upd (upd (upd (upd (upd (upd (fun _ => 0) 0 0) 1 0) 2 0) 3 0) 4 0) 5 0) 6 0) 7 0) 2 0) 3 0))), ((p1 85), .inl (cI, 6, .inl (upd (upd (upd (upd (upd (fun _ => 0) 0 0) 1 0) 2 0) 3 0) 1 0))), ((p1 89), .inl (cI, 6, .inl (upd (upd (upd (upd (upd (fun _ => 0) 0 0) 1 0) 2 0) 3 0) 1 0))), ((p1 14), .inl (cI, 2, .inl (fun _ => 0))), ((p1 87), .inl (cI, 5, .inl (upd (upd (upd (fun _ => 0) 2 0) 1 0) 0 0)))]) (fun hPc hDc hFc => va_runV (As := [.int 1, .int 0, .int 1]) (rest := []) ⟨hx, hb, hml, hown, hts⟩ (c_X7_nextSaid_v1 l dC dI cI cJ cZ cM p0 p1 H.size) (cwV 3 hts gX7_solves_X7_nextSaid rfl rfl rfl (by decide +kernel) ⟨(Nat.le_of_ble_eq_true rfl), (Nat.le_of_ble_eq_true rfl)⟩) (k_pV hPc hDc hK hN hC hS hFc hP (q0 := 0) (ci := 7) rfl rfl) rfl rfl hl.1 rfl (lv_room (Nat.le_of_ble_eq_true rfl)) dX7_solves_63 ⟨(Nat.le_of_ble_eq_true rfl), (Nat.le_of_ble_eq_true rfl)⟩) hP hD hS hA [0, 3] [1, 2, 4, 5, 6, 7, 8] rfl rfl rfl rfl (by decide) (fun _ => rfl) 0 0 rfl rfl (fun r_1 u_2 H locs hw hP hD hS => ?_)
  obtain rfl : r_1 = 0 := hw
  have hP : va_P (dC, dI) vwCl [((p1 86), .inl (cI, 5, .inl (upd (upd (upd (upd (upd (upd (upd (upd (upd (upd (fun _ => 0) 0 0) 0 1) 1 0) 1 1) 2 0) 2 1) 2 2) 1 2) 0 2) 1 0))), ((p1 88), .inl (cI, 5, .inl (upd (upd (upd (upd (upd (upd (upd (fun _ => 0) 0 (-1)) 1 (-1)) 2 (-1)) 2 0) 1 0) 0 0) 1 (-1)))), ((p1 84), .inl (cI, 12, .inl (upd (upd (upd (upd (upd (upd (upd (upd (upd (upd (fun _ => 0) 0 0) 1 0) 2 0) 3 0) 4 0) 5 0) 6 0) 7 0) 2 0) 3 0))), ((p1 85), .inl (cI, 6, .inl (upd (upd (upd (upd (upd (fun _ => 0) 0 0) 1 0) 2 0) 3 0) 1 0))), ((p1 89), .inl (cI, 6, .inl (upd (upd (upd (upd (upd (fun _ => 0) 0 0) 1 0) 2 0) 3 0) 1 0))), ((p1 14), .inl (cI, 2, .inl (fun _ => 0))), ((p1 87), .inl (cI, 5, .inl (upd (upd (upd (fun _ => 0) 2 0) 1 0) 0 0))), (p0, .inr (7, oM p1 i7 j7)), ((p1 18), .inl (cI, 2, .inl (fun _ => 0)))] H := hP
  have hD : va_D A [((p1 86), .inl (cI, 5, .inl (upd (upd (upd (upd (upd (upd (upd (upd (upd (upd (fun _ => 0) 0 0) 0 1) 1 0) 1 1) 2 0) 2 1) 2 2) 1 2) 0 2) 1 0))), ((p1 88), .inl (cI, 5, .inl (upd (upd (upd (upd (upd (upd (upd (fun _ => 0) 0 (-1)) 1 (-1)) 2 (-1)) 2 0) 1 0) 0 0) 1 (-1)))), ((p1 84), .inl (cI, 12, .inl (upd (upd (upd (upd (upd (upd (upd (upd (upd (upd (fun _ => 0) 0 0) 1 0) 2 0) 3 0) 4 0) 5 0) 6 0) 7 0) 2 0) 3 0))), ((p1 85), .inl (cI, 6, .inl (upd (upd (upd (upd (upd (fun _ => 0) 0 0) 1 0) 2 0) 3 0) 1 0))), ((p1 89), .inl (cI, 6, .inl (upd (upd (upd (upd (upd (fun _ => 0) 0 0) 1 0) 2 0) 3 0) 1 0))), ((p1 14), .inl (cI, 2, .inl (fun _ => 0))), ((p1 87), .inl (cI, 5, .inl (upd (upd (upd (fun _ => 0) 2 0) 1 0) 0 0))), (p0, .inr (7, oM p1 i7 j7)), ((p1 18), .inl (cI, 2, .inl (fun _ => 0)))] := hD
  refine lv_istore (lv' := [(5, .int 0), (4, .int 1), (3, .int 1), (0, .ref p0), (1, .int 1), (2, .int 3)]) hx hb dX7_solves_66 hl (by decide) rfl (fun ls hl => ?_)
  refine lv_aload_n hx hb dX7_solves_68 rfl (lv_at hl 3 rfl) ?_
  refine k_get (D := (dC, dI)) (ci := 7) (v := .ref (p1 86)) (C := RX7) (T := TX7) (N := 92) hx hb hts hinX7 hown hK hP 7 rfl rfl 86 (by decide) w_0 rfl rfl dX7_solves_69 ?_
  refine lv_iload_n hx hb dX7_solves_72 rfl (lv_at hl 2 rfl) ?_
  refine lv_iload hx hb dX7_solves_73 (lv_at hl 0 rfl) ?_
  refine lv_iconst (v := 1) hx hb dX7_solves_75 (by decide +kernel) ?_
  refine lv_iadd hx hb dX7_solves_76 ?_
  refine k_int (v := 1) (by decide +kernel) ?_
  refine k_iast (g := (upd (upd (upd (upd (upd (upd (upd (upd (upd (upd (upd (fun _ => 0) 0 0) 0 1) 1 0) 1 1) 2 0) 2 1) 2 2) 1 2) 0 2) 1 0) 1 1)) (ws' := [((p1 86), .inl (cI, 5, .inl (upd (upd (upd (upd (upd (upd (upd (upd (upd (upd (upd (fun _ => 0) 0 0) 0 1) 1 0) 1 1) 2 0) 2 1) 2 2) 1 2) 0 2) 1 0) 1 1))), ((p1 88), .inl (cI, 5, .inl (upd (upd (upd (upd (upd (upd (upd (fun _ => 0) 0 (-1)) 1 (-1)) 2 (-1)) 2 0) 1 0) 0 0) 1 (-1)))), ((p1 84), .inl (cI, 12, .inl (upd (upd (upd (upd (upd (upd (upd (upd (upd (upd (fun _ => 0) 0 0) 1 0) 2 0) 3 0) 4 0) 5 0) 6 0) 7 0) 2 0) 3 0))), ((p1 85), .inl (cI, 6, .inl (upd (upd (upd (upd (upd (fun _ => 0) 0 0) 1 0) 2 0) 3 0) 1 0))), ((p1 89), .inl (cI, 6, .inl (upd (upd (upd (upd (upd (fun _ => 0) 0 0) 1 0) 2 0) 3 0) 1 0))), ((p1 14), .inl (cI, 2, .inl (fun _ => 0))), ((p1 87), .inl (cI, 5, .inl (upd (upd (upd (fun _ => 0) 2 0) 1 0) 0 0))), (p0, .inr (7, oM p1 i7 j7)), ((p1 18), .inl (cI, 2, .inl (fun _ => 0)))]) hx hb hK hP hD hS 0 0 1 rfl rfl rfl (Nat.le_of_ble_eq_true rfl) (Nat.le_of_ble_eq_true rfl) rfl rfl dX7_solves_77 (fun H locs hP hD hS => ?_)
  refine lv_iload hx hb dX7_solves_78 (lv_at hl 0 rfl) ?_
  refine lv_aload_n hx hb dX7_solves_80 rfl (lv_at hl 3 rfl) ?_
  refine k_get (D := (dC, dI)) (ci := 7) (v := .ref (p1 18)) (C := RX7) (T := TX7) (N := 92) hx hb hts hinX7 hown hK hP 7 rfl rfl 18 (by decide) w_2 rfl rfl dX7_solves_81 ?_
  refine lv_aload_n hx hb dX7_solves_84 rfl (lv_at hl 3 rfl) ?_
  refine k_get (D := (dC, dI)) (ci := 7) (v := .int 0) (C := RX7) (T := TX7) (N := 92) hx hb hts hinX7 hown hK hP 7 rfl rfl 13 (by decide) w_3 rfl rfl dX7_solves_85 ?_
  refine k_iald (v := 0) hx hb hK hP 8 0 0 rfl rfl rfl (Nat.le_of_ble_eq_true rfl) (Nat.le_of_ble_eq_true rfl) rfl dX7_solves_88 ?_
  refine lv_icmp_le (tgt := 127) hx hb dX7_solves_89 (by decide) (fun _ => ?_) (fun q9 => absurd q9 (by decide +kernel))
  refine lv_aload_n hx hb dX7_solves_127 rfl (lv_at hl 3 rfl) ?_
  refine lv_iload_n hx hb dX7_solves_128 rfl (lv_at hl 2 rfl) ?_
  refine lv_iload hx hb dX7_solves_129 (lv_at hl 1 rfl) ?_
  refine lv_iload hx hb dX7_solves_131 (lv_at hl 0 rfl) ?_
  refine k_ci (wc := [(p0, .inr (7, oM p1 i7 j7)), ((p1 84), .inl (cI, 12, .inl (upd (upd (upd (upd (upd (upd (upd (upd (upd (upd (fun _ => 0) 0 0) 1 0) 2 0) 3 0) 4 0) 5 0) 6 0) 7 0) 2 0) 3 0))), ((p1 85), .inl (cI, 6, .inl (upd (upd (upd (upd (upd (fun _ => 0) 0 0) 1 0) 2 0) 3 0) 1 0))), ((p1 89), .inl (cI, 6, .inl (upd (upd (upd (upd (upd (fun _ => 0) 0 0) 1 0) 2 0) 3 0) 1 0))), ((p1 18), .inl (cI, 2, .inl (fun _ => 0)))]) (wr := [((p1 86), .inl (cI, 5, .inl (upd (upd (upd (upd (upd (upd (upd (upd (upd (upd (upd (fun _ => 0) 0 0) 0 1) 1 0) 1 1) 2 0) 2 1) 2 2) 1 2) 0 2) 1 0) 1 1))), ((p1 88), .inl (cI, 5, .inl (upd (upd (upd (upd (upd (upd (upd (fun _ => 0) 0 (-1)) 1 (-1)) 2 (-1)) 2 0) 1 0) 0 0) 1 (-1)))), ((p1 14), .inl (cI, 2, .inl (fun _ => 0))), ((p1 87), .inl (cI, 5, .inl (upd (upd (upd (fun _ => 0) 2 0) 1 0) 0 0)))]) (fun hPc hDc hFc => va_runV (As := [.int 1, .int 1, .int 0]) (rest := []) ⟨hx, hb, hml, hown, hts⟩ (c_X7_turns_v8 l dC dI cI cJ cZ cM p0 p1 H.size) (cwV 3 hts gX7_solves_X7_turns rfl rfl rfl (by decide +kernel) ⟨(Nat.le_of_ble_eq_true rfl), (Nat.le_of_ble_eq_true rfl)⟩) (k_pV hPc hDc hK hN hC hS hFc hP (q0 := 7) (ci := 7) rfl rfl) rfl rfl hl.1 rfl (lv_room (Nat.le_of_ble_eq_true rfl)) dX7_solves_133 ⟨(Nat.le_of_ble_eq_true rfl), (Nat.le_of_ble_eq_true rfl)⟩) hP hD hS hA [7, 2, 3, 4, 8] [0, 1, 5, 6] rfl rfl rfl rfl (by decide) (fun _ => rfl) 0 0 rfl rfl (fun r_3 u_4 H locs hw hP hD hS => ?_)
  obtain rfl : r_3 = 0 := hw
  have hP : va_P (dC, dI) vwCl [((p1 86), .inl (cI, 5, .inl (upd (upd (upd (upd (upd (upd (upd (upd (upd (upd (upd (fun _ => 0) 0 0) 0 1) 1 0) 1 1) 2 0) 2 1) 2 2) 1 2) 0 2) 1 0) 1 1))), ((p1 88), .inl (cI, 5, .inl (upd (upd (upd (upd (upd (upd (upd (fun _ => 0) 0 (-1)) 1 (-1)) 2 (-1)) 2 0) 1 0) 0 0) 1 (-1)))), ((p1 14), .inl (cI, 2, .inl (fun _ => 0))), ((p1 87), .inl (cI, 5, .inl (upd (upd (upd (fun _ => 0) 2 0) 1 0) 0 0))), (p0, .inr (7, oM p1 i7 j7)), ((p1 84), .inl (cI, 12, .inl (upd (upd (upd (upd (upd (upd (upd (upd (upd (upd (upd (upd (fun _ => 0) 0 0) 1 0) 2 0) 3 0) 4 0) 5 0) 6 0) 7 0) 2 0) 3 0) 4 0) 5 0))), ((p1 85), .inl (cI, 6, .inl (upd (upd (upd (upd (upd (upd (fun _ => 0) 0 0) 1 0) 2 0) 3 0) 1 0) 2 0))), ((p1 89), .inl (cI, 6, .inl (upd (upd (upd (upd (upd (upd (fun _ => 0) 0 0) 1 0) 2 0) 3 0) 1 0) 2 0))), ((p1 18), .inl (cI, 2, .inl (fun _ => 0)))] H := hP
  have hD : va_D A [((p1 86), .inl (cI, 5, .inl (upd (upd (upd (upd (upd (upd (upd (upd (upd (upd (upd (fun _ => 0) 0 0) 0 1) 1 0) 1 1) 2 0) 2 1) 2 2) 1 2) 0 2) 1 0) 1 1))), ((p1 88), .inl (cI, 5, .inl (upd (upd (upd (upd (upd (upd (upd (fun _ => 0) 0 (-1)) 1 (-1)) 2 (-1)) 2 0) 1 0) 0 0) 1 (-1)))), ((p1 14), .inl (cI, 2, .inl (fun _ => 0))), ((p1 87), .inl (cI, 5, .inl (upd (upd (upd (fun _ => 0) 2 0) 1 0) 0 0))), (p0, .inr (7, oM p1 i7 j7)), ((p1 84), .inl (cI, 12, .inl (upd (upd (upd (upd (upd (upd (upd (upd (upd (upd (upd (upd (fun _ => 0) 0 0) 1 0) 2 0) 3 0) 4 0) 5 0) 6 0) 7 0) 2 0) 3 0) 4 0) 5 0))), ((p1 85), .inl (cI, 6, .inl (upd (upd (upd (upd (upd (upd (fun _ => 0) 0 0) 1 0) 2 0) 3 0) 1 0) 2 0))), ((p1 89), .inl (cI, 6, .inl (upd (upd (upd (upd (upd (upd (fun _ => 0) 0 0) 1 0) 2 0) 3 0) 1 0) 2 0))), ((p1 18), .inl (cI, 2, .inl (fun _ => 0)))] := hD
  refine lv_if_eq (tgt := 152) hx hb dX7_solves_136 (by decide) (fun _ => ?_) (fun q9 => absurd q9 (by decide +kernel))
  refine lv_iload_n hx hb dX7_solves_152 rfl (lv_at hl 2 rfl) ?_
  refine lv_iconst (v := 1) hx hb dX7_solves_153 (by decide +kernel) ?_
  refine lv_iadd hx hb dX7_solves_154 ?_
  refine k_int (v := 2) (by decide +kernel) ?_
  refine lv_iload_n hx hb dX7_solves_155 rfl (lv_at hl 5 rfl) ?_
  refine lv_icmp_ne (tgt := 198) hx hb dX7_solves_156 (by decide) (fun _ => ?_) (fun q9 => absurd q9 (by decide +kernel))
  refine lv_iinc (v := 2) (lv' := [(3, .int 2), (5, .int 0), (4, .int 1), (0, .ref p0), (1, .int 1), (2, .int 3)]) hx hb dX7_solves_198 hl (k := 2) rfl (by decide +kernel) (by decide) rfl (fun ls hl => ?_)
  refine lv_aload_n hx hb dX7_solves_201 rfl (lv_at hl 3 rfl) ?_
  refine k_get (D := (dC, dI)) (ci := 7) (v := .ref (p1 86)) (C := RX7) (T := TX7) (N := 92) hx hb hts hinX7 hown hK hP 4 rfl rfl 86 (by decide) w_0 rfl rfl dX7_solves_202 ?_
  refine lv_iload_n hx hb dX7_solves_205 rfl (lv_at hl 0 rfl) ?_
  refine lv_iconst (v := 0) hx hb dX7_solves_206 (by decide +kernel) ?_
  refine k_iast (g := (upd (upd (upd (upd (upd (upd (upd (upd (upd (upd (upd (upd (fun _ => 0) 0 0) 0 1) 1 0) 1 1) 2 0) 2 1) 2 2) 1 2) 0 2) 1 0) 1 1) 2 0)) (ws' := [((p1 86), .inl (cI, 5, .inl (upd (upd (upd (upd (upd (upd (upd (upd (upd (upd (upd (upd (fun _ => 0) 0 0) 0 1) 1 0) 1 1) 2 0) 2 1) 2 2) 1 2) 0 2) 1 0) 1 1) 2 0))), ((p1 88), .inl (cI, 5, .inl (upd (upd (upd (upd (upd (upd (upd (fun _ => 0) 0 (-1)) 1 (-1)) 2 (-1)) 2 0) 1 0) 0 0) 1 (-1)))), ((p1 14), .inl (cI, 2, .inl (fun _ => 0))), ((p1 87), .inl (cI, 5, .inl (upd (upd (upd (fun _ => 0) 2 0) 1 0) 0 0))), (p0, .inr (7, oM p1 i7 j7)), ((p1 84), .inl (cI, 12, .inl (upd (upd (upd (upd (upd (upd (upd (upd (upd (upd (upd (upd (fun _ => 0) 0 0) 1 0) 2 0) 3 0) 4 0) 5 0) 6 0) 7 0) 2 0) 3 0) 4 0) 5 0))), ((p1 85), .inl (cI, 6, .inl (upd (upd (upd (upd (upd (upd (fun _ => 0) 0 0) 1 0) 2 0) 3 0) 1 0) 2 0))), ((p1 89), .inl (cI, 6, .inl (upd (upd (upd (upd (upd (upd (fun _ => 0) 0 0) 1 0) 2 0) 3 0) 1 0) 2 0))), ((p1 18), .inl (cI, 2, .inl (fun _ => 0)))]) hx hb hK hP hD hS 0 0 2 rfl rfl rfl (Nat.le_of_ble_eq_true rfl) (Nat.le_of_ble_eq_true rfl) rfl rfl dX7_solves_207 (fun H locs hP hD hS => ?_)
  refine lv_aload_n hx hb dX7_solves_208 rfl (lv_at hl 3 rfl) ?_
  refine k_get (D := (dC, dI)) (ci := 7) (v := .ref (p1 88)) (C := RX7) (T := TX7) (N := 92) hx hb hts hinX7 hown hK hP 4 rfl rfl 88 (by decide) w_1 rfl rfl dX7_solves_209 ?_
  refine lv_iload_n hx hb dX7_solves_212 rfl (lv_at hl 0 rfl) ?_
  refine lv_iconst (v := (-1)) hx hb dX7_solves_213 (by decide +kernel) ?_
  refine k_iast (g := (upd (upd (upd (upd (upd (upd (upd (upd (fun _ => 0) 0 (-1)) 1 (-1)) 2 (-1)) 2 0) 1 0) 0 0) 1 (-1)) 2 (-1))) (ws' := [((p1 86), .inl (cI, 5, .inl (upd (upd (upd (upd (upd (upd (upd (upd (upd (upd (upd (upd (fun _ => 0) 0 0) 0 1) 1 0) 1 1) 2 0) 2 1) 2 2) 1 2) 0 2) 1 0) 1 1) 2 0))), ((p1 88), .inl (cI, 5, .inl (upd (upd (upd (upd (upd (upd (upd (upd (fun _ => 0) 0 (-1)) 1 (-1)) 2 (-1)) 2 0) 1 0) 0 0) 1 (-1)) 2 (-1)))), ((p1 14), .inl (cI, 2, .inl (fun _ => 0))), ((p1 87), .inl (cI, 5, .inl (upd (upd (upd (fun _ => 0) 2 0) 1 0) 0 0))), (p0, .inr (7, oM p1 i7 j7)), ((p1 84), .inl (cI, 12, .inl (upd (upd (upd (upd (upd (upd (upd (upd (upd (upd (upd (upd (fun _ => 0) 0 0) 1 0) 2 0) 3 0) 4 0) 5 0) 6 0) 7 0) 2 0) 3 0) 4 0) 5 0))), ((p1 85), .inl (cI, 6, .inl (upd (upd (upd (upd (upd (upd (fun _ => 0) 0 0) 1 0) 2 0) 3 0) 1 0) 2 0))), ((p1 89), .inl (cI, 6, .inl (upd (upd (upd (upd (upd (upd (fun _ => 0) 0 0) 1 0) 2 0) 3 0) 1 0) 2 0))), ((p1 18), .inl (cI, 2, .inl (fun _ => 0)))]) hx hb hK hP hD hS 1 0 2 rfl rfl rfl (Nat.le_of_ble_eq_true rfl) (Nat.le_of_ble_eq_true rfl) rfl rfl dX7_solves_214 (fun H locs hP hD hS => ?_)
  refine lv_goto (tgt := 16) hx hb dX7_solves_215 (by decide) ?_
  refine lv_iload_n hx hb dX7_solves_16 rfl (lv_at hl 0 rfl) ?_
  refine lv_iload_n hx hb dX7_solves_17 rfl (lv_at hl 4 rfl) ?_
  refine lv_icmp_lt (tgt := 218) hx hb dX7_solves_18 (by decide) (fun q9 => absurd q9 (by decide +kernel)) (fun _ => ?_)
  refine lv_iload_n hx hb dX7_solves_21 rfl (lv_at hl 0 rfl) ?_
  refine lv_iconst (v := 2) hx hb dX7_solves_22 (by decide +kernel) ?_
  refine lv_irem hx hb dX7_solves_23 (by decide +kernel) ?_
  refine k_int (v := 0) (by decide +kernel) ?_
  refine lv_istore (lv' := [(4, .int 0), (3, .int 2), (5, .int 0), (0, .ref p0), (1, .int 1), (2, .int 3)]) hx hb dX7_solves_24 hl (by decide) rfl (fun ls hl => ?_)
  refine lv_aload_n hx hb dX7_solves_26 rfl (lv_at hl 3 rfl) ?_
  refine k_get (D := (dC, dI)) (ci := 7) (v := .ref (p1 86)) (C := RX7) (T := TX7) (N := 92) hx hb hts hinX7 hown hK hP 4 rfl rfl 86 (by decide) w_0 rfl rfl dX7_solves_27 ?_
  refine lv_iload_n hx hb dX7_solves_30 rfl (lv_at hl 1 rfl) ?_
  refine k_iald (v := 0) hx hb hK hP 0 0 2 rfl rfl rfl (Nat.le_of_ble_eq_true rfl) (Nat.le_of_ble_eq_true rfl) rfl dX7_solves_31 ?_
  refine lv_aload_n hx hb dX7_solves_32 rfl (lv_at hl 3 rfl) ?_
  refine k_get (D := (dC, dI)) (ci := 7) (v := .ref (p1 18)) (C := RX7) (T := TX7) (N := 92) hx hb hts hinX7 hown hK hP 4 rfl rfl 18 (by decide) w_2 rfl rfl dX7_solves_33 ?_
  refine lv_aload_n hx hb dX7_solves_36 rfl (lv_at hl 3 rfl) ?_
  refine k_get (D := (dC, dI)) (ci := 7) (v := .int 0) (C := RX7) (T := TX7) (N := 92) hx hb hts hinX7 hown hK hP 4 rfl rfl 13 (by decide) w_3 rfl rfl dX7_solves_37 ?_
  refine k_iald (v := 0) hx hb hK hP 8 0 0 rfl rfl rfl (Nat.le_of_ble_eq_true rfl) (Nat.le_of_ble_eq_true rfl) rfl dX7_solves_40 ?_
  refine lv_icmp_le (tgt := 53) hx hb dX7_solves_41 (by decide) (fun _ => ?_) (fun q9 => absurd q9 (by decide +kernel))
  refine lv_aload_n hx hb dX7_solves_53 rfl (lv_at hl 3 rfl) ?_
  refine lv_iload_n hx hb dX7_solves_54 rfl (lv_at hl 1 rfl) ?_
  refine lv_aload_n hx hb dX7_solves_55 rfl (lv_at hl 3 rfl) ?_
  refine k_get (D := (dC, dI)) (ci := 7) (v := .ref (p1 86)) (C := RX7) (T := TX7) (N := 92) hx hb hts hinX7 hown hK hP 4 rfl rfl 86 (by decide) w_0 rfl rfl dX7_solves_56 ?_
  refine lv_iload_n hx hb dX7_solves_59 rfl (lv_at hl 1 rfl) ?_
  refine k_iald (v := 0) hx hb hK hP 0 0 2 rfl rfl rfl (Nat.le_of_ble_eq_true rfl) (Nat.le_of_ble_eq_true rfl) rfl dX7_solves_60 ?_
  refine lv_iload hx hb dX7_solves_61 (lv_at hl 0 rfl) ?_
  refine k_ci (wc := [(p0, .inr (7, oM p1 i7 j7)), ((p1 18), .inl (cI, 2, .inl (fun _ => 0)))]) (wr := [((p1 86), .inl (cI, 5, .inl (upd (upd (upd (upd (upd (upd (upd (upd (upd (upd (upd (upd (fun _ => 0) 0 0) 0 1) 1 0) 1 1) 2 0) 2 1) 2 2) 1 2) 0 2) 1 0) 1 1) 2 0))), ((p1 88), .inl (cI, 5, .inl (upd (upd (upd (upd (upd (upd (upd (upd (fun _ => 0) 0 (-1)) 1 (-1)) 2 (-1)) 2 0) 1 0) 0 0) 1 (-1)) 2 (-1)))), ((p1 14), .inl (cI, 2, .inl (fun _ => 0))), ((p1 87), .inl (cI, 5, .inl (upd (upd (upd (fun _ => 0) 2 0) 1 0) 0 0))), ((p1 84), .inl (cI, 12, .inl (upd (upd (upd (upd (upd (upd (upd (upd (upd (upd (upd (upd (fun _ => 0) 0 0) 1 0) 2 0) 3 0) 4 0) 5 0) 6 0) 7 0) 2 0) 3 0) 4 0) 5 0))), ((p1 85), .inl (cI, 6, .inl (upd (upd (upd (upd (upd (upd (fun _ => 0) 0 0) 1 0) 2 0) 3 0) 1 0) 2 0))), ((p1 89), .inl (cI, 6, .inl (upd (upd (upd (upd (upd (upd (fun _ => 0) 0 0) 1 0) 2 0) 3 0) 1 0) 2 0)))]) (fun hPc hDc hFc => va_runV (As := [.int 2, .int 0, .int 0]) (rest := []) ⟨hx, hb, hml, hown, hts⟩ (c_X7_nextSaid_v2 l dC dI cI cJ cZ cM p0 p1 H.size) (cwV 3 hts gX7_solves_X7_nextSaid rfl rfl rfl (by decide +kernel) ⟨(Nat.le_of_ble_eq_true rfl), (Nat.le_of_ble_eq_true rfl)⟩) (k_pV hPc hDc hK hN hC hS hFc hP (q0 := 4) (ci := 7) rfl rfl) rfl rfl hl.1 rfl (lv_room (Nat.le_of_ble_eq_true rfl)) dX7_solves_63 ⟨(Nat.le_of_ble_eq_true rfl), (Nat.le_of_ble_eq_true rfl)⟩) hP hD hS hA [4, 8] [0, 1, 2, 3, 5, 6, 7] rfl rfl rfl rfl (by decide) (fun _ => rfl) 0 0 rfl rfl (fun r_5 u_6 H locs hw hP hD hS => ?_)
  obtain rfl : r_5 = 0 := hw
  have hP : va_P (dC, dI) vwCl [((p1 86), .inl (cI, 5, .inl (upd (upd (upd (upd (upd (upd (upd (upd (upd (upd (upd (upd (fun _ => 0) 0 0) 0 1) 1 0) 1 1) 2 0) 2 1) 2 2) 1 2) 0 2) 1 0) 1 1) 2 0))), ((p1 88), .inl (cI, 5, .inl (upd (upd (upd (upd (upd (upd (upd (upd (fun _ => 0) 0 (-1)) 1 (-1)) 2 (-1)) 2 0) 1 0) 0 0) 1 (-1)) 2 (-1)))), ((p1 14), .inl (cI, 2, .inl (fun _ => 0))), ((p1 87), .inl (cI, 5, .inl (upd (upd (upd (fun _ => 0) 2 0) 1 0) 0 0))), ((p1 84), .inl (cI, 12, .inl (upd (upd (upd (upd (upd (upd (upd (upd (upd (upd (upd (upd (fun _ => 0) 0 0) 1 0) 2 0) 3 0) 4 0) 5 0) 6 0) 7 0) 2 0) 3 0) 4 0) 5 0))), ((p1 85), .inl (cI, 6, .inl (upd (upd (upd (upd (upd (upd (fun _ => 0) 0 0) 1 0) 2 0) 3 0) 1 0) 2 0))), ((p1 89), .inl (cI, 6, .inl (upd (upd (upd (upd (upd (upd (fun _ => 0) 0 0) 1 0) 2 0) 3 0) 1 0) 2 0))), (p0, .inr (7, oM p1 i7 j7)), ((p1 18), .inl (cI, 2, .inl (fun _ => 0)))] H := hP
  have hD : va_D A [((p1 86), .inl (cI, 5, .inl (upd (upd (upd (upd (upd (upd (upd (upd (upd (upd (upd (upd (fun _ => 0) 0 0) 0 1) 1 0) 1 1) 2 0) 2 1) 2 2) 1 2) 0 2) 1 0) 1 1) 2 0))), ((p1 88), .inl (cI, 5, .inl (upd (upd (upd (upd (upd (upd (upd (upd (fun _ => 0) 0 (-1)) 1 (-1)) 2 (-1)) 2 0) 1 0) 0 0) 1 (-1)) 2 (-1)))), ((p1 14), .inl (cI, 2, .inl (fun _ => 0))), ((p1 87), .inl (cI, 5, .inl (upd (upd (upd (fun _ => 0) 2 0) 1 0) 0 0))), ((p1 84), .inl (cI, 12, .inl (upd (upd (upd (upd (upd (upd (upd (upd (upd (upd (upd (upd (fun _ => 0) 0 0) 1 0) 2 0) 3 0) 4 0) 5 0) 6 0) 7 0) 2 0) 3 0) 4 0) 5 0))), ((p1 85), .inl (cI, 6, .inl (upd (upd (upd (upd (upd (upd (fun _ => 0) 0 0) 1 0) 2 0) 3 0) 1 0) 2 0))), ((p1 89), .inl (cI, 6, .inl (upd (upd (upd (upd (upd (upd (fun _ => 0) 0 0) 1 0) 2 0) 3 0) 1 0) 2 0))), (p0, .inr (7, oM p1 i7 j7)), ((p1 18), .inl (cI, 2, .inl (fun _ => 0)))] := hD
  refine lv_istore (lv' := [(5, .int 0), (4, .int 0), (3, .int 2), (0, .ref p0), (1, .int 1), (2, .int 3)]) hx hb dX7_solves_66 hl (by decide) rfl (fun ls hl => ?_)
  refine lv_aload_n hx hb dX7_solves_68 rfl (lv_at hl 3 rfl) ?_
  refine k_get (D := (dC, dI)) (ci := 7) (v := .ref (p1 86)) (C := RX7) (T := TX7) (N := 92) hx hb hts hinX7 hown hK hP 7 rfl rfl 86 (by decide) w_0 rfl rfl dX7_solves_69 ?_
  refine lv_iload_n hx hb dX7_solves_72 rfl (lv_at hl 2 rfl) ?_
  refine lv_iload hx hb dX7_solves_73 (lv_at hl 0 rfl) ?_
  refine lv_iconst (v := 1) hx hb dX7_solves_75 (by decide +kernel) ?_
  refine lv_iadd hx hb dX7_solves_76 ?_
  refine k_int (v := 1) (by decide +kernel) ?_
  refine k_iast (g := (upd (upd (upd (upd (upd (upd (upd (upd (upd (upd (upd (upd (upd (fun _ => 0) 0 0) 0 1) 1 0) 1 1) 2 0) 2 1) 2 2) 1 2) 0 2) 1 0) 1 1) 2 0) 2 1)) (ws' := [((p1 86), .inl (cI, 5, .inl (upd (upd (upd (upd (upd (upd (upd (upd (upd (upd (upd (upd (upd (fun _ => 0) 0 0) 0 1) 1 0) 1 1) 2 0) 2 1) 2 2) 1 2) 0 2) 1 0) 1 1) 2 0) 2 1))), ((p1 88), .inl (cI, 5, .inl (upd (upd (upd (upd (upd (upd (upd (upd (fun _ => 0) 0 (-1)) 1 (-1)) 2 (-1)) 2 0) 1 0) 0 0) 1 (-1)) 2 (-1)))), ((p1 14), .inl (cI, 2, .inl (fun _ => 0))), ((p1 87), .inl (cI, 5, .inl (upd (upd (upd (fun _ => 0) 2 0) 1 0) 0 0))), ((p1 84), .inl (cI, 12, .inl (upd (upd (upd (upd (upd (upd (upd (upd (upd (upd (upd (upd (fun _ => 0) 0 0) 1 0) 2 0) 3 0) 4 0) 5 0) 6 0) 7 0) 2 0) 3 0) 4 0) 5 0))), ((p1 85), .inl (cI, 6, .inl (upd (upd (upd (upd (upd (upd (fun _ => 0) 0 0) 1 0) 2 0) 3 0) 1 0) 2 0))), ((p1 89), .inl (cI, 6, .inl (upd (upd (upd (upd (upd (upd (fun _ => 0) 0 0) 1 0) 2 0) 3 0) 1 0) 2 0))), (p0, .inr (7, oM p1 i7 j7)), ((p1 18), .inl (cI, 2, .inl (fun _ => 0)))]) hx hb hK hP hD hS 0 0 2 rfl rfl rfl (Nat.le_of_ble_eq_true rfl) (Nat.le_of_ble_eq_true rfl) rfl rfl dX7_solves_77 (fun H locs hP hD hS => ?_)
  refine lv_iload hx hb dX7_solves_78 (lv_at hl 0 rfl) ?_
  refine lv_aload_n hx hb dX7_solves_80 rfl (lv_at hl 3 rfl) ?_
  refine k_get (D := (dC, dI)) (ci := 7) (v := .ref (p1 18)) (C := RX7) (T := TX7) (N := 92) hx hb hts hinX7 hown hK hP 7 rfl rfl 18 (by decide) w_2 rfl rfl dX7_solves_81 ?_
  refine lv_aload_n hx hb dX7_solves_84 rfl (lv_at hl 3 rfl) ?_
  refine k_get (D := (dC, dI)) (ci := 7) (v := .int 0) (C := RX7) (T := TX7) (N := 92) hx hb hts hinX7 hown hK hP 7 rfl rfl 13 (by decide) w_3 rfl rfl dX7_solves_85 ?_
  refine k_iald (v := 0) hx hb hK hP 8 0 0 rfl rfl rfl (Nat.le_of_ble_eq_true rfl) (Nat.le_of_ble_eq_true rfl) rfl dX7_solves_88 ?_
  refine lv_icmp_le (tgt := 127) hx hb dX7_solves_89 (by decide) (fun _ => ?_) (fun q9 => absurd q9 (by decide +kernel))
  refine lv_aload_n hx hb dX7_solves_127 rfl (lv_at hl 3 rfl) ?_
  refine lv_iload_n hx hb dX7_solves_128 rfl (lv_at hl 2 rfl) ?_
  refine lv_iload hx hb dX7_solves_129 (lv_at hl 1 rfl) ?_
  refine lv_iload hx hb dX7_solves_131 (lv_at hl 0 rfl) ?_
  refine k_ci (wc := [(p0, .inr (7, oM p1 i7 j7)), ((p1 84), .inl (cI, 12, .inl (upd (upd (upd (upd (upd (upd (upd (upd (upd (upd (upd (upd (fun _ => 0) 0 0) 1 0) 2 0) 3 0) 4 0) 5 0) 6 0) 7 0) 2 0) 3 0) 4 0) 5 0))), ((p1 85), .inl (cI, 6, .inl (upd (upd (upd (upd (upd (upd (fun _ => 0) 0 0) 1 0) 2 0) 3 0) 1 0) 2 0))), ((p1 89), .inl (cI, 6, .inl (upd (upd (upd (upd (upd (upd (fun _ => 0) 0 0) 1 0) 2 0) 3 0) 1 0) 2 0))), ((p1 18), .inl (cI, 2, .inl (fun _ => 0)))]) (wr := [((p1 86), .inl (cI, 5, .inl (upd (upd (upd (upd (upd (upd (upd (upd (upd (upd (upd (upd (upd (fun _ => 0) 0 0) 0 1) 1 0) 1 1) 2 0) 2 1) 2 2) 1 2) 0 2) 1 0) 1 1) 2 0) 2 1))), ((p1 88), .inl (cI, 5, .inl (upd (upd (upd (upd (upd (upd (upd (upd (fun _ => 0) 0 (-1)) 1 (-1)) 2 (-1)) 2 0) 1 0) 0 0) 1 (-1)) 2 (-1)))), ((p1 14), .inl (cI, 2, .inl (fun _ => 0))), ((p1 87), .inl (cI, 5, .inl (upd (upd (upd (fun _ => 0) 2 0) 1 0) 0 0)))]) (fun hPc hDc hFc => va_runV (As := [.int 2, .int 0, .int 0]) (rest := []) ⟨hx, hb, hml, hown, hts⟩ (c_X7_turns_v9 l dC dI cI cJ cZ cM p0 p1 H.size) (cwV 3 hts gX7_solves_X7_turns rfl rfl rfl (by decide +kernel) ⟨(Nat.le_of_ble_eq_true rfl), (Nat.le_of_ble_eq_true rfl)⟩) (k_pV hPc hDc hK hN hC hS hFc hP (q0 := 7) (ci := 7) rfl rfl) rfl rfl hl.1 rfl (lv_room (Nat.le_of_ble_eq_true rfl)) dX7_solves_133 ⟨(Nat.le_of_ble_eq_true rfl), (Nat.le_of_ble_eq_true rfl)⟩) hP hD hS hA [7, 4, 5, 6, 8] [0, 1, 2, 3] rfl rfl rfl rfl (by decide) (fun _ => rfl) 0 0 rfl rfl (fun r_7 u_8 H locs hw hP hD hS => ?_)
  obtain rfl : r_7 = 0 := hw
  have hP : va_P (dC, dI) vwCl [((p1 86), .inl (cI, 5, .inl (upd (upd (upd (upd (upd (upd (upd (upd (upd (upd (upd (upd (upd (fun _ => 0) 0 0) 0 1) 1 0) 1 1) 2 0) 2 1) 2 2) 1 2) 0 2) 1 0) 1 1) 2 0) 2 1))), ((p1 88), .inl (cI, 5, .inl (upd (upd (upd (upd (upd (upd (upd (upd (fun _ => 0) 0 (-1)) 1 (-1)) 2 (-1)) 2 0) 1 0) 0 0) 1 (-1)) 2 (-1)))), ((p1 14), .inl (cI, 2, .inl (fun _ => 0))), ((p1 87), .inl (cI, 5, .inl (upd (upd (upd (fun _ => 0) 2 0) 1 0) 0 0))), (p0, .inr (7, oM p1 i7 j7)), ((p1 84), .inl (cI, 12, .inl (upd (upd (upd (upd (upd (upd (upd (upd (upd (upd (upd (upd (upd (upd (fun _ => 0) 0 0) 1 0) 2 0) 3 0) 4 0) 5 0) 6 0) 7 0) 2 0) 3 0) 4 0) 5 0) 6 0) 7 0))), ((p1 85), .inl (cI, 6, .inl (upd (upd (upd (upd (upd (upd (upd (fun _ => 0) 0 0) 1 0) 2 0) 3 0) 1 0) 2 0) 3 0))), ((p1 89), .inl (cI, 6, .inl (upd (upd (upd (upd (upd (upd (upd (fun _ => 0) 0 0) 1 0) 2 0) 3 0) 1 0) 2 0) 3 0))), ((p1 18), .inl (cI, 2, .inl (fun _ => 0)))] H := hP
  have hD : va_D A [((p1 86), .inl (cI, 5, .inl (upd (upd (upd (upd (upd (upd (upd (upd (upd (upd (upd (upd (upd (fun _ => 0) 0 0) 0 1) 1 0) 1 1) 2 0) 2 1) 2 2) 1 2) 0 2) 1 0) 1 1) 2 0) 2 1))), ((p1 88), .inl (cI, 5, .inl (upd (upd (upd (upd (upd (upd (upd (upd (fun _ => 0) 0 (-1)) 1 (-1)) 2 (-1)) 2 0) 1 0) 0 0) 1 (-1)) 2 (-1)))), ((p1 14), .inl (cI, 2, .inl (fun _ => 0))), ((p1 87), .inl (cI, 5, .inl (upd (upd (upd (fun _ => 0) 2 0) 1 0) 0 0))), (p0, .inr (7, oM p1 i7 j7)), ((p1 84), .inl (cI, 12, .inl (upd (upd (upd (upd (upd (upd (upd (upd (upd (upd (upd (upd (upd (upd (fun _ => 0) 0 0) 1 0) 2 0) 3 0) 4 0) 5 0) 6 0) 7 0) 2 0) 3 0) 4 0) 5 0) 6 0) 7 0))), ((p1 85), .inl (cI, 6, .inl (upd (upd (upd (upd (upd (upd (upd (fun _ => 0) 0 0) 1 0) 2 0) 3 0) 1 0) 2 0) 3 0))), ((p1 89), .inl (cI, 6, .inl (upd (upd (upd (upd (upd (upd (upd (fun _ => 0) 0 0) 1 0) 2 0) 3 0) 1 0) 2 0) 3 0))), ((p1 18), .inl (cI, 2, .inl (fun _ => 0)))] := hD
  refine lv_if_eq (tgt := 152) hx hb dX7_solves_136 (by decide) (fun _ => ?_) (fun q9 => absurd q9 (by decide +kernel))
  refine lv_iload_n hx hb dX7_solves_152 rfl (lv_at hl 2 rfl) ?_
  refine lv_iconst (v := 1) hx hb dX7_solves_153 (by decide +kernel) ?_
  refine lv_iadd hx hb dX7_solves_154 ?_
  refine k_int (v := 3) (by decide +kernel) ?_
  refine lv_iload_n hx hb dX7_solves_155 rfl (lv_at hl 5 rfl) ?_
  refine lv_icmp_ne (tgt := 198) hx hb dX7_solves_156 (by decide) (fun q9 => absurd q9 (by decide +kernel)) (fun _ => ?_)
  refine lv_aload_n hx hb dX7_solves_159 rfl (lv_at hl 3 rfl) ?_
  refine lv_iload_n hx hb dX7_solves_160 rfl (lv_at hl 2 rfl) ?_
  refine lv_iload hx hb dX7_solves_161 (lv_at hl 1 rfl) ?_
  refine lv_aload_n hx hb dX7_solves_163 rfl (lv_at hl 3 rfl) ?_
  refine lv_aload_n hx hb dX7_solves_164 rfl (lv_at hl 3 rfl) ?_
  refine k_get (D := (dC, dI)) (ci := 7) (v := .ref (p1 84)) (C := RX7) (T := TX7) (N := 92) hx hb hts hinX7 hown hK hP 4 rfl rfl 84 (by decide) w_4 rfl rfl dX7_solves_165 ?_
  refine lv_iconst (v := 2) hx hb dX7_solves_168 (by decide +kernel) ?_
  refine lv_iload_n hx hb dX7_solves_169 rfl (lv_at hl 5 rfl) ?_
  refine lv_imul hx hb dX7_solves_170 ?_
  refine k_int (v := 6) (by decide +kernel) ?_
  refine k_iald (v := 0) hx hb hK hP 5 0 6 rfl rfl rfl (Nat.le_of_ble_eq_true rfl) (Nat.le_of_ble_eq_true rfl) rfl dX7_solves_171 ?_
  refine k_ci (wc := [(p0, .inr (7, oM p1 i7 j7)), ((p1 14), .inl (cI, 2, .inl (fun _ => 0)))]) (wr := [((p1 86), .inl (cI, 5, .inl (upd (upd (upd (upd (upd (upd (upd (upd (upd (upd (upd (upd (upd (fun _ => 0) 0 0) 0 1) 1 0) 1 1) 2 0) 2 1) 2 2) 1 2) 0 2) 1 0) 1 1) 2 0) 2 1))), ((p1 88), .inl (cI, 5, .inl (upd (upd (upd (upd (upd (upd (upd (upd (fun _ => 0) 0 (-1)) 1 (-1)) 2 (-1)) 2 0) 1 0) 0 0) 1 (-1)) 2 (-1)))), ((p1 87), .inl (cI, 5, .inl (upd (upd (upd (fun _ => 0) 2 0) 1 0) 0 0))), ((p1 84), .inl (cI, 12, .inl (upd (upd (upd (upd (upd (upd (upd (upd (upd (upd (upd (upd (upd (upd (fun _ => 0) 0 0) 1 0) 2 0) 3 0) 4 0) 5 0) 6 0) 7 0) 2 0) 3 0) 4 0) 5 0) 6 0) 7 0))), ((p1 85), .inl (cI, 6, .inl (upd (upd (upd (upd (upd (upd (upd (fun _ => 0) 0 0) 1 0) 2 0) 3 0) 1 0) 2 0) 3 0))), ((p1 89), .inl (cI, 6, .inl (upd (upd (upd (upd (upd (upd (upd (fun _ => 0) 0 0) 1 0) 2 0) 3 0) 1 0) 2 0) 3 0))), ((p1 18), .inl (cI, 2, .inl (fun _ => 0)))]) (fun hPc hDc hFc => va_runV (As := [.int 0]) (rest := [.int 0, .int 2, .ref p0]) ⟨hx, hb, hml, hown, hts⟩ (c_X7_worthOf_v4 l dC dI cI cJ cZ cM p0 p1 H.size) (cwV 1 hts gX7_solves_X7_worthOf rfl rfl rfl (by decide +kernel) ⟨(Nat.le_of_ble_eq_true rfl), (Nat.le_of_ble_eq_true rfl)⟩) (k_pV hPc hDc hK hN hC hS hFc hP (q0 := 4) (ci := 7) rfl rfl) rfl rfl hl.1 rfl (lv_room (Nat.le_of_ble_eq_true rfl)) dX7_solves_172 ⟨(Nat.le_of_ble_eq_true rfl), (Nat.le_of_ble_eq_true rfl)⟩) hP hD hS hA [4, 2] [0, 1, 3, 5, 6, 7, 8] rfl rfl rfl rfl (by decide) (fun _ => rfl) 0 0 rfl rfl (fun r_9 u_10 H locs hw hP hD hS => ?_)
  obtain rfl : r_9 = 0 := hw
  have hP : va_P (dC, dI) vwCl [((p1 86), .inl (cI, 5, .inl (upd (upd (upd (upd (upd (upd (upd (upd (upd (upd (upd (upd (upd (fun _ => 0) 0 0) 0 1) 1 0) 1 1) 2 0) 2 1) 2 2) 1 2) 0 2) 1 0) 1 1) 2 0) 2 1))), ((p1 88), .inl (cI, 5, .inl (upd (upd (upd (upd (upd (upd (upd (upd (fun _ => 0) 0 (-1)) 1 (-1)) 2 (-1)) 2 0) 1 0) 0 0) 1 (-1)) 2 (-1)))), ((p1 87), .inl (cI, 5, .inl (upd (upd (upd (fun _ => 0) 2 0) 1 0) 0 0))), ((p1 84), .inl (cI, 12, .inl (upd (upd (upd (upd (upd (upd (upd (upd (upd (upd (upd (upd (upd (upd (fun _ => 0) 0 0) 1 0) 2 0) 3 0) 4 0) 5 0) 6 0) 7 0) 2 0) 3 0) 4 0) 5 0) 6 0) 7 0))), ((p1 85), .inl (cI, 6, .inl (upd (upd (upd (upd (upd (upd (upd (fun _ => 0) 0 0) 1 0) 2 0) 3 0) 1 0) 2 0) 3 0))), ((p1 89), .inl (cI, 6, .inl (upd (upd (upd (upd (upd (upd (upd (fun _ => 0) 0 0) 1 0) 2 0) 3 0) 1 0) 2 0) 3 0))), ((p1 18), .inl (cI, 2, .inl (fun _ => 0))), (p0, .inr (7, oM p1 i7 j7)), ((p1 14), .inl (cI, 2, .inl (fun _ => 0)))] H := hP
  have hD : va_D A [((p1 86), .inl (cI, 5, .inl (upd (upd (upd (upd (upd (upd (upd (upd (upd (upd (upd (upd (upd (fun _ => 0) 0 0) 0 1) 1 0) 1 1) 2 0) 2 1) 2 2) 1 2) 0 2) 1 0) 1 1) 2 0) 2 1))), ((p1 88), .inl (cI, 5, .inl (upd (upd (upd (upd (upd (upd (upd (upd (fun _ => 0) 0 (-1)) 1 (-1)) 2 (-1)) 2 0) 1 0) 0 0) 1 (-1)) 2 (-1)))), ((p1 87), .inl (cI, 5, .inl (upd (upd (upd (fun _ => 0) 2 0) 1 0) 0 0))), ((p1 84), .inl (cI, 12, .inl (upd (upd (upd (upd (upd (upd (upd (upd (upd (upd (upd (upd (upd (upd (fun _ => 0) 0 0) 1 0) 2 0) 3 0) 4 0) 5 0) 6 0) 7 0) 2 0) 3 0) 4 0) 5 0) 6 0) 7 0))), ((p1 85), .inl (cI, 6, .inl (upd (upd (upd (upd (upd (upd (upd (fun _ => 0) 0 0) 1 0) 2 0) 3 0) 1 0) 2 0) 3 0))), ((p1 89), .inl (cI, 6, .inl (upd (upd (upd (upd (upd (upd (upd (fun _ => 0) 0 0) 1 0) 2 0) 3 0) 1 0) 2 0) 3 0))), ((p1 18), .inl (cI, 2, .inl (fun _ => 0))), (p0, .inr (7, oM p1 i7 j7)), ((p1 14), .inl (cI, 2, .inl (fun _ => 0)))] := hD
  refine lv_aload_n hx hb dX7_solves_175 rfl (lv_at hl 3 rfl) ?_
  refine lv_aload_n hx hb dX7_solves_176 rfl (lv_at hl 3 rfl) ?_
  refine k_get (D := (dC, dI)) (ci := 7) (v := .ref (p1 84)) (C := RX7) (T := TX7) (N := 92) hx hb hts hinX7 hown hK hP 7 rfl rfl 84 (by decide) w_4 rfl rfl dX7_solves_177 ?_
  refine lv_iconst (v := 2) hx hb dX7_solves_180 (by decide +kernel) ?_
  refine lv_iload_n hx hb dX7_solves_181 rfl (lv_at hl 5 rfl) ?_
  refine lv_imul hx hb dX7_solves_182 ?_
  refine k_int (v := 6) (by decide +kernel) ?_
  refine lv_iconst (v := 1) hx hb dX7_solves_183 (by decide +kernel) ?_
  refine lv_iadd hx hb dX7_solves_184 ?_
  refine k_int (v := 7) (by decide +kernel) ?_
  refine k_iald (v := 0) hx hb hK hP 3 0 7 rfl rfl rfl (Nat.le_of_ble_eq_true rfl) (Nat.le_of_ble_eq_true rfl) rfl dX7_solves_185 ?_
  refine k_ci (wc := [(p0, .inr (7, oM p1 i7 j7)), ((p1 14), .inl (cI, 2, .inl (fun _ => 0)))]) (wr := [((p1 86), .inl (cI, 5, .inl (upd (upd (upd (upd (upd (upd (upd (upd (upd (upd (upd (upd (upd (fun _ => 0) 0 0) 0 1) 1 0) 1 1) 2 0) 2 1) 2 2) 1 2) 0 2) 1 0) 1 1) 2 0) 2 1))), ((p1 88), .inl (cI, 5, .inl (upd (upd (upd (upd (upd (upd (upd (upd (fun _ => 0) 0 (-1)) 1 (-1)) 2 (-1)) 2 0) 1 0) 0 0) 1 (-1)) 2 (-1)))), ((p1 87), .inl (cI, 5, .inl (upd (upd (upd (fun _ => 0) 2 0) 1 0) 0 0))), ((p1 84), .inl (cI, 12, .inl (upd (upd (upd (upd (upd (upd (upd (upd (upd (upd (upd (upd (upd (upd (fun _ => 0) 0 0) 1 0) 2 0) 3 0) 4 0) 5 0) 6 0) 7 0) 2 0) 3 0) 4 0) 5 0) 6 0) 7 0))), ((p1 85), .inl (cI, 6, .inl (upd (upd (upd (upd (upd (upd (upd (fun _ => 0) 0 0) 1 0) 2 0) 3 0) 1 0) 2 0) 3 0))), ((p1 89), .inl (cI, 6, .inl (upd (upd (upd (upd (upd (upd (upd (fun _ => 0) 0 0) 1 0) 2 0) 3 0) 1 0) 2 0) 3 0))), ((p1 18), .inl (cI, 2, .inl (fun _ => 0)))]) (fun hPc hDc hFc => va_runV (As := [.int 0]) (rest := [.int 0, .int 0, .int 2, .ref p0]) ⟨hx, hb, hml, hown, hts⟩ (c_X7_worthOf_v4 l dC dI cI cJ cZ cM p0 p1 H.size) (cwV 1 hts gX7_solves_X7_worthOf rfl rfl rfl (by decide +kernel) ⟨(Nat.le_of_ble_eq_true rfl), (Nat.le_of_ble_eq_true rfl)⟩) (k_pV hPc hDc hK hN hC hS hFc hP (q0 := 7) (ci := 7) rfl rfl) rfl rfl hl.1 rfl (lv_room (Nat.le_of_ble_eq_true rfl)) dX7_solves_186 ⟨(Nat.le_of_ble_eq_true rfl), (Nat.le_of_ble_eq_true rfl)⟩) hP hD hS hA [7, 8] [0, 1, 2, 3, 4, 5, 6] rfl rfl rfl rfl (by decide) (fun _ => rfl) 0 0 rfl rfl (fun r_11 u_12 H locs hw hP hD hS => ?_)
  obtain rfl : r_11 = 0 := hw
  have hP : va_P (dC, dI) vwCl [((p1 86), .inl (cI, 5, .inl (upd (upd (upd (upd (upd (upd (upd (upd (upd (upd (upd (upd (upd (fun _ => 0) 0 0) 0 1) 1 0) 1 1) 2 0) 2 1) 2 2) 1 2) 0 2) 1 0) 1 1) 2 0) 2 1))), ((p1 88), .inl (cI, 5, .inl (upd (upd (upd (upd (upd (upd (upd (upd (fun _ => 0) 0 (-1)) 1 (-1)) 2 (-1)) 2 0) 1 0) 0 0) 1 (-1)) 2 (-1)))), ((p1 87), .inl (cI, 5, .inl (upd (upd (upd (fun _ => 0) 2 0) 1 0) 0 0))), ((p1 84), .inl (cI, 12, .inl (upd (upd (upd (upd (upd (upd (upd (upd (upd (upd (upd (upd (upd (upd (fun _ => 0) 0 0) 1 0) 2 0) 3 0) 4 0) 5 0) 6 0) 7 0) 2 0) 3 0) 4 0) 5 0) 6 0) 7 0))), ((p1 85), .inl (cI, 6, .inl (upd (upd (upd (upd (upd (upd (upd (fun _ => 0) 0 0) 1 0) 2 0) 3 0) 1 0) 2 0) 3 0))), ((p1 89), .inl (cI, 6, .inl (upd (upd (upd (upd (upd (upd (upd (fun _ => 0) 0 0) 1 0) 2 0) 3 0) 1 0) 2 0) 3 0))), ((p1 18), .inl (cI, 2, .inl (fun _ => 0))), (p0, .inr (7, oM p1 i7 j7)), ((p1 14), .inl (cI, 2, .inl (fun _ => 0)))] H := hP
  have hD : va_D A [((p1 86), .inl (cI, 5, .inl (upd (upd (upd (upd (upd (upd (upd (upd (upd (upd (upd (upd (upd (fun _ => 0) 0 0) 0 1) 1 0) 1 1) 2 0) 2 1) 2 2) 1 2) 0 2) 1 0) 1 1) 2 0) 2 1))), ((p1 88), .inl (cI, 5, .inl (upd (upd (upd (upd (upd (upd (upd (upd (fun _ => 0) 0 (-1)) 1 (-1)) 2 (-1)) 2 0) 1 0) 0 0) 1 (-1)) 2 (-1)))), ((p1 87), .inl (cI, 5, .inl (upd (upd (upd (fun _ => 0) 2 0) 1 0) 0 0))), ((p1 84), .inl (cI, 12, .inl (upd (upd (upd (upd (upd (upd (upd (upd (upd (upd (upd (upd (upd (upd (fun _ => 0) 0 0) 1 0) 2 0) 3 0) 4 0) 5 0) 6 0) 7 0) 2 0) 3 0) 4 0) 5 0) 6 0) 7 0))), ((p1 85), .inl (cI, 6, .inl (upd (upd (upd (upd (upd (upd (upd (fun _ => 0) 0 0) 1 0) 2 0) 3 0) 1 0) 2 0) 3 0))), ((p1 89), .inl (cI, 6, .inl (upd (upd (upd (upd (upd (upd (upd (fun _ => 0) 0 0) 1 0) 2 0) 3 0) 1 0) 2 0) 3 0))), ((p1 18), .inl (cI, 2, .inl (fun _ => 0))), (p0, .inr (7, oM p1 i7 j7)), ((p1 14), .inl (cI, 2, .inl (fun _ => 0)))] := hD
  refine lv_isub hx hb dX7_solves_189 ?_
  refine k_int (v := 0) (by decide +kernel) ?_
  refine lv_iload hx hb dX7_solves_190 (lv_at hl 0 rfl) ?_
  refine k_cv (wc := [(p0, .inr (7, oM p1 i7 j7)), ((p1 88), .inl (cI, 5, .inl (upd (upd (upd (upd (upd (upd (upd (upd (fun _ => 0) 0 (-1)) 1 (-1)) 2 (-1)) 2 0) 1 0) 0 0) 1 (-1)) 2 (-1)))), ((p1 87), .inl (cI, 5, .inl (upd (upd (upd (fun _ => 0) 2 0) 1 0) 0 0)))]) (wr := [((p1 86), .inl (cI, 5, .inl (upd (upd (upd (upd (upd (upd (upd (upd (upd (upd (upd (upd (upd (fun _ => 0) 0 0) 0 1) 1 0) 1 1) 2 0) 2 1) 2 2) 1 2) 0 2) 1 0) 1 1) 2 0) 2 1))), ((p1 84), .inl (cI, 12, .inl (upd (upd (upd (upd (upd (upd (upd (upd (upd (upd (upd (upd (upd (upd (fun _ => 0) 0 0) 1 0) 2 0) 3 0) 4 0) 5 0) 6 0) 7 0) 2 0) 3 0) 4 0) 5 0) 6 0) 7 0))), ((p1 85), .inl (cI, 6, .inl (upd (upd (upd (upd (upd (upd (upd (fun _ => 0) 0 0) 1 0) 2 0) 3 0) 1 0) 2 0) 3 0))), ((p1 89), .inl (cI, 6, .inl (upd (upd (upd (upd (upd (upd (upd (fun _ => 0) 0 0) 1 0) 2 0) 3 0) 1 0) 2 0) 3 0))), ((p1 18), .inl (cI, 2, .inl (fun _ => 0))), ((p1 14), .inl (cI, 2, .inl (fun _ => 0)))]) (fun hPc hDc hFc => va_runV (As := [.int 2, .int 0, .int 0, .int 0]) (rest := []) ⟨hx, hb, hml, hown, hts⟩ (c_X7_offers_v7 l dC dI cI cJ cZ cM p0 p1 H.size) (cwV 4 hts gX7_solves_X7_offers rfl rfl rfl (by decide +kernel) ⟨(Nat.le_of_ble_eq_true rfl), (Nat.le_of_ble_eq_true rfl)⟩) (k_pV hPc hDc hK hN hC hS hFc hP (q0 := 7) (ci := 7) rfl rfl) rfl rfl hl.1 rfl (lv_room (Nat.le_of_ble_eq_true rfl)) dX7_solves_192 ⟨(Nat.le_of_ble_eq_true rfl), (Nat.le_of_ble_eq_true rfl)⟩) hP hD hS hA [7, 1, 2] [0, 3, 4, 5, 6, 8] rfl rfl rfl rfl (by decide) (fun _ => rfl) 0 0 rfl rfl (fun u_14 H locs hw hP hD hS => ?_)
  have hP : va_P (dC, dI) vwCl [((p1 86), .inl (cI, 5, .inl (upd (upd (upd (upd (upd (upd (upd (upd (upd (upd (upd (upd (upd (fun _ => 0) 0 0) 0 1) 1 0) 1 1) 2 0) 2 1) 2 2) 1 2) 0 2) 1 0) 1 1) 2 0) 2 1))), ((p1 84), .inl (cI, 12, .inl (upd (upd (upd (upd (upd (upd (upd (upd (upd (upd (upd (upd (upd (upd (fun _ => 0) 0 0) 1 0) 2 0) 3 0) 4 0) 5 0) 6 0) 7 0) 2 0) 3 0) 4 0) 5 0) 6 0) 7 0))), ((p1 85), .inl (cI, 6, .inl (upd (upd (upd (upd (upd (upd (upd (fun _ => 0) 0 0) 1 0) 2 0) 3 0) 1 0) 2 0) 3 0))), ((p1 89), .inl (cI, 6, .inl (upd (upd (upd (upd (upd (upd (upd (fun _ => 0) 0 0) 1 0) 2 0) 3 0) 1 0) 2 0) 3 0))), ((p1 18), .inl (cI, 2, .inl (fun _ => 0))), ((p1 14), .inl (cI, 2, .inl (fun _ => 0))), (p0, .inr (7, oM p1 i7 j7)), ((p1 88), .inl (cI, 5, .inl (upd (upd (upd (upd (upd (upd (upd (upd (upd (fun _ => 0) 0 (-1)) 1 (-1)) 2 (-1)) 2 0) 1 0) 0 0) 1 (-1)) 2 (-1)) 2 0))), ((p1 87), .inl (cI, 5, .inl (upd (upd (upd (upd (fun _ => 0) 2 0) 1 0) 0 0) 2 0)))] H := hP
  have hD : va_D A [((p1 86), .inl (cI, 5, .inl (upd (upd (upd (upd (upd (upd (upd (upd (upd (upd (upd (upd (upd (fun _ => 0) 0 0) 0 1) 1 0) 1 1) 2 0) 2 1) 2 2) 1 2) 0 2) 1 0) 1 1) 2 0) 2 1))), ((p1 84), .inl (cI, 12, .inl (upd (upd (upd (upd (upd (upd (upd (upd (upd (upd (upd (upd (upd (upd (fun _ => 0) 0 0) 1 0) 2 0) 3 0) 4 0) 5 0) 6 0) 7 0) 2 0) 3 0) 4 0) 5 0) 6 0) 7 0))), ((p1 85), .inl (cI, 6, .inl (upd (upd (upd (upd (upd (upd (upd (fun _ => 0) 0 0) 1 0) 2 0) 3 0) 1 0) 2 0) 3 0))), ((p1 89), .inl (cI, 6, .inl (upd (upd (upd (upd (upd (upd (upd (fun _ => 0) 0 0) 1 0) 2 0) 3 0) 1 0) 2 0) 3 0))), ((p1 18), .inl (cI, 2, .inl (fun _ => 0))), ((p1 14), .inl (cI, 2, .inl (fun _ => 0))), (p0, .inr (7, oM p1 i7 j7)), ((p1 88), .inl (cI, 5, .inl (upd (upd (upd (upd (upd (upd (upd (upd (upd (fun _ => 0) 0 (-1)) 1 (-1)) 2 (-1)) 2 0) 1 0) 0 0) 1 (-1)) 2 (-1)) 2 0))), ((p1 87), .inl (cI, 5, .inl (upd (upd (upd (upd (fun _ => 0) 2 0) 1 0) 0 0) 2 0)))] := hD
  refine lv_goto (tgt := 215) hx hb dX7_solves_195 (by decide) ?_
  refine lv_goto (tgt := 16) hx hb dX7_solves_215 (by decide) ?_
  refine lv_iload_n hx hb dX7_solves_16 rfl (lv_at hl 2 rfl) ?_
  refine lv_iload_n hx hb dX7_solves_17 rfl (lv_at hl 4 rfl) ?_
  refine lv_icmp_lt (tgt := 218) hx hb dX7_solves_18 (by decide) (fun q9 => absurd q9 (by decide +kernel)) (fun _ => ?_)
  refine lv_iload_n hx hb dX7_solves_21 rfl (lv_at hl 2 rfl) ?_
  refine lv_iconst (v := 2) hx hb dX7_solves_22 (by decide +kernel) ?_
  refine lv_irem hx hb dX7_solves_23 (by decide +kernel) ?_
  refine k_int (v := 0) (by decide +kernel) ?_
  refine lv_istore (lv' := [(4, .int 0), (5, .int 0), (3, .int 2), (0, .ref p0), (1, .int 1), (2, .int 3)]) hx hb dX7_solves_24 hl (by decide) rfl (fun ls hl => ?_)
  refine lv_aload_n hx hb dX7_solves_26 rfl (lv_at hl 3 rfl) ?_
  refine k_get (D := (dC, dI)) (ci := 7) (v := .ref (p1 86)) (C := RX7) (T := TX7) (N := 92) hx hb hts hinX7 hown hK hP 6 rfl rfl 86 (by decide) w_0 rfl rfl dX7_solves_27 ?_
  refine lv_iload_n hx hb dX7_solves_30 rfl (lv_at hl 2 rfl) ?_
  refine k_iald (v := 1) hx hb hK hP 0 0 2 rfl rfl rfl (Nat.le_of_ble_eq_true rfl) (Nat.le_of_ble_eq_true rfl) rfl dX7_solves_31 ?_
  refine lv_aload_n hx hb dX7_solves_32 rfl (lv_at hl 3 rfl) ?_
  refine k_get (D := (dC, dI)) (ci := 7) (v := .ref (p1 18)) (C := RX7) (T := TX7) (N := 92) hx hb hts hinX7 hown hK hP 6 rfl rfl 18 (by decide) w_2 rfl rfl dX7_solves_33 ?_
  refine lv_aload_n hx hb dX7_solves_36 rfl (lv_at hl 3 rfl) ?_
  refine k_get (D := (dC, dI)) (ci := 7) (v := .int 0) (C := RX7) (T := TX7) (N := 92) hx hb hts hinX7 hown hK hP 6 rfl rfl 13 (by decide) w_3 rfl rfl dX7_solves_37 ?_
  refine k_iald (v := 0) hx hb hK hP 4 0 0 rfl rfl rfl (Nat.le_of_ble_eq_true rfl) (Nat.le_of_ble_eq_true rfl) rfl dX7_solves_40 ?_
  refine lv_icmp_le (tgt := 53) hx hb dX7_solves_41 (by decide) (fun q9 => absurd q9 (by decide +kernel)) (fun _ => ?_)
  refine lv_aload_n hx hb dX7_solves_44 rfl (lv_at hl 3 rfl) ?_
  refine k_get (D := (dC, dI)) (ci := 7) (v := .ref (p1 86)) (C := RX7) (T := TX7) (N := 92) hx hb hts hinX7 hown hK hP 6 rfl rfl 86 (by decide) w_0 rfl rfl dX7_solves_45 ?_
  refine lv_iload_n hx hb dX7_solves_48 rfl (lv_at hl 2 rfl) ?_
  refine k_iald (v := 1) hx hb hK hP 0 0 2 rfl rfl rfl (Nat.le_of_ble_eq_true rfl) (Nat.le_of_ble_eq_true rfl) rfl dX7_solves_49 ?_
  refine lv_goto (tgt := 66) hx hb dX7_solves_50 (by decide) ?_
  refine lv_istore (lv' := [(5, .int 1), (4, .int 0), (3, .int 2), (0, .ref p0), (1, .int 1), (2, .int 3)]) hx hb dX7_solves_66 hl (by decide) rfl (fun ls hl => ?_)
  refine lv_aload_n hx hb dX7_solves_68 rfl (lv_at hl 3 rfl) ?_
  refine k_get (D := (dC, dI)) (ci := 7) (v := .ref (p1 86)) (C := RX7) (T := TX7) (N := 92) hx hb hts hinX7 hown hK hP 6 rfl rfl 86 (by decide) w_0 rfl rfl dX7_solves_69 ?_
  refine lv_iload_n hx hb dX7_solves_72 rfl (lv_at hl 2 rfl) ?_
  refine lv_iload hx hb dX7_solves_73 (lv_at hl 0 rfl) ?_
  refine lv_iconst (v := 1) hx hb dX7_solves_75 (by decide +kernel) ?_
  refine lv_iadd hx hb dX7_solves_76 ?_
  refine k_int (v := 2) (by decide +kernel) ?_
  refine k_iast (g := (upd (upd (upd (upd (upd (upd (upd (upd (upd (upd (upd (upd (upd (upd (fun _ => 0) 0 0) 0 1) 1 0) 1 1) 2 0) 2 1) 2 2) 1 2) 0 2) 1 0) 1 1) 2 0) 2 1) 2 2)) (ws' := [((p1 86), .inl (cI, 5, .inl (upd (upd (upd (upd (upd (upd (upd (upd (upd (upd (upd (upd (upd (upd (fun _ => 0) 0 0) 0 1) 1 0) 1 1) 2 0) 2 1) 2 2) 1 2) 0 2) 1 0) 1 1) 2 0) 2 1) 2 2))), ((p1 84), .inl (cI, 12, .inl (upd (upd (upd (upd (upd (upd (upd (upd (upd (upd (upd (upd (upd (upd (fun _ => 0) 0 0) 1 0) 2 0) 3 0) 4 0) 5 0) 6 0) 7 0) 2 0) 3 0) 4 0) 5 0) 6 0) 7 0))), ((p1 85), .inl (cI, 6, .inl (upd (upd (upd (upd (upd (upd (upd (fun _ => 0) 0 0) 1 0) 2 0) 3 0) 1 0) 2 0) 3 0))), ((p1 89), .inl (cI, 6, .inl (upd (upd (upd (upd (upd (upd (upd (fun _ => 0) 0 0) 1 0) 2 0) 3 0) 1 0) 2 0) 3 0))), ((p1 18), .inl (cI, 2, .inl (fun _ => 0))), ((p1 14), .inl (cI, 2, .inl (fun _ => 0))), (p0, .inr (7, oM p1 i7 j7)), ((p1 88), .inl (cI, 5, .inl (upd (upd (upd (upd (upd (upd (upd (upd (upd (fun _ => 0) 0 (-1)) 1 (-1)) 2 (-1)) 2 0) 1 0) 0 0) 1 (-1)) 2 (-1)) 2 0))), ((p1 87), .inl (cI, 5, .inl (upd (upd (upd (upd (fun _ => 0) 2 0) 1 0) 0 0) 2 0)))]) hx hb hK hP hD hS 0 0 2 rfl rfl rfl (Nat.le_of_ble_eq_true rfl) (Nat.le_of_ble_eq_true rfl) rfl rfl dX7_solves_77 (fun H locs hP hD hS => ?_)
  refine lv_iload hx hb dX7_solves_78 (lv_at hl 0 rfl) ?_
  refine lv_aload_n hx hb dX7_solves_80 rfl (lv_at hl 3 rfl) ?_
  refine k_get (D := (dC, dI)) (ci := 7) (v := .ref (p1 18)) (C := RX7) (T := TX7) (N := 92) hx hb hts hinX7 hown hK hP 6 rfl rfl 18 (by decide) w_2 rfl rfl dX7_solves_81 ?_
  refine lv_aload_n hx hb dX7_solves_84 rfl (lv_at hl 3 rfl) ?_
  refine k_get (D := (dC, dI)) (ci := 7) (v := .int 0) (C := RX7) (T := TX7) (N := 92) hx hb hts hinX7 hown hK hP 6 rfl rfl 13 (by decide) w_3 rfl rfl dX7_solves_85 ?_
  refine k_iald (v := 0) hx hb hK hP 4 0 0 rfl rfl rfl (Nat.le_of_ble_eq_true rfl) (Nat.le_of_ble_eq_true rfl) rfl dX7_solves_88 ?_
  refine lv_icmp_le (tgt := 127) hx hb dX7_solves_89 (by decide) (fun q9 => absurd q9 (by decide +kernel)) (fun _ => ?_)
  refine lv_iinc (v := 1) (lv' := [(3, .int 1), (5, .int 1), (4, .int 0), (0, .ref p0), (1, .int 1), (2, .int 3)]) hx hb dX7_solves_92 hl (k := 2) rfl (by decide +kernel) (by decide) rfl (fun ls hl => ?_)
  refine lv_iload_n hx hb dX7_solves_95 rfl (lv_at hl 0 rfl) ?_
  refine lv_iload_n hx hb dX7_solves_96 rfl (lv_at hl 4 rfl) ?_
  refine lv_icmp_lt (tgt := 215) hx hb dX7_solves_97 (by decide) (fun q9 => absurd q9 (by decide +kernel)) (fun _ => ?_)
  refine lv_aload_n hx hb dX7_solves_100 rfl (lv_at hl 3 rfl) ?_
  refine lv_iload_n hx hb dX7_solves_101 rfl (lv_at hl 0 rfl) ?_
  refine lv_iload_n hx hb dX7_solves_102 rfl (lv_at hl 0 rfl) ?_
  refine lv_iconst (v := 2) hx hb dX7_solves_103 (by decide +kernel) ?_
  refine lv_irem hx hb dX7_solves_104 (by decide +kernel) ?_
  refine k_int (v := 1) (by decide +kernel) ?_
  refine lv_aload_n hx hb dX7_solves_105 rfl (lv_at hl 3 rfl) ?_
  refine k_get (D := (dC, dI)) (ci := 7) (v := .ref (p1 87)) (C := RX7) (T := TX7) (N := 92) hx hb hts hinX7 hown hK hP 6 rfl rfl 87 (by decide) w_5 rfl rfl dX7_solves_106 ?_
  refine lv_iload_n hx hb dX7_solves_109 rfl (lv_at hl 0 rfl) ?_
  refine lv_iconst (v := 1) hx hb dX7_solves_110 (by decide +kernel) ?_
  refine lv_iadd hx hb dX7_solves_111 ?_
  refine k_int (v := 2) (by decide +kernel) ?_
  refine k_iald (v := 0) hx hb hK hP 8 0 2 rfl rfl rfl (Nat.le_of_ble_eq_true rfl) (Nat.le_of_ble_eq_true rfl) rfl dX7_solves_112 ?_
  refine lv_aload_n hx hb dX7_solves_113 rfl (lv_at hl 3 rfl) ?_
  refine k_get (D := (dC, dI)) (ci := 7) (v := .ref (p1 86)) (C := RX7) (T := TX7) (N := 92) hx hb hts hinX7 hown hK hP 6 rfl rfl 86 (by decide) w_0 rfl rfl dX7_solves_114 ?_
  refine lv_iload_n hx hb dX7_solves_117 rfl (lv_at hl 0 rfl) ?_
  refine k_iald (v := 1) hx hb hK hP 0 0 1 rfl rfl rfl (Nat.le_of_ble_eq_true rfl) (Nat.le_of_ble_eq_true rfl) rfl dX7_solves_118 ?_
  refine lv_iconst (v := 1) hx hb dX7_solves_119 (by decide +kernel) ?_
  refine lv_isub hx hb dX7_solves_120 ?_
  refine k_int (v := 0) (by decide +kernel) ?_
  refine k_cv (wc := [(p0, .inr (7, oM p1 i7 j7)), ((p1 88), .inl (cI, 5, .inl (upd (upd (upd (upd (upd (upd (upd (upd (upd (fun _ => 0) 0 (-1)) 1 (-1)) 2 (-1)) 2 0) 1 0) 0 0) 1 (-1)) 2 (-1)) 2 0))), ((p1 87), .inl (cI, 5, .inl (upd (upd (upd (upd (fun _ => 0) 2 0) 1 0) 0 0) 2 0)))]) (wr := [((p1 86), .inl (cI, 5, .inl (upd (upd (upd (upd (upd (upd (upd (upd (upd (upd (upd (upd (upd (upd (fun _ => 0) 0 0) 0 1) 1 0) 1 1) 2 0) 2 1) 2 2) 1 2) 0 2) 1 0) 1 1) 2 0) 2 1) 2 2))), ((p1 84), .inl (cI, 12, .inl (upd (upd (upd (upd (upd (upd (upd (upd (upd (upd (upd (upd (upd (upd (fun _ => 0) 0 0) 1 0) 2 0) 3 0) 4 0) 5 0) 6 0) 7 0) 2 0) 3 0) 4 0) 5 0) 6 0) 7 0))), ((p1 85), .inl (cI, 6, .inl (upd (upd (upd (upd (upd (upd (upd (fun _ => 0) 0 0) 1 0) 2 0) 3 0) 1 0) 2 0) 3 0))), ((p1 89), .inl (cI, 6, .inl (upd (upd (upd (upd (upd (upd (upd (fun _ => 0) 0 0) 1 0) 2 0) 3 0) 1 0) 2 0) 3 0))), ((p1 18), .inl (cI, 2, .inl (fun _ => 0))), ((p1 14), .inl (cI, 2, .inl (fun _ => 0)))]) (fun hPc hDc hFc => va_runV (As := [.int 1, .int 1, .int 0, .int 0]) (rest := []) ⟨hx, hb, hml, hown, hts⟩ (c_X7_offers_v8 l dC dI cI cJ cZ cM p0 p1 H.size) (cwV 4 hts gX7_solves_X7_offers rfl rfl rfl (by decide +kernel) ⟨(Nat.le_of_ble_eq_true rfl), (Nat.le_of_ble_eq_true rfl)⟩) (k_pV hPc hDc hK hN hC hS hFc hP (q0 := 6) (ci := 7) rfl rfl) rfl rfl hl.1 rfl (lv_room (Nat.le_of_ble_eq_true rfl)) dX7_solves_121 ⟨(Nat.le_of_ble_eq_true rfl), (Nat.le_of_ble_eq_true rfl)⟩) hP hD hS hA [6, 7, 8] [0, 1, 2, 3, 4, 5] rfl rfl rfl rfl (by decide) (fun _ => rfl) 0 0 rfl rfl (fun u_16 H locs hw hP hD hS => ?_)
  have hP : va_P (dC, dI) vwCl [((p1 86), .inl (cI, 5, .inl (upd (upd (upd (upd (upd (upd (upd (upd (upd (upd (upd (upd (upd (upd (fun _ => 0) 0 0) 0 1) 1 0) 1 1) 2 0) 2 1) 2 2) 1 2) 0 2) 1 0) 1 1) 2 0) 2 1) 2 2))), ((p1 84), .inl (cI, 12, .inl (upd (upd (upd (upd (upd (upd (upd (upd (upd (upd (upd (upd (upd (upd (fun _ => 0) 0 0) 1 0) 2 0) 3 0) 4 0) 5 0) 6 0) 7 0) 2 0) 3 0) 4 0) 5 0) 6 0) 7 0))), ((p1 85), .inl (cI, 6, .inl (upd (upd (upd (upd (upd (upd (upd (fun _ => 0) 0 0) 1 0) 2 0) 3 0) 1 0) 2 0) 3 0))), ((p1 89), .inl (cI, 6, .inl (upd (upd (upd (upd (upd (upd (upd (fun _ => 0) 0 0) 1 0) 2 0) 3 0) 1 0) 2 0) 3 0))), ((p1 18), .inl (cI, 2, .inl (fun _ => 0))), ((p1 14), .inl (cI, 2, .inl (fun _ => 0))), (p0, .inr (7, oM p1 i7 j7)), ((p1 88), .inl (cI, 5, .inl (upd (upd (upd (upd (upd (upd (upd (upd (upd (upd (fun _ => 0) 0 (-1)) 1 (-1)) 2 (-1)) 2 0) 1 0) 0 0) 1 (-1)) 2 (-1)) 2 0) 1 0))), ((p1 87), .inl (cI, 5, .inl (upd (upd (upd (upd (upd (fun _ => 0) 2 0) 1 0) 0 0) 2 0) 1 0)))] H := hP
  have hD : va_D A [((p1 86), .inl (cI, 5, .inl (upd (upd (upd (upd (upd (upd (upd (upd (upd (upd (upd (upd (upd (upd (fun _ => 0) 0 0) 0 1) 1 0) 1 1) 2 0) 2 1) 2 2) 1 2) 0 2) 1 0) 1 1) 2 0) 2 1) 2 2))), ((p1 84), .inl (cI, 12, .inl (upd (upd (upd (upd (upd (upd (upd (upd (upd (upd (upd (upd (upd (upd (fun _ => 0) 0 0) 1 0) 2 0) 3 0) 4 0) 5 0) 6 0) 7 0) 2 0) 3 0) 4 0) 5 0) 6 0) 7 0))), ((p1 85), .inl (cI, 6, .inl (upd (upd (upd (upd (upd (upd (upd (fun _ => 0) 0 0) 1 0) 2 0) 3 0) 1 0) 2 0) 3 0))), ((p1 89), .inl (cI, 6, .inl (upd (upd (upd (upd (upd (upd (upd (fun _ => 0) 0 0) 1 0) 2 0) 3 0) 1 0) 2 0) 3 0))), ((p1 18), .inl (cI, 2, .inl (fun _ => 0))), ((p1 14), .inl (cI, 2, .inl (fun _ => 0))), (p0, .inr (7, oM p1 i7 j7)), ((p1 88), .inl (cI, 5, .inl (upd (upd (upd (upd (upd (upd (upd (upd (upd (upd (fun _ => 0) 0 (-1)) 1 (-1)) 2 (-1)) 2 0) 1 0) 0 0) 1 (-1)) 2 (-1)) 2 0) 1 0))), ((p1 87), .inl (cI, 5, .inl (upd (upd (upd (upd (upd (fun _ => 0) 2 0) 1 0) 0 0) 2 0) 1 0)))] := hD
  refine lv_goto (tgt := 215) hx hb dX7_solves_124 (by decide) ?_
  refine lv_goto (tgt := 16) hx hb dX7_solves_215 (by decide) ?_
  refine lv_iload_n hx hb dX7_solves_16 rfl (lv_at hl 0 rfl) ?_
  refine lv_iload_n hx hb dX7_solves_17 rfl (lv_at hl 4 rfl) ?_
  refine lv_icmp_lt (tgt := 218) hx hb dX7_solves_18 (by decide) (fun q9 => absurd q9 (by decide +kernel)) (fun _ => ?_)
  refine lv_iload_n hx hb dX7_solves_21 rfl (lv_at hl 0 rfl) ?_
  refine lv_iconst (v := 2) hx hb dX7_solves_22 (by decide +kernel) ?_
  refine lv_irem hx hb dX7_solves_23 (by decide +kernel) ?_
  refine k_int (v := 1) (by decide +kernel) ?_
  refine lv_istore (lv' := [(4, .int 1), (3, .int 1), (5, .int 1), (0, .ref p0), (1, .int 1), (2, .int 3)]) hx hb dX7_solves_24 hl (by decide) rfl (fun ls hl => ?_)
  refine lv_aload_n hx hb dX7_solves_26 rfl (lv_at hl 3 rfl) ?_
  refine k_get (D := (dC, dI)) (ci := 7) (v := .ref (p1 86)) (C := RX7) (T := TX7) (N := 92) hx hb hts hinX7 hown hK hP 6 rfl rfl 86 (by decide) w_0 rfl rfl dX7_solves_27 ?_
  refine lv_iload_n hx hb dX7_solves_30 rfl (lv_at hl 1 rfl) ?_
  refine k_iald (v := 1) hx hb hK hP 0 0 1 rfl rfl rfl (Nat.le_of_ble_eq_true rfl) (Nat.le_of_ble_eq_true rfl) rfl dX7_solves_31 ?_
  refine lv_aload_n hx hb dX7_solves_32 rfl (lv_at hl 3 rfl) ?_
  refine k_get (D := (dC, dI)) (ci := 7) (v := .ref (p1 18)) (C := RX7) (T := TX7) (N := 92) hx hb hts hinX7 hown hK hP 6 rfl rfl 18 (by decide) w_2 rfl rfl dX7_solves_33 ?_
  refine lv_aload_n hx hb dX7_solves_36 rfl (lv_at hl 3 rfl) ?_
  refine k_get (D := (dC, dI)) (ci := 7) (v := .int 0) (C := RX7) (T := TX7) (N := 92) hx hb hts hinX7 hown hK hP 6 rfl rfl 13 (by decide) w_3 rfl rfl dX7_solves_37 ?_
  refine k_iald (v := 0) hx hb hK hP 4 0 0 rfl rfl rfl (Nat.le_of_ble_eq_true rfl) (Nat.le_of_ble_eq_true rfl) rfl dX7_solves_40 ?_
  refine lv_icmp_le (tgt := 53) hx hb dX7_solves_41 (by decide) (fun q9 => absurd q9 (by decide +kernel)) (fun _ => ?_)
  refine lv_aload_n hx hb dX7_solves_44 rfl (lv_at hl 3 rfl) ?_
  refine k_get (D := (dC, dI)) (ci := 7) (v := .ref (p1 86)) (C := RX7) (T := TX7) (N := 92) hx hb hts hinX7 hown hK hP 6 rfl rfl 86 (by decide) w_0 rfl rfl dX7_solves_45 ?_
  refine lv_iload_n hx hb dX7_solves_48 rfl (lv_at hl 1 rfl) ?_
  refine k_iald (v := 1) hx hb hK hP 0 0 1 rfl rfl rfl (Nat.le_of_ble_eq_true rfl) (Nat.le_of_ble_eq_true rfl) rfl dX7_solves_49 ?_
  refine lv_goto (tgt := 66) hx hb dX7_solves_50 (by decide) ?_
  refine lv_istore (lv' := [(5, .int 1), (4, .int 1), (3, .int 1), (0, .ref p0), (1, .int 1), (2, .int 3)]) hx hb dX7_solves_66 hl (by decide) rfl (fun ls hl => ?_)
  refine lv_aload_n hx hb dX7_solves_68 rfl (lv_at hl 3 rfl) ?_
  refine k_get (D := (dC, dI)) (ci := 7) (v := .ref (p1 86)) (C := RX7) (T := TX7) (N := 92) hx hb hts hinX7 hown hK hP 6 rfl rfl 86 (by decide) w_0 rfl rfl dX7_solves_69 ?_
  refine lv_iload_n hx hb dX7_solves_72 rfl (lv_at hl 2 rfl) ?_
  refine lv_iload hx hb dX7_solves_73 (lv_at hl 0 rfl) ?_
  refine lv_iconst (v := 1) hx hb dX7_solves_75 (by decide +kernel) ?_
  refine lv_iadd hx hb dX7_solves_76 ?_
  refine k_int (v := 2) (by decide +kernel) ?_
  refine k_iast (g := (upd (upd (upd (upd (upd (upd (upd (upd (upd (upd (upd (upd (upd (upd (upd (fun _ => 0) 0 0) 0 1) 1 0) 1 1) 2 0) 2 1) 2 2) 1 2) 0 2) 1 0) 1 1) 2 0) 2 1) 2 2) 1 2)) (ws' := [((p1 86), .inl (cI, 5, .inl (upd (upd (upd (upd (upd (upd (upd (upd (upd (upd (upd (upd (upd (upd (upd (fun _ => 0) 0 0) 0 1) 1 0) 1 1) 2 0) 2 1) 2 2) 1 2) 0 2) 1 0) 1 1) 2 0) 2 1) 2 2) 1 2))), ((p1 84), .inl (cI, 12, .inl (upd (upd (upd (upd (upd (upd (upd (upd (upd (upd (upd (upd (upd (upd (fun _ => 0) 0 0) 1 0) 2 0) 3 0) 4 0) 5 0) 6 0) 7 0) 2 0) 3 0) 4 0) 5 0) 6 0) 7 0))), ((p1 85), .inl (cI, 6, .inl (upd (upd (upd (upd (upd (upd (upd (fun _ => 0) 0 0) 1 0) 2 0) 3 0) 1 0) 2 0) 3 0))), ((p1 89), .inl (cI, 6, .inl (upd (upd (upd (upd (upd (upd (upd (fun _ => 0) 0 0) 1 0) 2 0) 3 0) 1 0) 2 0) 3 0))), ((p1 18), .inl (cI, 2, .inl (fun _ => 0))), ((p1 14), .inl (cI, 2, .inl (fun _ => 0))), (p0, .inr (7, oM p1 i7 j7)), ((p1 88), .inl (cI, 5, .inl (upd (upd (upd (upd (upd (upd (upd (upd (upd (upd (fun _ => 0) 0 (-1)) 1 (-1)) 2 (-1)) 2 0) 1 0) 0 0) 1 (-1)) 2 (-1)) 2 0) 1 0))), ((p1 87), .inl (cI, 5, .inl (upd (upd (upd (upd (upd (fun _ => 0) 2 0) 1 0) 0 0) 2 0) 1 0)))]) hx hb hK hP hD hS 0 0 1 rfl rfl rfl (Nat.le_of_ble_eq_true rfl) (Nat.le_of_ble_eq_true rfl) rfl rfl dX7_solves_77 (fun H locs hP hD hS => ?_)
  refine lv_iload hx hb dX7_solves_78 (lv_at hl 0 rfl) ?_
  refine lv_aload_n hx hb dX7_solves_80 rfl (lv_at hl 3 rfl) ?_
  refine k_get (D := (dC, dI)) (ci := 7) (v := .ref (p1 18)) (C := RX7) (T := TX7) (N := 92) hx hb hts hinX7 hown hK hP 6 rfl rfl 18 (by decide) w_2 rfl rfl dX7_solves_81 ?_
  refine lv_aload_n hx hb dX7_solves_84 rfl (lv_at hl 3 rfl) ?_
  refine k_get (D := (dC, dI)) (ci := 7) (v := .int 0) (C := RX7) (T := TX7) (N := 92) hx hb hts hinX7 hown hK hP 6 rfl rfl 13 (by decide) w_3 rfl rfl dX7_solves_85 ?_
  refine k_iald (v := 0) hx hb hK hP 4 0 0 rfl rfl rfl (Nat.le_of_ble_eq_true rfl) (Nat.le_of_ble_eq_true rfl) rfl dX7_solves_88 ?_
  refine lv_icmp_le (tgt := 127) hx hb dX7_solves_89 (by decide) (fun q9 => absurd q9 (by decide +kernel)) (fun _ => ?_)
  refine lv_iinc (v := 0) (lv' := [(3, .int 0), (5, .int 1), (4, .int 1), (0, .ref p0), (1, .int 1), (2, .int 3)]) hx hb dX7_solves_92 hl (k := 2) rfl (by decide +kernel) (by decide) rfl (fun ls hl => ?_)
  refine lv_iload_n hx hb dX7_solves_95 rfl (lv_at hl 0 rfl) ?_
  refine lv_iload_n hx hb dX7_solves_96 rfl (lv_at hl 4 rfl) ?_
  refine lv_icmp_lt (tgt := 215) hx hb dX7_solves_97 (by decide) (fun _ => ?_) (fun q9 => absurd q9 (by decide +kernel))
  refine lv_goto (tgt := 16) hx hb dX7_solves_215 (by decide) ?_
  refine lv_iload_n hx hb dX7_solves_16 rfl (lv_at hl 0 rfl) ?_
  refine lv_iload_n hx hb dX7_solves_17 rfl (lv_at hl 4 rfl) ?_
  refine lv_icmp_lt (tgt := 218) hx hb dX7_solves_18 (by decide) (fun _ => ?_) (fun q9 => absurd q9 (by decide +kernel))
  exact k_rv B hP hD hS dX7_solves_218 () [6, 0, 7, 4, 1, 2, 3, 5, 8] rfl rfl (Nat.le_of_ble_eq_true rfl) (Nat.le_of_ble_eq_true rfl) trivial
set_option maxHeartbeats 4000000 in
set_option maxRecDepth 100000 in
theorem c_X7_turns_v10 (l : Launch) (dC : Nat → ClassId) (dI : Nat → Nat → Nat) (cI cJ cZ cM : ClassId) (p0 : Nat) (p1 : Nat → Nat)   : k_Mi l yX7_turns wsX7_turns ({ frames := 1, cells := 0, slots := 0, locals := 40 }) (dC, dI) vwCl (tyy cI cJ cZ cM) [(p0, .inr (7, oM p1 i7 j7)), ((p1 84), .inl (cI, 12, .inl (upd (upd (upd (upd (upd (upd (upd (upd (upd (upd (upd (upd (upd (upd (fun _ => 0) 0 0) 1 0) 2 0) 3 0) 4 0) 5 0) 6 0) 7 0) 2 0) 3 0) 4 0) 5 0) 6 0) 7 0))), ((p1 85), .inl (cI, 6, .inl (upd (upd (upd (upd (upd (upd (upd (fun _ => 0) 0 0) 1 0) 2 0) 3 0) 1 0) 2 0) 3 0))), ((p1 89), .inl (cI, 6, .inl (upd (upd (upd (upd (upd (upd (upd (fun _ => 0) 0 0) 1 0) 2 0) 3 0) 1 0) 2 0) 3 0))), ((p1 18), .inl (cI, 2, .inl (fun _ => 0)))] [.ref p0, .int 1, .int 1, .int 0] 0 0 (fun (u9 : Unit) => [(p0, .inr (7, oM p1 i7 j7)), ((p1 84), .inl (cI, 12, .inl (upd (upd (upd (upd (upd (upd (upd (upd (upd (upd (upd (upd (upd (upd (upd (upd (fun _ => 0) 0 0) 1 0) 2 0) 3 0) 4 0) 5 0) 6 0) 7 0) 2 0) 3 0) 4 0) 5 0) 6 0) 7 0) 4 0) 5 0))), ((p1 85), .inl (cI, 6, .inl (upd (upd (upd (upd (upd (upd (upd (upd (fun _ => 0) 0 0) 1 0) 2 0) 3 0) 1 0) 2 0) 3 0) 2 0))), ((p1 89), .inl (cI, 6, .inl (upd (upd (upd (upd (upd (upd (upd (upd (fun _ => 0) 0 0) 1 0) 2 0) 3 0) 1 0) 2 0) 3 0) 2 0))), ((p1 18), .inl (cI, 2, .inl (fun _ => 0)))]) (fun (r9 : Int32) (u9 : Unit) => r9 = 0) := by
  refine fun sz => k_enter (cc := cX7_turns) (maxL := 4) (ret := some (.boolean)) (Qc := fun A => va_Qi (fun (r9 : Int32) (u9 : Unit) => r9 = 0) (fun u => k_B (dC, dI) vwCl (tyy cI cJ cZ cM) A ((fun (u9 : Unit) => [(p0, .inr (7, oM p1 i7 j7)), ((p1 84), .inl (cI, 12, .inl (upd (upd (upd (upd (upd (upd (upd (upd (upd (upd (upd (upd (upd (upd (upd (upd (fun _ => 0) 0 0) 1 0) 2 0) 3 0) 4 0) 5 0) 6 0) 7 0) 2 0) 3 0) 4 0) 5 0) 6 0) 7 0) 4 0) 5 0))), ((p1 85), .inl (cI, 6, .inl (upd (upd (upd (upd (upd (upd (upd (upd (fun _ => 0) 0 0) 1 0) 2 0) 3 0) 1 0) 2 0) 3 0) 2 0))), ((p1 89), .inl (cI, 6, .inl (upd (upd (upd (upd (upd (upd (upd (upd (fun _ => 0) 0 0) 1 0) 2 0) 3 0) 1 0) 2 0) 3 0) 2 0))), ((p1 18), .inl (cI, 2, .inl (fun _ => 0)))]) u)) A) sz (by decide +kernel) rfl (Nat.le_of_ble_eq_true rfl) (fun p e s m args below meth c A ls H locs B hP hD hS hl => ?_)
  obtain ⟨hx, hb, hml, hown, hts, hr, hlk, hnm, hK, hA, hN, hC⟩ := id B
  have hown : s.vm.findClass RX7 = some m.cls := hown
  have hl : lv_has ls 4 [(0, .ref p0), (1, .int 1), (2, .int 1), (3, .int 0)] := hl
  have w_0 : (Cond.fieldLink RX7 267 "WishSeaModel" "ownHad" "[I").before args s = true := hts _ (List.mem_of_getElem? (i := 1) rfl)
  have w_1 : (Cond.fieldLink RX7 270 "WishSeaModel" "bothSea" "[I").before args s = true := hts _ (List.mem_of_getElem? (i := 2) rfl)
  have w_2 : (Cond.fieldLink RX7 282 "WishSeaModel" "saidAhead" "[I").before args s = true := hts _ (List.mem_of_getElem? (i := 3) rfl)
  have w_3 : (Cond.fieldLink RX7 66 "WishSeaModel" "wishes" "[I").before args s = true := hts _ (List.mem_of_getElem? (i := 4) rfl)
  have w_4 : (Cond.fieldLink RX7 51 "WishSeaModel" "bank" "I").before args s = true := hts _ (List.mem_of_getElem? (i := 5) rfl)
  have hinX7 : ∀ w ∈ u_ws RX7 TX7 92, w ∈ wsX7_turns := fun _ h => List.mem_cons_of_mem _ (List.mem_append_right _ h)
  refine lv_aload_n hx hb dX7_turns_0 rfl (lv_at hl 0 rfl) ?_
  refine k_get (D := (dC, dI)) (ci := 7) (v := .ref (p1 84)) (C := RX7) (T := TX7) (N := 92) hx hb hts hinX7 hown hK hP 0 rfl rfl 84 (by decide) w_0 rfl rfl dX7_turns_1 ?_
  refine lv_iconst (v := 2) hx hb dX7_turns_4 (by decide +kernel) ?_
  refine lv_iload_n hx hb dX7_turns_5 rfl (lv_at hl 1 rfl) ?_
  refine lv_imul hx hb dX7_turns_6 ?_
  refine k_int (v := 2) (by decide +kernel) ?_
  refine lv_iconst (v := 2) hx hb dX7_turns_7 (by decide +kernel) ?_
  refine lv_iadd hx hb dX7_turns_8 ?_
  refine k_int (v := 4) (by decide +kernel) ?_
  refine lv_aload_n hx hb dX7_turns_9 rfl (lv_at hl 0 rfl) ?_
  refine k_get (D := (dC, dI)) (ci := 7) (v := .ref (p1 84)) (C := RX7) (T := TX7) (N := 92) hx hb hts hinX7 hown hK hP 0 rfl rfl 84 (by decide) w_0 rfl rfl dX7_turns_10 ?_
  refine lv_iconst (v := 2) hx hb dX7_turns_13 (by decide +kernel) ?_
  refine lv_iload_n hx hb dX7_turns_14 rfl (lv_at hl 1 rfl) ?_
  refine lv_imul hx hb dX7_turns_15 ?_
  refine k_int (v := 2) (by decide +kernel) ?_
  refine k_iald (v := 0) hx hb hK hP 1 0 2 rfl rfl rfl (Nat.le_of_ble_eq_true rfl) (Nat.le_of_ble_eq_true rfl) rfl dX7_turns_16 ?_
  refine k_iast (g := (upd (upd (upd (upd (upd (upd (upd (upd (upd (upd (upd (upd (upd (upd (upd (fun _ => 0) 0 0) 1 0) 2 0) 3 0) 4 0) 5 0) 6 0) 7 0) 2 0) 3 0) 4 0) 5 0) 6 0) 7 0) 4 0)) (ws' := [(p0, .inr (7, oM p1 i7 j7)), ((p1 84), .inl (cI, 12, .inl (upd (upd (upd (upd (upd (upd (upd (upd (upd (upd (upd (upd (upd (upd (upd (fun _ => 0) 0 0) 1 0) 2 0) 3 0) 4 0) 5 0) 6 0) 7 0) 2 0) 3 0) 4 0) 5 0) 6 0) 7 0) 4 0))), ((p1 85), .inl (cI, 6, .inl (upd (upd (upd (upd (upd (upd (upd (fun _ => 0) 0 0) 1 0) 2 0) 3 0) 1 0) 2 0) 3 0))), ((p1 89), .inl (cI, 6, .inl (upd (upd (upd (upd (upd (upd (upd (fun _ => 0) 0 0) 1 0) 2 0) 3 0) 1 0) 2 0) 3 0))), ((p1 18), .inl (cI, 2, .inl (fun _ => 0)))]) hx hb hK hP hD hS 1 0 4 rfl rfl rfl (Nat.le_of_ble_eq_true rfl) (Nat.le_of_ble_eq_true rfl) rfl rfl dX7_turns_17 (fun H locs hP hD hS => ?_)
  refine lv_aload_n hx hb dX7_turns_18 rfl (lv_at hl 0 rfl) ?_
  refine k_get (D := (dC, dI)) (ci := 7) (v := .ref (p1 84)) (C := RX7) (T := TX7) (N := 92) hx hb hts hinX7 hown hK hP 0 rfl rfl 84 (by decide) w_0 rfl rfl dX7_turns_19 ?_
  refine lv_iconst (v := 2) hx hb dX7_turns_22 (by decide +kernel) ?_
  refine lv_iload_n hx hb dX7_turns_23 rfl (lv_at hl 1 rfl) ?_
  refine lv_imul hx hb dX7_turns_24 ?_
  refine k_int (v := 2) (by decide +kernel) ?_
  refine lv_iconst (v := 3) hx hb dX7_turns_25 (by decide +kernel) ?_
  refine lv_iadd hx hb dX7_turns_26 ?_
  refine k_int (v := 5) (by decide +kernel) ?_
  refine lv_aload_n hx hb dX7_turns_27 rfl (lv_at hl 0 rfl) ?_
  refine k_get (D := (dC, dI)) (ci := 7) (v := .ref (p1 84)) (C := RX7) (T := TX7) (N := 92) hx hb hts hinX7 hown hK hP 0 rfl rfl 84 (by decide) w_0 rfl rfl dX7_turns_28 ?_
  refine lv_iconst (v := 2) hx hb dX7_turns_31 (by decide +kernel) ?_
  refine lv_iload_n hx hb dX7_turns_32 rfl (lv_at hl 1 rfl) ?_
  refine lv_imul hx hb dX7_turns_33 ?_
  refine k_int (v := 2) (by decide +kernel) ?_
  refine lv_iconst (v := 1) hx hb dX7_turns_34 (by decide +kernel) ?_
  refine lv_iadd hx hb dX7_turns_35 ?_
  refine k_int (v := 3) (by decide +kernel) ?_
  refine k_iald (v := 0) hx hb hK hP 1 0 3 rfl rfl rfl (Nat.le_of_ble_eq_true rfl) (Nat.le_of_ble_eq_true rfl) rfl dX7_turns_36 ?_
  refine k_iast (g := (upd (upd (upd (upd (upd (upd (upd (upd (upd (upd (upd (upd (upd (upd (upd (upd (fun _ => 0) 0 0) 1 0) 2 0) 3 0) 4 0) 5 0) 6 0) 7 0) 2 0) 3 0) 4 0) 5 0) 6 0) 7 0) 4 0) 5 0)) (ws' := [(p0, .inr (7, oM p1 i7 j7)), ((p1 84), .inl (cI, 12, .inl (upd (upd (upd (upd (upd (upd (upd (upd (upd (upd (upd (upd (upd (upd (upd (upd (fun _ => 0) 0 0) 1 0) 2 0) 3 0) 4 0) 5 0) 6 0) 7 0) 2 0) 3 0) 4 0) 5 0) 6 0) 7 0) 4 0) 5 0))), ((p1 85), .inl (cI, 6, .inl (upd (upd (upd (upd (upd (upd (upd (fun _ => 0) 0 0) 1 0) 2 0) 3 0) 1 0) 2 0) 3 0))), ((p1 89), .inl (cI, 6, .inl (upd (upd (upd (upd (upd (upd (upd (fun _ => 0) 0 0) 1 0) 2 0) 3 0) 1 0) 2 0) 3 0))), ((p1 18), .inl (cI, 2, .inl (fun _ => 0)))]) hx hb hK hP hD hS 1 0 5 rfl rfl rfl (Nat.le_of_ble_eq_true rfl) (Nat.le_of_ble_eq_true rfl) rfl rfl dX7_turns_37 (fun H locs hP hD hS => ?_)
  refine lv_aload_n hx hb dX7_turns_38 rfl (lv_at hl 0 rfl) ?_
  refine k_get (D := (dC, dI)) (ci := 7) (v := .ref (p1 85)) (C := RX7) (T := TX7) (N := 92) hx hb hts hinX7 hown hK hP 0 rfl rfl 85 (by decide) w_1 rfl rfl dX7_turns_39 ?_
  refine lv_iload_n hx hb dX7_turns_42 rfl (lv_at hl 1 rfl) ?_
  refine lv_iconst (v := 1) hx hb dX7_turns_43 (by decide +kernel) ?_
  refine lv_iadd hx hb dX7_turns_44 ?_
  refine k_int (v := 2) (by decide +kernel) ?_
  refine lv_aload_n hx hb dX7_turns_45 rfl (lv_at hl 0 rfl) ?_
  refine k_get (D := (dC, dI)) (ci := 7) (v := .ref (p1 85)) (C := RX7) (T := TX7) (N := 92) hx hb hts hinX7 hown hK hP 0 rfl rfl 85 (by decide) w_1 rfl rfl dX7_turns_46 ?_
  refine lv_iload_n hx hb dX7_turns_49 rfl (lv_at hl 1 rfl) ?_
  refine k_iald (v := 0) hx hb hK hP 2 0 1 rfl rfl rfl (Nat.le_of_ble_eq_true rfl) (Nat.le_of_ble_eq_true rfl) rfl dX7_turns_50 ?_
  refine k_iast (g := (upd (upd (upd (upd (upd (upd (upd (upd (fun _ => 0) 0 0) 1 0) 2 0) 3 0) 1 0) 2 0) 3 0) 2 0)) (ws' := [(p0, .inr (7, oM p1 i7 j7)), ((p1 84), .inl (cI, 12, .inl (upd (upd (upd (upd (upd (upd (upd (upd (upd (upd (upd (upd (upd (upd (upd (upd (fun _ => 0) 0 0) 1 0) 2 0) 3 0) 4 0) 5 0) 6 0) 7 0) 2 0) 3 0) 4 0) 5 0) 6 0) 7 0) 4 0) 5 0))), ((p1 85), .inl (cI, 6, .inl (upd (upd (upd (upd (upd (upd (upd (upd (fun _ => 0) 0 0) 1 0) 2 0) 3 0) 1 0) 2 0) 3 0) 2 0))), ((p1 89), .inl (cI, 6, .inl (upd (upd (upd (upd (upd (upd (upd (fun _ => 0) 0 0) 1 0) 2 0) 3 0) 1 0) 2 0) 3 0))), ((p1 18), .inl (cI, 2, .inl (fun _ => 0)))]) hx hb hK hP hD hS 2 0 2 rfl rfl rfl (Nat.le_of_ble_eq_true rfl) (Nat.le_of_ble_eq_true rfl) rfl rfl dX7_turns_51 (fun H locs hP hD hS => ?_)
  refine lv_aload_n hx hb dX7_turns_52 rfl (lv_at hl 0 rfl) ?_
  refine k_get (D := (dC, dI)) (ci := 7) (v := .ref (p1 89)) (C := RX7) (T := TX7) (N := 92) hx hb hts hinX7 hown hK hP 0 rfl rfl 89 (by decide) w_2 rfl rfl dX7_turns_53 ?_
  refine lv_iload_n hx hb dX7_turns_56 rfl (lv_at hl 1 rfl) ?_
  refine lv_iconst (v := 1) hx hb dX7_turns_57 (by decide +kernel) ?_
  refine lv_iadd hx hb dX7_turns_58 ?_
  refine k_int (v := 2) (by decide +kernel) ?_
  refine lv_aload_n hx hb dX7_turns_59 rfl (lv_at hl 0 rfl) ?_
  refine k_get (D := (dC, dI)) (ci := 7) (v := .ref (p1 89)) (C := RX7) (T := TX7) (N := 92) hx hb hts hinX7 hown hK hP 0 rfl rfl 89 (by decide) w_2 rfl rfl dX7_turns_60 ?_
  refine lv_iload_n hx hb dX7_turns_63 rfl (lv_at hl 1 rfl) ?_
  refine k_iald (v := 0) hx hb hK hP 3 0 1 rfl rfl rfl (Nat.le_of_ble_eq_true rfl) (Nat.le_of_ble_eq_true rfl) rfl dX7_turns_64 ?_
  refine k_iast (g := (upd (upd (upd (upd (upd (upd (upd (upd (fun _ => 0) 0 0) 1 0) 2 0) 3 0) 1 0) 2 0) 3 0) 2 0)) (ws' := [(p0, .inr (7, oM p1 i7 j7)), ((p1 84), .inl (cI, 12, .inl (upd (upd (upd (upd (upd (upd (upd (upd (upd (upd (upd (upd (upd (upd (upd (upd (fun _ => 0) 0 0) 1 0) 2 0) 3 0) 4 0) 5 0) 6 0) 7 0) 2 0) 3 0) 4 0) 5 0) 6 0) 7 0) 4 0) 5 0))), ((p1 85), .inl (cI, 6, .inl (upd (upd (upd (upd (upd (upd (upd (upd (fun _ => 0) 0 0) 1 0) 2 0) 3 0) 1 0) 2 0) 3 0) 2 0))), ((p1 89), .inl (cI, 6, .inl (upd (upd (upd (upd (upd (upd (upd (upd (fun _ => 0) 0 0) 1 0) 2 0) 3 0) 1 0) 2 0) 3 0) 2 0))), ((p1 18), .inl (cI, 2, .inl (fun _ => 0)))]) hx hb hK hP hD hS 3 0 2 rfl rfl rfl (Nat.le_of_ble_eq_true rfl) (Nat.le_of_ble_eq_true rfl) rfl rfl dX7_turns_65 (fun H locs hP hD hS => ?_)
  refine lv_iload_n hx hb dX7_turns_66 rfl (lv_at hl 3 rfl) ?_
  refine lv_aload_n hx hb dX7_turns_67 rfl (lv_at hl 0 rfl) ?_
  refine k_get (D := (dC, dI)) (ci := 7) (v := .ref (p1 18)) (C := RX7) (T := TX7) (N := 92) hx hb hts hinX7 hown hK hP 0 rfl rfl 18 (by decide) w_3 rfl rfl dX7_turns_68 ?_
  refine lv_aload_n hx hb dX7_turns_71 rfl (lv_at hl 0 rfl) ?_
  refine k_get (D := (dC, dI)) (ci := 7) (v := .int 0) (C := RX7) (T := TX7) (N := 92) hx hb hts hinX7 hown hK hP 0 rfl rfl 13 (by decide) w_4 rfl rfl dX7_turns_72 ?_
  refine k_iald (v := 0) hx hb hK hP 4 0 0 rfl rfl rfl (Nat.le_of_ble_eq_true rfl) (Nat.le_of_ble_eq_true rfl) rfl dX7_turns_75 ?_
  refine lv_icmp_ne (tgt := 81) hx hb dX7_turns_76 (by decide) (fun q9 => absurd q9 (by decide +kernel)) (fun _ => ?_)
  refine lv_iconst (v := 0) hx hb dX7_turns_79 (by decide +kernel) ?_
  exact k_ri B hP hD hS dX7_turns_80 () [0, 1, 2, 3, 4] rfl rfl rfl (Nat.le_of_ble_eq_true rfl) (Nat.le_of_ble_eq_true rfl) rfl
set_option maxHeartbeats 4000000 in
set_option maxRecDepth 100000 in
theorem c_X7_rivals_v20 (l : Launch) (dC : Nat → ClassId) (dI : Nat → Nat → Nat) (cI cJ cZ cM : ClassId) (p0 : Nat) (p1 : Int32) (p2 : Int32) (p3 : Nat → Nat) (b_0 : 3 ≤ p1.toInt) (t_0 : p1.toInt ≤ 3) (b_1 : 1 ≤ p2.toInt) (t_1 : p2.toInt ≤ 1)  : k_Mi l yX7_rivals wsX7_rivals ({ frames := 3, cells := 0, slots := 0, locals := 90 }) (dC, dI) vwCl (tyy cI cJ cZ cM) [(p0, .inr (7, oM p3 i7 j7)), ((p3 23), .inl (cI, 2, .inl (fun _ => 0))), ((p3 84), .inl (cI, 12, .inl (fun _ => 0))), ((p3 85), .inl (cI, 6, .inl (fun _ => 0))), ((p3 89), .inl (cI, 6, .inl (fun _ => 0))), ((p3 86), .inl (cI, 5, .inl (fun _ => 0))), ((p3 88), .inl (cI, 5, .inl (fun _ => 0))), ((p3 18), .inl (cI, 2, .inl (fun _ => 0))), ((p3 14), .inl (cI, 2, .inl (fun _ => 0))), ((p3 87), .inl (cI, 5, .inl (fun _ => 0)))] [.ref p0, .int p1, .int p2] 0 0 (fun (u9 : Unit) => [(p0, .inr (7, oM p3 i7 j7)), ((p3 23), .inl (cI, 2, .inl (fun _ => 0))), ((p3 84), .inl (cI, 12, .inl (upd (upd (upd (upd (upd (upd (upd (upd (upd (upd (upd (upd (upd (upd (upd (upd (fun _ => 0) 0 0) 1 0) 2 0) 3 0) 4 0) 5 0) 6 0) 7 0) 2 0) 3 0) 4 0) 5 0) 6 0) 7 0) 4 0) 5 0))), ((p3 85), .inl (cI, 6, .inl (upd (upd (upd (upd (upd (upd (upd (upd (fun _ => 0) 0 0) 1 0) 2 0) 3 0) 1 0) 2 0) 3 0) 2 0))), ((p3 89), .inl (cI, 6, .inl (upd (upd (upd (upd (upd (upd (upd (upd (fun _ => 0) 0 0) 1 0) 2 0) 3 0) 1 0) 2 0) 3 0) 2 0))), ((p3 86), .inl (cI, 5, .inl (upd (upd (upd (upd (upd (upd (upd (upd (upd (upd (upd (upd (upd (upd (upd (fun _ => 0) 0 0) 0 1) 1 0) 1 1) 2 0) 2 1) 2 2) 1 2) 0 2) 1 0) 1 1) 2 0) 2 1) 2 2) 1 2))), ((p3 88), .inl (cI, 5, .inl (upd (upd (upd (upd (upd (upd (upd (upd (upd (upd (fun _ => 0) 0 (-1)) 1 (-1)) 2 (-1)) 2 0) 1 0) 0 0) 1 (-1)) 2 (-1)) 2 0) 1 0))), ((p3 18), .inl (cI, 2, .inl (fun _ => 0))), ((p3 14), .inl (cI, 2, .inl (fun _ => 0))), ((p3 87), .inl (cI, 5, .inl (upd (upd (upd (upd (upd (fun _ => 0) 2 0) 1 0) 0 0) 2 0) 1 0)))]) (fun (r9 : Int32) (u9 : Unit) => r9 = 20) := by
  refine fun sz => k_enter (cc := cX7_rivals) (maxL := 7) (ret := some (.int)) (Qc := fun A => va_Qi (fun (r9 : Int32) (u9 : Unit) => r9 = 20) (fun u => k_B (dC, dI) vwCl (tyy cI cJ cZ cM) A ((fun (u9 : Unit) => [(p0, .inr (7, oM p3 i7 j7)), ((p3 23), .inl (cI, 2, .inl (fun _ => 0))), ((p3 84), .inl (cI, 12, .inl (upd (upd (upd (upd (upd (upd (upd (upd (upd (upd (upd (upd (upd (upd (upd (upd (fun _ => 0) 0 0) 1 0) 2 0) 3 0) 4 0) 5 0) 6 0) 7 0) 2 0) 3 0) 4 0) 5 0) 6 0) 7 0) 4 0) 5 0))), ((p3 85), .inl (cI, 6, .inl (upd (upd (upd (upd (upd (upd (upd (upd (fun _ => 0) 0 0) 1 0) 2 0) 3 0) 1 0) 2 0) 3 0) 2 0))), ((p3 89), .inl (cI, 6, .inl (upd (upd (upd (upd (upd (upd (upd (upd (fun _ => 0) 0 0) 1 0) 2 0) 3 0) 1 0) 2 0) 3 0) 2 0))), ((p3 86), .inl (cI, 5, .inl (upd (upd (upd (upd (upd (upd (upd (upd (upd (upd (upd (upd (upd (upd (upd (fun _ => 0) 0 0) 0 1) 1 0) 1 1) 2 0) 2 1) 2 2) 1 2) 0 2) 1 0) 1 1) 2 0) 2 1) 2 2) 1 2))), ((p3 88), .inl (cI, 5, .inl (upd (upd (upd (upd (upd (upd (upd (upd (upd (upd (fun _ => 0) 0 (-1)) 1 (-1)) 2 (-1)) 2 0) 1 0) 0 0) 1 (-1)) 2 (-1)) 2 0) 1 0))), ((p3 18), .inl (cI, 2, .inl (fun _ => 0))), ((p3 14), .inl (cI, 2, .inl (fun _ => 0))), ((p3 87), .inl (cI, 5, .inl (upd (upd (upd (upd (upd (fun _ => 0) 2 0) 1 0) 0 0) 2 0) 1 0)))]) u)) A) sz (by decide +kernel) rfl (Nat.le_of_ble_eq_true rfl) (fun p e s m args below meth c A ls H locs B hP hD hS hl => ?_)
  obtain ⟨hx, hb, hml, hown, hts, hr, hlk, hnm, hK, hA, hN, hC⟩ := id B
  have hown : s.vm.findClass RX7 = some m.cls := hown
  have hl : lv_has ls 7 [(0, .ref p0), (1, .int p1), (2, .int p2)] := hl
  have w_0 : (Cond.fieldLink RX7 267 "WishSeaModel" "ownHad" "[I").before args s = true := hts _ (List.mem_of_getElem? (i := 2) rfl)
  have w_1 : (Cond.fieldLink RX7 81 "WishSeaModel" "firstOnes" "[I").before args s = true := hts _ (List.mem_of_getElem? (i := 3) rfl)
  have w_2 : (Cond.fieldLink RX7 51 "WishSeaModel" "bank" "I").before args s = true := hts _ (List.mem_of_getElem? (i := 4) rfl)
  have w_3 : (Cond.fieldLink RX7 270 "WishSeaModel" "bothSea" "[I").before args s = true := hts _ (List.mem_of_getElem? (i := 5) rfl)
  have w_4 : (Cond.fieldLink RX7 282 "WishSeaModel" "saidAhead" "[I").before args s = true := hts _ (List.mem_of_getElem? (i := 6) rfl)
  have w_5 : (Cond.fieldLink RX7 279 "WishSeaModel" "bestSaid" "[I").before args s = true := hts _ (List.mem_of_getElem? (i := 7) rfl)
  have w_6 : (Cond.fieldLink RX7 66 "WishSeaModel" "wishes" "[I").before args s = true := hts _ (List.mem_of_getElem? (i := 8) rfl)
  have hinX7 : ∀ w ∈ u_ws RX7 TX7 92, w ∈ wsX7_rivals := fun _ h => List.mem_cons_of_mem _ (List.mem_append_right _ h)
  rcases (show p1.toInt = 3 by omega) with c_1
  obtain rfl : p1 = 3 := k_eqL (by decide +kernel) c_1
  refine lv_iload_n hx hb dX7_rivals_0 rfl (lv_at hl 1 rfl) ?_
  refine lv_iconst (v := 0) hx hb dX7_rivals_1 (by decide +kernel) ?_
  refine lv_iconst (v := 4) hx hb dX7_rivals_2 (by decide +kernel) ?_
  refine k_ci (wc := []) (wr := [(p0, .inr (7, oM p3 i7 j7)), ((p3 23), .inl (cI, 2, .inl (fun _ => 0))), ((p3 84), .inl (cI, 12, .inl (fun _ => 0))), ((p3 85), .inl (cI, 6, .inl (fun _ => 0))), ((p3 89), .inl (cI, 6, .inl (fun _ => 0))), ((p3 86), .inl (cI, 5, .inl (fun _ => 0))), ((p3 88), .inl (cI, 5, .inl (fun _ => 0))), ((p3 18), .inl (cI, 2, .inl (fun _ => 0))), ((p3 14), .inl (cI, 2, .inl (fun _ => 0))), ((p3 87), .inl (cI, 5, .inl (fun _ => 0)))]) (fun hPc hDc hFc => va_runS (As := [.int 3, .int 0, .int 4]) (rest := []) ⟨hx, hb, hml, hown, hts⟩ (c_X7_is_v37 l dC dI cI cJ cZ cM H.size) (va_cwS 3 hts gX7_rivals_X7_is rfl rfl rfl (by decide +kernel) ⟨(Nat.le_of_ble_eq_true rfl), (Nat.le_of_ble_eq_true rfl)⟩) (k_pS hPc hDc hK hN hC hS hFc) rfl rfl hl.1 rfl (lv_room (Nat.le_of_ble_eq_true rfl)) dX7_rivals_3 ⟨(Nat.le_of_ble_eq_true rfl), (Nat.le_of_ble_eq_true rfl)⟩) hP hD hS hA [] [0, 1, 2, 3, 4, 5, 6, 7, 8, 9] rfl rfl rfl rfl (by decide) (fun _ => rfl) 0 0 rfl rfl (fun r_2 u_3 H locs hw hP hD hS => ?_)
  obtain rfl : r_2 = 1 := hw
  have hP : va_P (dC, dI) vwCl [(p0, .inr (7, oM p3 i7 j7)), ((p3 23), .inl (cI, 2, .inl (fun _ => 0))), ((p3 84), .inl (cI, 12, .inl (fun _ => 0))), ((p3 85), .inl (cI, 6, .inl (fun _ => 0))), ((p3 89), .inl (cI, 6, .inl (fun _ => 0))), ((p3 86), .inl (cI, 5, .inl (fun _ => 0))), ((p3 88), .inl (cI, 5, .inl (fun _ => 0))), ((p3 18), .inl (cI, 2, .inl (fun _ => 0))), ((p3 14), .inl (cI, 2, .inl (fun _ => 0))), ((p3 87), .inl (cI, 5, .inl (fun _ => 0)))] H := hP
  have hD : va_D A [(p0, .inr (7, oM p3 i7 j7)), ((p3 23), .inl (cI, 2, .inl (fun _ => 0))), ((p3 84), .inl (cI, 12, .inl (fun _ => 0))), ((p3 85), .inl (cI, 6, .inl (fun _ => 0))), ((p3 89), .inl (cI, 6, .inl (fun _ => 0))), ((p3 86), .inl (cI, 5, .inl (fun _ => 0))), ((p3 88), .inl (cI, 5, .inl (fun _ => 0))), ((p3 18), .inl (cI, 2, .inl (fun _ => 0))), ((p3 14), .inl (cI, 2, .inl (fun _ => 0))), ((p3 87), .inl (cI, 5, .inl (fun _ => 0)))] := hD
  refine lv_if_eq (tgt := 25) hx hb dX7_rivals_6 (by decide) (fun q9 => absurd q9 (by decide +kernel)) (fun _ => ?_)
  refine lv_iload_n hx hb dX7_rivals_9 rfl (lv_at hl 2 rfl) ?_
  refine lv_iconst (v := (-1)) hx hb dX7_rivals_10 (by decide +kernel) ?_
  refine lv_icmp_eq (tgt := 29) hx hb dX7_rivals_11 (by decide) (fun c_4 => ?_) (fun c_4 => ?_)
  · have c_4 : p2.toInt = (-1) := k_eqT rfl (by decide +kernel) c_4
    exfalso; omega
  · have c_4 : ¬ p2.toInt = (-1) := k_eqF rfl (by decide +kernel) c_4
    refine lv_iload_n hx hb dX7_rivals_14 rfl (lv_at hl 2 rfl) ?_
    refine lv_iconst (v := 0) hx hb dX7_rivals_15 (by decide +kernel) ?_
    refine lv_iload_n hx hb dX7_rivals_16 rfl (lv_at hl 1 rfl) ?_
    refine lv_iconst (v := 1) hx hb dX7_rivals_17 (by decide +kernel) ?_
    refine lv_isub hx hb dX7_rivals_18 ?_
    refine k_int (v := 2) (by decide +kernel) ?_
    refine k_ci (wc := []) (wr := [(p0, .inr (7, oM p3 i7 j7)), ((p3 23), .inl (cI, 2, .inl (fun _ => 0))), ((p3 84), .inl (cI, 12, .inl (fun _ => 0))), ((p3 85), .inl (cI, 6, .inl (fun _ => 0))), ((p3 89), .inl (cI, 6, .inl (fun _ => 0))), ((p3 86), .inl (cI, 5, .inl (fun _ => 0))), ((p3 88), .inl (cI, 5, .inl (fun _ => 0))), ((p3 18), .inl (cI, 2, .inl (fun _ => 0))), ((p3 14), .inl (cI, 2, .inl (fun _ => 0))), ((p3 87), .inl (cI, 5, .inl (fun _ => 0)))]) (fun hPc hDc hFc => va_runS (As := [.int p2, .int 0, .int 2]) (rest := []) ⟨hx, hb, hml, hown, hts⟩ (c_X7_is_v54 l dC dI cI cJ cZ cM p2 (by omega) (by omega) H.size) (va_cwS 3 hts gX7_rivals_X7_is rfl rfl rfl (by decide +kernel) ⟨(Nat.le_of_ble_eq_true rfl), (Nat.le_of_ble_eq_true rfl)⟩) (k_pS hPc hDc hK hN hC hS hFc) rfl rfl hl.1 rfl (lv_room (Nat.le_of_ble_eq_true rfl)) dX7_rivals_19 ⟨(Nat.le_of_ble_eq_true rfl), (Nat.le_of_ble_eq_true rfl)⟩) hP hD hS hA [] [0, 1, 2, 3, 4, 5, 6, 7, 8, 9] rfl rfl rfl rfl (by decide) (fun _ => rfl) 0 0 rfl rfl (fun r_5 u_6 H locs hw hP hD hS => ?_)
    obtain rfl : r_5 = 1 := hw
    have hP : va_P (dC, dI) vwCl [(p0, .inr (7, oM p3 i7 j7)), ((p3 23), .inl (cI, 2, .inl (fun _ => 0))), ((p3 84), .inl (cI, 12, .inl (fun _ => 0))), ((p3 85), .inl (cI, 6, .inl (fun _ => 0))), ((p3 89), .inl (cI, 6, .inl (fun _ => 0))), ((p3 86), .inl (cI, 5, .inl (fun _ => 0))), ((p3 88), .inl (cI, 5, .inl (fun _ => 0))), ((p3 18), .inl (cI, 2, .inl (fun _ => 0))), ((p3 14), .inl (cI, 2, .inl (fun _ => 0))), ((p3 87), .inl (cI, 5, .inl (fun _ => 0)))] H := hP
    have hD : va_D A [(p0, .inr (7, oM p3 i7 j7)), ((p3 23), .inl (cI, 2, .inl (fun _ => 0))), ((p3 84), .inl (cI, 12, .inl (fun _ => 0))), ((p3 85), .inl (cI, 6, .inl (fun _ => 0))), ((p3 89), .inl (cI, 6, .inl (fun _ => 0))), ((p3 86), .inl (cI, 5, .inl (fun _ => 0))), ((p3 88), .inl (cI, 5, .inl (fun _ => 0))), ((p3 18), .inl (cI, 2, .inl (fun _ => 0))), ((p3 14), .inl (cI, 2, .inl (fun _ => 0))), ((p3 87), .inl (cI, 5, .inl (fun _ => 0)))] := hD
    refine lv_if_ne (tgt := 29) hx hb dX7_rivals_22 (by decide) (fun _ => ?_) (fun q9 => absurd q9 (by decide +kernel))
    refine lv_aload_n hx hb dX7_rivals_29 rfl (lv_at hl 0 rfl) ?_
    refine k_get (D := (dC, dI)) (ci := 7) (v := .ref (p3 84)) (C := RX7) (T := TX7) (N := 92) hx hb hts hinX7 hown hK hP 0 rfl rfl 84 (by decide) w_0 rfl rfl dX7_rivals_30 ?_
    refine lv_iconst (v := 0) hx hb dX7_rivals_33 (by decide +kernel) ?_
    refine lv_aload_n hx hb dX7_rivals_34 rfl (lv_at hl 0 rfl) ?_
    refine k_get (D := (dC, dI)) (ci := 7) (v := .ref (p3 23)) (C := RX7) (T := TX7) (N := 92) hx hb hts hinX7 hown hK hP 0 rfl rfl 23 (by decide) w_1 rfl rfl dX7_rivals_35 ?_
    refine lv_aload_n hx hb dX7_rivals_38 rfl (lv_at hl 0 rfl) ?_
    refine k_get (D := (dC, dI)) (ci := 7) (v := .int 0) (C := RX7) (T := TX7) (N := 92) hx hb hts hinX7 hown hK hP 0 rfl rfl 13 (by decide) w_2 rfl rfl dX7_rivals_39 ?_
    refine k_iald (v := 0) hx hb hK hP 1 0 0 rfl rfl rfl (Nat.le_of_ble_eq_true rfl) (Nat.le_of_ble_eq_true rfl) rfl dX7_rivals_42 ?_
    refine k_iast (g := (upd (fun _ => 0) 0 0)) (ws' := [(p0, .inr (7, oM p3 i7 j7)), ((p3 23), .inl (cI, 2, .inl (fun _ => 0))), ((p3 84), .inl (cI, 12, .inl (upd (fun _ => 0) 0 0))), ((p3 85), .inl (cI, 6, .inl (fun _ => 0))), ((p3 89), .inl (cI, 6, .inl (fun _ => 0))), ((p3 86), .inl (cI, 5, .inl (fun _ => 0))), ((p3 88), .inl (cI, 5, .inl (fun _ => 0))), ((p3 18), .inl (cI, 2, .inl (fun _ => 0))), ((p3 14), .inl (cI, 2, .inl (fun _ => 0))), ((p3 87), .inl (cI, 5, .inl (fun _ => 0)))]) hx hb hK hP hD hS 2 0 0 rfl rfl rfl (Nat.le_of_ble_eq_true rfl) (Nat.le_of_ble_eq_true rfl) rfl rfl dX7_rivals_43 (fun H locs hP hD hS => ?_)
    refine lv_aload_n hx hb dX7_rivals_44 rfl (lv_at hl 0 rfl) ?_
    refine k_get (D := (dC, dI)) (ci := 7) (v := .ref (p3 84)) (C := RX7) (T := TX7) (N := 92) hx hb hts hinX7 hown hK hP 0 rfl rfl 84 (by decide) w_0 rfl rfl dX7_rivals_45 ?_
    refine lv_iconst (v := 1) hx hb dX7_rivals_48 (by decide +kernel) ?_
    refine lv_aload_n hx hb dX7_rivals_49 rfl (lv_at hl 0 rfl) ?_
    refine k_get (D := (dC, dI)) (ci := 7) (v := .ref (p3 23)) (C := RX7) (T := TX7) (N := 92) hx hb hts hinX7 hown hK hP 0 rfl rfl 23 (by decide) w_1 rfl rfl dX7_rivals_50 ?_
    refine lv_aload_n hx hb dX7_rivals_53 rfl (lv_at hl 0 rfl) ?_
    refine k_get (D := (dC, dI)) (ci := 7) (v := .int 0) (C := RX7) (T := TX7) (N := 92) hx hb hts hinX7 hown hK hP 0 rfl rfl 13 (by decide) w_2 rfl rfl dX7_rivals_54 ?_
    refine k_iald (v := 0) hx hb hK hP 1 0 0 rfl rfl rfl (Nat.le_of_ble_eq_true rfl) (Nat.le_of_ble_eq_true rfl) rfl dX7_rivals_57 ?_
    refine k_iast (g := (upd (upd (fun _ => 0) 0 0) 1 0)) (ws' := [(p0, .inr (7, oM p3 i7 j7)), ((p3 23), .inl (cI, 2, .inl (fun _ => 0))), ((p3 84), .inl (cI, 12, .inl (upd (upd (fun _ => 0) 0 0) 1 0))), ((p3 85), .inl (cI, 6, .inl (fun _ => 0))), ((p3 89), .inl (cI, 6, .inl (fun _ => 0))), ((p3 86), .inl (cI, 5, .inl (fun _ => 0))), ((p3 88), .inl (cI, 5, .inl (fun _ => 0))), ((p3 18), .inl (cI, 2, .inl (fun _ => 0))), ((p3 14), .inl (cI, 2, .inl (fun _ => 0))), ((p3 87), .inl (cI, 5, .inl (fun _ => 0)))]) hx hb hK hP hD hS 2 0 1 rfl rfl rfl (Nat.le_of_ble_eq_true rfl) (Nat.le_of_ble_eq_true rfl) rfl rfl dX7_rivals_58 (fun H locs hP hD hS => ?_)
    refine lv_aload_n hx hb dX7_rivals_59 rfl (lv_at hl 0 rfl) ?_
    refine k_get (D := (dC, dI)) (ci := 7) (v := .ref (p3 85)) (C := RX7) (T := TX7) (N := 92) hx hb hts hinX7 hown hK hP 0 rfl rfl 85 (by decide) w_3 rfl rfl dX7_rivals_60 ?_
    refine lv_iconst (v := 0) hx hb dX7_rivals_63 (by decide +kernel) ?_
    refine lv_iconst (v := 0) hx hb dX7_rivals_64 (by decide +kernel) ?_
    refine k_iast (g := (upd (fun _ => 0) 0 0)) (ws' := [(p0, .inr (7, oM p3 i7 j7)), ((p3 23), .inl (cI, 2, .inl (fun _ => 0))), ((p3 84), .inl (cI, 12, .inl (upd (upd (fun _ => 0) 0 0) 1 0))), ((p3 85), .inl (cI, 6, .inl (upd (fun _ => 0) 0 0))), ((p3 89), .inl (cI, 6, .inl (fun _ => 0))), ((p3 86), .inl (cI, 5, .inl (fun _ => 0))), ((p3 88), .inl (cI, 5, .inl (fun _ => 0))), ((p3 18), .inl (cI, 2, .inl (fun _ => 0))), ((p3 14), .inl (cI, 2, .inl (fun _ => 0))), ((p3 87), .inl (cI, 5, .inl (fun _ => 0)))]) hx hb hK hP hD hS 3 0 0 rfl rfl rfl (Nat.le_of_ble_eq_true rfl) (Nat.le_of_ble_eq_true rfl) rfl rfl dX7_rivals_65 (fun H locs hP hD hS => ?_)
    refine lv_aload_n hx hb dX7_rivals_66 rfl (lv_at hl 0 rfl) ?_
    refine k_get (D := (dC, dI)) (ci := 7) (v := .ref (p3 89)) (C := RX7) (T := TX7) (N := 92) hx hb hts hinX7 hown hK hP 0 rfl rfl 89 (by decide) w_4 rfl rfl dX7_rivals_67 ?_
    refine lv_iconst (v := 0) hx hb dX7_rivals_70 (by decide +kernel) ?_
    refine lv_iconst (v := 0) hx hb dX7_rivals_71 (by decide +kernel) ?_
    refine k_iast (g := (upd (fun _ => 0) 0 0)) (ws' := [(p0, .inr (7, oM p3 i7 j7)), ((p3 23), .inl (cI, 2, .inl (fun _ => 0))), ((p3 84), .inl (cI, 12, .inl (upd (upd (fun _ => 0) 0 0) 1 0))), ((p3 85), .inl (cI, 6, .inl (upd (fun _ => 0) 0 0))), ((p3 89), .inl (cI, 6, .inl (upd (fun _ => 0) 0 0))), ((p3 86), .inl (cI, 5, .inl (fun _ => 0))), ((p3 88), .inl (cI, 5, .inl (fun _ => 0))), ((p3 18), .inl (cI, 2, .inl (fun _ => 0))), ((p3 14), .inl (cI, 2, .inl (fun _ => 0))), ((p3 87), .inl (cI, 5, .inl (fun _ => 0)))]) hx hb hK hP hD hS 4 0 0 rfl rfl rfl (Nat.le_of_ble_eq_true rfl) (Nat.le_of_ble_eq_true rfl) rfl rfl dX7_rivals_72 (fun H locs hP hD hS => ?_)
    refine lv_iload_n hx hb dX7_rivals_73 rfl (lv_at hl 1 rfl) ?_
    refine lv_if_ne (tgt := 79) hx hb dX7_rivals_74 (by decide) (fun _ => ?_) (fun q9 => absurd q9 (by decide +kernel))
    refine lv_iconst (v := 0) hx hb dX7_rivals_79 (by decide +kernel) ?_
    refine lv_istore_n (lv' := [(3, .int 0), (0, .ref p0), (1, .int 3), (2, .int p2)]) hx hb dX7_rivals_80 rfl hl (by decide) rfl (fun ls hl => ?_)
    refine lv_bipush (v := 20) hx hb dX7_rivals_81 (by decide +kernel) ?_
    refine lv_istore (lv' := [(4, .int 20), (3, .int 0), (0, .ref p0), (1, .int 3), (2, .int p2)]) hx hb dX7_rivals_83 hl (by decide) rfl (fun ls hl => ?_)
    refine lv_iconst (v := 0) hx hb dX7_rivals_85 (by decide +kernel) ?_
    refine lv_istore (lv' := [(5, .int 0), (4, .int 20), (3, .int 0), (0, .ref p0), (1, .int 3), (2, .int p2)]) hx hb dX7_rivals_86 hl (by decide) rfl (fun ls hl => ?_)
    refine lv_iload hx hb dX7_rivals_88 (lv_at hl 0 rfl) ?_
    refine lv_iload_n hx hb dX7_rivals_90 rfl (lv_at hl 5 rfl) ?_
    refine lv_iconst (v := (-1)) hx hb dX7_rivals_91 (by decide +kernel) ?_
    refine lv_icmp_ne (tgt := 99) hx hb dX7_rivals_92 (by decide) (fun c_7 => ?_) (fun c_7 => ?_)
    · have c_7 : ¬ p2.toInt = (-1) := k_eqF rfl (by decide +kernel) c_7
      refine lv_iload_n hx hb dX7_rivals_99 rfl (lv_at hl 5 rfl) ?_
      refine lv_icmp_gt (tgt := 177) hx hb dX7_rivals_100 (by decide) (fun c_8 => ?_) (fun c_8 => ?_)
      · have c_8 : p2.toInt < 0 := k_ltT rfl (by decide +kernel) c_8
        exfalso; omega
      · have c_8 : 0 ≤ p2.toInt := k_ltF rfl (by decide +kernel) c_8
        refine lv_bipush (v := 20) hx hb dX7_rivals_103 (by decide +kernel) ?_
        refine lv_istore (lv' := [(4, .int 20), (5, .int 0), (3, .int 0), (0, .ref p0), (1, .int 3), (2, .int p2)]) hx hb dX7_rivals_105 hl (by decide) rfl (fun ls hl => ?_)
        refine lv_iload_n hx hb dX7_rivals_107 rfl (lv_at hl 2 rfl) ?_
        refine lv_if_eq (tgt := 114) hx hb dX7_rivals_108 (by decide) (fun _ => ?_) (fun q9 => absurd q9 (by decide +kernel))
        refine lv_aload_n hx hb dX7_rivals_114 rfl (lv_at hl 3 rfl) ?_
        refine lv_iload hx hb dX7_rivals_115 (lv_at hl 1 rfl) ?_
        refine lv_iload_n hx hb dX7_rivals_117 rfl (lv_at hl 4 rfl) ?_
        refine k_cv (wc := [(p0, .inr (7, oM p3 i7 j7)), ((p3 86), .inl (cI, 5, .inl (fun _ => 0))), ((p3 88), .inl (cI, 5, .inl (fun _ => 0))), ((p3 18), .inl (cI, 2, .inl (fun _ => 0))), ((p3 84), .inl (cI, 12, .inl (upd (upd (fun _ => 0) 0 0) 1 0))), ((p3 85), .inl (cI, 6, .inl (upd (fun _ => 0) 0 0))), ((p3 89), .inl (cI, 6, .inl (upd (fun _ => 0) 0 0))), ((p3 14), .inl (cI, 2, .inl (fun _ => 0))), ((p3 87), .inl (cI, 5, .inl (fun _ => 0)))]) (wr := [((p3 23), .inl (cI, 2, .inl (fun _ => 0)))]) (fun hPc hDc hFc => va_runV (As := [.int 0, .int 3]) (rest := []) ⟨hx, hb, hml, hown, hts⟩ (c_X7_solves_v3 l dC dI cI cJ cZ cM p0 p3 H.size) (cwV 2 hts gX7_rivals_X7_solves rfl rfl rfl (by decide +kernel) ⟨(Nat.le_of_ble_eq_true rfl), (Nat.le_of_ble_eq_true rfl)⟩) (k_pV hPc hDc hK hN hC hS hFc hP (q0 := 0) (ci := 7) rfl rfl) rfl rfl hl.1 rfl (lv_room (Nat.le_of_ble_eq_true rfl)) dX7_rivals_118 ⟨(Nat.le_of_ble_eq_true rfl), (Nat.le_of_ble_eq_true rfl)⟩) hP hD hS hA [0, 5, 6, 7, 2, 3, 4, 8, 9] [1] rfl rfl rfl rfl (by decide) (fun _ => rfl) 0 0 rfl rfl (fun u_10 H locs hw hP hD hS => ?_)
        have hP : va_P (dC, dI) vwCl [((p3 23), .inl (cI, 2, .inl (fun _ => 0))), (p0, .inr (7, oM p3 i7 j7)), ((p3 86), .inl (cI, 5, .inl (upd (upd (upd (upd (upd (upd (upd (upd (upd (fun _ => 0) 0 0) 0 1) 1 0) 1 1) 2 0) 2 1) 2 2) 1 2) 0 2))), ((p3 88), .inl (cI, 5, .inl (upd (upd (upd (upd (upd (upd (fun _ => 0) 0 (-1)) 1 (-1)) 2 (-1)) 2 0) 1 0) 0 0))), ((p3 18), .inl (cI, 2, .inl (fun _ => 0))), ((p3 84), .inl (cI, 12, .inl (upd (upd (upd (upd (upd (upd (upd (upd (fun _ => 0) 0 0) 1 0) 2 0) 3 0) 4 0) 5 0) 6 0) 7 0))), ((p3 85), .inl (cI, 6, .inl (upd (upd (upd (upd (fun _ => 0) 0 0) 1 0) 2 0) 3 0))), ((p3 89), .inl (cI, 6, .inl (upd (upd (upd (upd (fun _ => 0) 0 0) 1 0) 2 0) 3 0))), ((p3 14), .inl (cI, 2, .inl (fun _ => 0))), ((p3 87), .inl (cI, 5, .inl (upd (upd (upd (fun _ => 0) 2 0) 1 0) 0 0)))] H := hP
        have hD : va_D A [((p3 23), .inl (cI, 2, .inl (fun _ => 0))), (p0, .inr (7, oM p3 i7 j7)), ((p3 86), .inl (cI, 5, .inl (upd (upd (upd (upd (upd (upd (upd (upd (upd (fun _ => 0) 0 0) 0 1) 1 0) 1 1) 2 0) 2 1) 2 2) 1 2) 0 2))), ((p3 88), .inl (cI, 5, .inl (upd (upd (upd (upd (upd (upd (fun _ => 0) 0 (-1)) 1 (-1)) 2 (-1)) 2 0) 1 0) 0 0))), ((p3 18), .inl (cI, 2, .inl (fun _ => 0))), ((p3 84), .inl (cI, 12, .inl (upd (upd (upd (upd (upd (upd (upd (upd (fun _ => 0) 0 0) 1 0) 2 0) 3 0) 4 0) 5 0) 6 0) 7 0))), ((p3 85), .inl (cI, 6, .inl (upd (upd (upd (upd (fun _ => 0) 0 0) 1 0) 2 0) 3 0))), ((p3 89), .inl (cI, 6, .inl (upd (upd (upd (upd (fun _ => 0) 0 0) 1 0) 2 0) 3 0))), ((p3 14), .inl (cI, 2, .inl (fun _ => 0))), ((p3 87), .inl (cI, 5, .inl (upd (upd (upd (fun _ => 0) 2 0) 1 0) 0 0)))] := hD
        refine lv_aload_n hx hb dX7_rivals_121 rfl (lv_at hl 3 rfl) ?_
        refine k_get (D := (dC, dI)) (ci := 7) (v := .ref (p3 88)) (C := RX7) (T := TX7) (N := 92) hx hb hts hinX7 hown hK hP 1 rfl rfl 88 (by decide) w_5 rfl rfl dX7_rivals_122 ?_
        refine lv_iload hx hb dX7_rivals_125 (lv_at hl 1 rfl) ?_
        refine k_iald (v := 0) hx hb hK hP 3 0 0 rfl rfl rfl (Nat.le_of_ble_eq_true rfl) (Nat.le_of_ble_eq_true rfl) rfl dX7_rivals_127 ?_
        refine lv_istore (lv' := [(6, .int 0), (4, .int 20), (5, .int 0), (3, .int 0), (0, .ref p0), (1, .int 3), (2, .int p2)]) hx hb dX7_rivals_128 hl (by decide) rfl (fun ls hl => ?_)
        refine lv_iload hx hb dX7_rivals_130 (lv_at hl 0 rfl) ?_
        refine lv_aload_n hx hb dX7_rivals_132 rfl (lv_at hl 4 rfl) ?_
        refine k_get (D := (dC, dI)) (ci := 7) (v := .ref (p3 18)) (C := RX7) (T := TX7) (N := 92) hx hb hts hinX7 hown hK hP 1 rfl rfl 18 (by decide) w_6 rfl rfl dX7_rivals_133 ?_
        refine lv_aload_n hx hb dX7_rivals_136 rfl (lv_at hl 4 rfl) ?_
        refine k_get (D := (dC, dI)) (ci := 7) (v := .int 0) (C := RX7) (T := TX7) (N := 92) hx hb hts hinX7 hown hK hP 1 rfl rfl 13 (by decide) w_2 rfl rfl dX7_rivals_137 ?_
        refine k_iald (v := 0) hx hb hK hP 4 0 0 rfl rfl rfl (Nat.le_of_ble_eq_true rfl) (Nat.le_of_ble_eq_true rfl) rfl dX7_rivals_140 ?_
        refine lv_icmp_ne (tgt := 149) hx hb dX7_rivals_141 (by decide) (fun q9 => absurd q9 (by decide +kernel)) (fun _ => ?_)
        refine lv_bipush (v := 20) hx hb dX7_rivals_144 (by decide +kernel) ?_
        refine lv_goto (tgt := 151) hx hb dX7_rivals_146 (by decide) ?_
        refine lv_istore (lv' := [(4, .int 20), (6, .int 0), (5, .int 0), (3, .int 0), (0, .ref p0), (1, .int 3), (2, .int p2)]) hx hb dX7_rivals_151 hl (by decide) rfl (fun ls hl => ?_)
        refine lv_iload_n hx hb dX7_rivals_153 rfl (lv_at hl 6 rfl) ?_
        refine lv_iconst (v := (-1)) hx hb dX7_rivals_154 (by decide +kernel) ?_
        refine lv_icmp_eq (tgt := 171) hx hb dX7_rivals_155 (by decide) (fun c_11 => ?_) (fun c_11 => ?_)
        · have c_11 : p2.toInt = (-1) := k_eqT rfl (by decide +kernel) c_11
          exfalso; omega
        · have c_11 : ¬ p2.toInt = (-1) := k_eqF rfl (by decide +kernel) c_11
          refine lv_aload_n hx hb dX7_rivals_158 rfl (lv_at hl 4 rfl) ?_
          refine lv_iload hx hb dX7_rivals_159 (lv_at hl 2 rfl) ?_
          refine lv_iload hx hb dX7_rivals_161 (lv_at hl 2 rfl) ?_
          refine lv_iconst (v := 2) hx hb dX7_rivals_163 (by decide +kernel) ?_
          refine lv_irem hx hb dX7_rivals_164 (by decide +kernel) ?_
          refine k_int (v := 0) (by decide +kernel) ?_
          refine lv_iload hx hb dX7_rivals_165 (lv_at hl 1 rfl) ?_
          refine k_ci (wc := [(p0, .inr (7, oM p3 i7 j7)), ((p3 84), .inl (cI, 12, .inl (upd (upd (upd (upd (upd (upd (upd (upd (fun _ => 0) 0 0) 1 0) 2 0) 3 0) 4 0) 5 0) 6 0) 7 0))), ((p3 85), .inl (cI, 6, .inl (upd (upd (upd (upd (fun _ => 0) 0 0) 1 0) 2 0) 3 0))), ((p3 89), .inl (cI, 6, .inl (upd (upd (upd (upd (fun _ => 0) 0 0) 1 0) 2 0) 3 0))), ((p3 18), .inl (cI, 2, .inl (fun _ => 0)))]) (wr := [((p3 23), .inl (cI, 2, .inl (fun _ => 0))), ((p3 86), .inl (cI, 5, .inl (upd (upd (upd (upd (upd (upd (upd (upd (upd (fun _ => 0) 0 0) 0 1) 1 0) 1 1) 2 0) 2 1) 2 2) 1 2) 0 2))), ((p3 88), .inl (cI, 5, .inl (upd (upd (upd (upd (upd (upd (fun _ => 0) 0 (-1)) 1 (-1)) 2 (-1)) 2 0) 1 0) 0 0))), ((p3 14), .inl (cI, 2, .inl (fun _ => 0))), ((p3 87), .inl (cI, 5, .inl (upd (upd (upd (fun _ => 0) 2 0) 1 0) 0 0)))]) (fun hPc hDc hFc => va_runV (As := [.int 0, .int 0, .int 0]) (rest := []) ⟨hx, hb, hml, hown, hts⟩ (c_X7_turns_v7 l dC dI cI cJ cZ cM p0 p3 H.size) (cwV 3 hts gX7_rivals_X7_turns rfl rfl rfl (by decide +kernel) ⟨(Nat.le_of_ble_eq_true rfl), (Nat.le_of_ble_eq_true rfl)⟩) (k_pV hPc hDc hK hN hC hS hFc hP (q0 := 1) (ci := 7) rfl rfl) rfl rfl hl.1 rfl (lv_room (Nat.le_of_ble_eq_true rfl)) dX7_rivals_167 ⟨(Nat.le_of_ble_eq_true rfl), (Nat.le_of_ble_eq_true rfl)⟩) hP hD hS hA [1, 5, 6, 7, 4] [0, 2, 3, 8, 9] rfl rfl rfl rfl (by decide) (fun _ => rfl) 0 0 rfl rfl (fun r_12 u_13 H locs hw hP hD hS => ?_)
          obtain rfl : r_12 = 0 := hw
          have hP : va_P (dC, dI) vwCl [((p3 23), .inl (cI, 2, .inl (fun _ => 0))), ((p3 86), .inl (cI, 5, .inl (upd (upd (upd (upd (upd (upd (upd (upd (upd (fun _ => 0) 0 0) 0 1) 1 0) 1 1) 2 0) 2 1) 2 2) 1 2) 0 2))), ((p3 88), .inl (cI, 5, .inl (upd (upd (upd (upd (upd (upd (fun _ => 0) 0 (-1)) 1 (-1)) 2 (-1)) 2 0) 1 0) 0 0))), ((p3 14), .inl (cI, 2, .inl (fun _ => 0))), ((p3 87), .inl (cI, 5, .inl (upd (upd (upd (fun _ => 0) 2 0) 1 0) 0 0))), (p0, .inr (7, oM p3 i7 j7)), ((p3 84), .inl (cI, 12, .inl (upd (upd (upd (upd (upd (upd (upd (upd (upd (upd (fun _ => 0) 0 0) 1 0) 2 0) 3 0) 4 0) 5 0) 6 0) 7 0) 2 0) 3 0))), ((p3 85), .inl (cI, 6, .inl (upd (upd (upd (upd (upd (fun _ => 0) 0 0) 1 0) 2 0) 3 0) 1 0))), ((p3 89), .inl (cI, 6, .inl (upd (upd (upd (upd (upd (fun _ => 0) 0 0) 1 0) 2 0) 3 0) 1 0))), ((p3 18), .inl (cI, 2, .inl (fun _ => 0)))] H := hP
          have hD : va_D A [((p3 23), .inl (cI, 2, .inl (fun _ => 0))), ((p3 86), .inl (cI, 5, .inl (upd (upd (upd (upd (upd (upd (upd (upd (upd (fun _ => 0) 0 0) 0 1) 1 0) 1 1) 2 0) 2 1) 2 2) 1 2) 0 2))), ((p3 88), .inl (cI, 5, .inl (upd (upd (upd (upd (upd (upd (fun _ => 0) 0 (-1)) 1 (-1)) 2 (-1)) 2 0) 1 0) 0 0))), ((p3 14), .inl (cI, 2, .inl (fun _ => 0))), ((p3 87), .inl (cI, 5, .inl (upd (upd (upd (fun _ => 0) 2 0) 1 0) 0 0))), (p0, .inr (7, oM p3 i7 j7)), ((p3 84), .inl (cI, 12, .inl (upd (upd (upd (upd (upd (upd (upd (upd (upd (upd (fun _ => 0) 0 0) 1 0) 2 0) 3 0) 4 0) 5 0) 6 0) 7 0) 2 0) 3 0))), ((p3 85), .inl (cI, 6, .inl (upd (upd (upd (upd (upd (fun _ => 0) 0 0) 1 0) 2 0) 3 0) 1 0))), ((p3 89), .inl (cI, 6, .inl (upd (upd (upd (upd (upd (fun _ => 0) 0 0) 1 0) 2 0) 3 0) 1 0))), ((p3 18), .inl (cI, 2, .inl (fun _ => 0)))] := hD
          refine lv_istore_n (lv' := [(3, .int 0), (4, .int 20), (6, .int 0), (5, .int 0), (0, .ref p0), (1, .int 3), (2, .int p2)]) hx hb dX7_rivals_170 rfl hl (by decide) rfl (fun ls hl => ?_)
          refine lv_iinc (v := 1) (lv' := [(5, .int 1), (3, .int 0), (4, .int 20), (6, .int 0), (0, .ref p0), (1, .int 3), (2, .int p2)]) hx hb dX7_rivals_171 hl (k := 3) rfl (by decide +kernel) (by decide) rfl (fun ls hl => ?_)
          refine lv_goto (tgt := 88) hx hb dX7_rivals_174 (by decide) ?_
          refine lv_iload hx hb dX7_rivals_88 (lv_at hl 0 rfl) ?_
          refine lv_iload_n hx hb dX7_rivals_90 rfl (lv_at hl 6 rfl) ?_
          refine lv_iconst (v := (-1)) hx hb dX7_rivals_91 (by decide +kernel) ?_
          refine lv_icmp_ne (tgt := 99) hx hb dX7_rivals_92 (by decide) (fun c_14 => ?_) (fun c_14 => ?_)
          · have c_14 : ¬ p2.toInt = (-1) := k_eqF rfl (by decide +kernel) c_14
            refine lv_iload_n hx hb dX7_rivals_99 rfl (lv_at hl 6 rfl) ?_
            refine lv_icmp_gt (tgt := 177) hx hb dX7_rivals_100 (by decide) (fun c_15 => ?_) (fun c_15 => ?_)
            · have c_15 : p2.toInt < 1 := k_ltT rfl (by decide +kernel) c_15
              exfalso; omega
            · have c_15 : 1 ≤ p2.toInt := k_ltF rfl (by decide +kernel) c_15
              refine lv_bipush (v := 20) hx hb dX7_rivals_103 (by decide +kernel) ?_
              refine lv_istore (lv' := [(4, .int 20), (5, .int 1), (3, .int 0), (6, .int 0), (0, .ref p0), (1, .int 3), (2, .int p2)]) hx hb dX7_rivals_105 hl (by decide) rfl (fun ls hl => ?_)
              refine lv_iload_n hx hb dX7_rivals_107 rfl (lv_at hl 2 rfl) ?_
              refine lv_if_eq (tgt := 114) hx hb dX7_rivals_108 (by decide) (fun _ => ?_) (fun q9 => absurd q9 (by decide +kernel))
              refine lv_aload_n hx hb dX7_rivals_114 rfl (lv_at hl 4 rfl) ?_
              refine lv_iload hx hb dX7_rivals_115 (lv_at hl 1 rfl) ?_
              refine lv_iload_n hx hb dX7_rivals_117 rfl (lv_at hl 5 rfl) ?_
              refine k_cv (wc := [(p0, .inr (7, oM p3 i7 j7)), ((p3 86), .inl (cI, 5, .inl (upd (upd (upd (upd (upd (upd (upd (upd (upd (fun _ => 0) 0 0) 0 1) 1 0) 1 1) 2 0) 2 1) 2 2) 1 2) 0 2))), ((p3 88), .inl (cI, 5, .inl (upd (upd (upd (upd (upd (upd (fun _ => 0) 0 (-1)) 1 (-1)) 2 (-1)) 2 0) 1 0) 0 0))), ((p3 18), .inl (cI, 2, .inl (fun _ => 0))), ((p3 84), .inl (cI, 12, .inl (upd (upd (upd (upd (upd (upd (upd (upd (upd (upd (fun _ => 0) 0 0) 1 0) 2 0) 3 0) 4 0) 5 0) 6 0) 7 0) 2 0) 3 0))), ((p3 85), .inl (cI, 6, .inl (upd (upd (upd (upd (upd (fun _ => 0) 0 0) 1 0) 2 0) 3 0) 1 0))), ((p3 89), .inl (cI, 6, .inl (upd (upd (upd (upd (upd (fun _ => 0) 0 0) 1 0) 2 0) 3 0) 1 0))), ((p3 14), .inl (cI, 2, .inl (fun _ => 0))), ((p3 87), .inl (cI, 5, .inl (upd (upd (upd (fun _ => 0) 2 0) 1 0) 0 0)))]) (wr := [((p3 23), .inl (cI, 2, .inl (fun _ => 0)))]) (fun hPc hDc hFc => va_runV (As := [.int 1, .int 3]) (rest := []) ⟨hx, hb, hml, hown, hts⟩ (c_X7_solves_v4 l dC dI cI cJ cZ cM p0 p3 H.size) (cwV 2 hts gX7_rivals_X7_solves rfl rfl rfl (by decide +kernel) ⟨(Nat.le_of_ble_eq_true rfl), (Nat.le_of_ble_eq_true rfl)⟩) (k_pV hPc hDc hK hN hC hS hFc hP (q0 := 5) (ci := 7) rfl rfl) rfl rfl hl.1 rfl (lv_room (Nat.le_of_ble_eq_true rfl)) dX7_rivals_118 ⟨(Nat.le_of_ble_eq_true rfl), (Nat.le_of_ble_eq_true rfl)⟩) hP hD hS hA [5, 1, 2, 9, 6, 7, 8, 3, 4] [0] rfl rfl rfl rfl (by decide) (fun _ => rfl) 0 0 rfl rfl (fun u_17 H locs hw hP hD hS => ?_)
              have hP : va_P (dC, dI) vwCl [((p3 23), .inl (cI, 2, .inl (fun _ => 0))), (p0, .inr (7, oM p3 i7 j7)), ((p3 86), .inl (cI, 5, .inl (upd (upd (upd (upd (upd (upd (upd (upd (upd (upd (upd (upd (upd (upd (upd (fun _ => 0) 0 0) 0 1) 1 0) 1 1) 2 0) 2 1) 2 2) 1 2) 0 2) 1 0) 1 1) 2 0) 2 1) 2 2) 1 2))), ((p3 88), .inl (cI, 5, .inl (upd (upd (upd (upd (upd (upd (upd (upd (upd (upd (fun _ => 0) 0 (-1)) 1 (-1)) 2 (-1)) 2 0) 1 0) 0 0) 1 (-1)) 2 (-1)) 2 0) 1 0))), ((p3 18), .inl (cI, 2, .inl (fun _ => 0))), ((p3 84), .inl (cI, 12, .inl (upd (upd (upd (upd (upd (upd (upd (upd (upd (upd (upd (upd (upd (upd (fun _ => 0) 0 0) 1 0) 2 0) 3 0) 4 0) 5 0) 6 0) 7 0) 2 0) 3 0) 4 0) 5 0) 6 0) 7 0))), ((p3 85), .inl (cI, 6, .inl (upd (upd (upd (upd (upd (upd (upd (fun _ => 0) 0 0) 1 0) 2 0) 3 0) 1 0) 2 0) 3 0))), ((p3 89), .inl (cI, 6, .inl (upd (upd (upd (upd (upd (upd (upd (fun _ => 0) 0 0) 1 0) 2 0) 3 0) 1 0) 2 0) 3 0))), ((p3 14), .inl (cI, 2, .inl (fun _ => 0))), ((p3 87), .inl (cI, 5, .inl (upd (upd (upd (upd (upd (fun _ => 0) 2 0) 1 0) 0 0) 2 0) 1 0)))] H := hP
              have hD : va_D A [((p3 23), .inl (cI, 2, .inl (fun _ => 0))), (p0, .inr (7, oM p3 i7 j7)), ((p3 86), .inl (cI, 5, .inl (upd (upd (upd (upd (upd (upd (upd (upd (upd (upd (upd (upd (upd (upd (upd (fun _ => 0) 0 0) 0 1) 1 0) 1 1) 2 0) 2 1) 2 2) 1 2) 0 2) 1 0) 1 1) 2 0) 2 1) 2 2) 1 2))), ((p3 88), .inl (cI, 5, .inl (upd (upd (upd (upd (upd (upd (upd (upd (upd (upd (fun _ => 0) 0 (-1)) 1 (-1)) 2 (-1)) 2 0) 1 0) 0 0) 1 (-1)) 2 (-1)) 2 0) 1 0))), ((p3 18), .inl (cI, 2, .inl (fun _ => 0))), ((p3 84), .inl (cI, 12, .inl (upd (upd (upd (upd (upd (upd (upd (upd (upd (upd (upd (upd (upd (upd (fun _ => 0) 0 0) 1 0) 2 0) 3 0) 4 0) 5 0) 6 0) 7 0) 2 0) 3 0) 4 0) 5 0) 6 0) 7 0))), ((p3 85), .inl (cI, 6, .inl (upd (upd (upd (upd (upd (upd (upd (fun _ => 0) 0 0) 1 0) 2 0) 3 0) 1 0) 2 0) 3 0))), ((p3 89), .inl (cI, 6, .inl (upd (upd (upd (upd (upd (upd (upd (fun _ => 0) 0 0) 1 0) 2 0) 3 0) 1 0) 2 0) 3 0))), ((p3 14), .inl (cI, 2, .inl (fun _ => 0))), ((p3 87), .inl (cI, 5, .inl (upd (upd (upd (upd (upd (fun _ => 0) 2 0) 1 0) 0 0) 2 0) 1 0)))] := hD
              refine lv_aload_n hx hb dX7_rivals_121 rfl (lv_at hl 4 rfl) ?_
              refine k_get (D := (dC, dI)) (ci := 7) (v := .ref (p3 88)) (C := RX7) (T := TX7) (N := 92) hx hb hts hinX7 hown hK hP 1 rfl rfl 88 (by decide) w_5 rfl rfl dX7_rivals_122 ?_
              refine lv_iload hx hb dX7_rivals_125 (lv_at hl 1 rfl) ?_
              refine k_iald (v := 0) hx hb hK hP 3 0 1 rfl rfl rfl (Nat.le_of_ble_eq_true rfl) (Nat.le_of_ble_eq_true rfl) rfl dX7_rivals_127 ?_
              refine lv_istore (lv' := [(6, .int 0), (4, .int 20), (5, .int 1), (3, .int 0), (0, .ref p0), (1, .int 3), (2, .int p2)]) hx hb dX7_rivals_128 hl (by decide) rfl (fun ls hl => ?_)
              refine lv_iload hx hb dX7_rivals_130 (lv_at hl 0 rfl) ?_
              refine lv_aload_n hx hb dX7_rivals_132 rfl (lv_at hl 4 rfl) ?_
              refine k_get (D := (dC, dI)) (ci := 7) (v := .ref (p3 18)) (C := RX7) (T := TX7) (N := 92) hx hb hts hinX7 hown hK hP 1 rfl rfl 18 (by decide) w_6 rfl rfl dX7_rivals_133 ?_
              refine lv_aload_n hx hb dX7_rivals_136 rfl (lv_at hl 4 rfl) ?_
              refine k_get (D := (dC, dI)) (ci := 7) (v := .int 0) (C := RX7) (T := TX7) (N := 92) hx hb hts hinX7 hown hK hP 1 rfl rfl 13 (by decide) w_2 rfl rfl dX7_rivals_137 ?_
              refine k_iald (v := 0) hx hb hK hP 4 0 0 rfl rfl rfl (Nat.le_of_ble_eq_true rfl) (Nat.le_of_ble_eq_true rfl) rfl dX7_rivals_140 ?_
              refine lv_icmp_ne (tgt := 149) hx hb dX7_rivals_141 (by decide) (fun q9 => absurd q9 (by decide +kernel)) (fun _ => ?_)
              refine lv_bipush (v := 20) hx hb dX7_rivals_144 (by decide +kernel) ?_
              refine lv_goto (tgt := 151) hx hb dX7_rivals_146 (by decide) ?_
              refine lv_istore (lv' := [(4, .int 20), (6, .int 0), (5, .int 1), (3, .int 0), (0, .ref p0), (1, .int 3), (2, .int p2)]) hx hb dX7_rivals_151 hl (by decide) rfl (fun ls hl => ?_)
              refine lv_iload_n hx hb dX7_rivals_153 rfl (lv_at hl 6 rfl) ?_
              refine lv_iconst (v := (-1)) hx hb dX7_rivals_154 (by decide +kernel) ?_
              refine lv_icmp_eq (tgt := 171) hx hb dX7_rivals_155 (by decide) (fun c_18 => ?_) (fun c_18 => ?_)
              · have c_18 : p2.toInt = (-1) := k_eqT rfl (by decide +kernel) c_18
                exfalso; omega
              · have c_18 : ¬ p2.toInt = (-1) := k_eqF rfl (by decide +kernel) c_18
                refine lv_aload_n hx hb dX7_rivals_158 rfl (lv_at hl 4 rfl) ?_
                refine lv_iload hx hb dX7_rivals_159 (lv_at hl 2 rfl) ?_
                refine lv_iload hx hb dX7_rivals_161 (lv_at hl 2 rfl) ?_
                refine lv_iconst (v := 2) hx hb dX7_rivals_163 (by decide +kernel) ?_
                refine lv_irem hx hb dX7_rivals_164 (by decide +kernel) ?_
                refine k_int (v := 1) (by decide +kernel) ?_
                refine lv_iload hx hb dX7_rivals_165 (lv_at hl 1 rfl) ?_
                refine k_ci (wc := [(p0, .inr (7, oM p3 i7 j7)), ((p3 84), .inl (cI, 12, .inl (upd (upd (upd (upd (upd (upd (upd (upd (upd (upd (upd (upd (upd (upd (fun _ => 0) 0 0) 1 0) 2 0) 3 0) 4 0) 5 0) 6 0) 7 0) 2 0) 3 0) 4 0) 5 0) 6 0) 7 0))), ((p3 85), .inl (cI, 6, .inl (upd (upd (upd (upd (upd (upd (upd (fun _ => 0) 0 0) 1 0) 2 0) 3 0) 1 0) 2 0) 3 0))), ((p3 89), .inl (cI, 6, .inl (upd (upd (upd (upd (upd (upd (upd (fun _ => 0) 0 0) 1 0) 2 0) 3 0) 1 0) 2 0) 3 0))), ((p3 18), .inl (cI, 2, .inl (fun _ => 0)))]) (wr := [((p3 23), .inl (cI, 2, .inl (fun _ => 0))), ((p3 86), .inl (cI, 5, .inl (upd (upd (upd (upd (upd (upd (upd (upd (upd (upd (upd (upd (upd (upd (upd (fun _ => 0) 0 0) 0 1) 1 0) 1 1) 2 0) 2 1) 2 2) 1 2) 0 2) 1 0) 1 1) 2 0) 2 1) 2 2) 1 2))), ((p3 88), .inl (cI, 5, .inl (upd (upd (upd (upd (upd (upd (upd (upd (upd (upd (fun _ => 0) 0 (-1)) 1 (-1)) 2 (-1)) 2 0) 1 0) 0 0) 1 (-1)) 2 (-1)) 2 0) 1 0))), ((p3 14), .inl (cI, 2, .inl (fun _ => 0))), ((p3 87), .inl (cI, 5, .inl (upd (upd (upd (upd (upd (fun _ => 0) 2 0) 1 0) 0 0) 2 0) 1 0)))]) (fun hPc hDc hFc => va_runV (As := [.int 1, .int 1, .int 0]) (rest := []) ⟨hx, hb, hml, hown, hts⟩ (c_X7_turns_v10 l dC dI cI cJ cZ cM p0 p3 H.size) (cwV 3 hts gX7_rivals_X7_turns rfl rfl rfl (by decide +kernel) ⟨(Nat.le_of_ble_eq_true rfl), (Nat.le_of_ble_eq_true rfl)⟩) (k_pV hPc hDc hK hN hC hS hFc hP (q0 := 1) (ci := 7) rfl rfl) rfl rfl hl.1 rfl (lv_room (Nat.le_of_ble_eq_true rfl)) dX7_rivals_167 ⟨(Nat.le_of_ble_eq_true rfl), (Nat.le_of_ble_eq_true rfl)⟩) hP hD hS hA [1, 5, 6, 7, 4] [0, 2, 3, 8, 9] rfl rfl rfl rfl (by decide) (fun _ => rfl) 0 0 rfl rfl (fun r_19 u_20 H locs hw hP hD hS => ?_)
                obtain rfl : r_19 = 0 := hw
                have hP : va_P (dC, dI) vwCl [((p3 23), .inl (cI, 2, .inl (fun _ => 0))), ((p3 86), .inl (cI, 5, .inl (upd (upd (upd (upd (upd (upd (upd (upd (upd (upd (upd (upd (upd (upd (upd (fun _ => 0) 0 0) 0 1) 1 0) 1 1) 2 0) 2 1) 2 2) 1 2) 0 2) 1 0) 1 1) 2 0) 2 1) 2 2) 1 2))), ((p3 88), .inl (cI, 5, .inl (upd (upd (upd (upd (upd (upd (upd (upd (upd (upd (fun _ => 0) 0 (-1)) 1 (-1)) 2 (-1)) 2 0) 1 0) 0 0) 1 (-1)) 2 (-1)) 2 0) 1 0))), ((p3 14), .inl (cI, 2, .inl (fun _ => 0))), ((p3 87), .inl (cI, 5, .inl (upd (upd (upd (upd (upd (fun _ => 0) 2 0) 1 0) 0 0) 2 0) 1 0))), (p0, .inr (7, oM p3 i7 j7)), ((p3 84), .inl (cI, 12, .inl (upd (upd (upd (upd (upd (upd (upd (upd (upd (upd (upd (upd (upd (upd (upd (upd (fun _ => 0) 0 0) 1 0) 2 0) 3 0) 4 0) 5 0) 6 0) 7 0) 2 0) 3 0) 4 0) 5 0) 6 0) 7 0) 4 0) 5 0))), ((p3 85), .inl (cI, 6, .inl (upd (upd (upd (upd (upd (upd (upd (upd (fun _ => 0) 0 0) 1 0) 2 0) 3 0) 1 0) 2 0) 3 0) 2 0))), ((p3 89), .inl (cI, 6, .inl (upd (upd (upd (upd (upd (upd (upd (upd (fun _ => 0) 0 0) 1 0) 2 0) 3 0) 1 0) 2 0) 3 0) 2 0))), ((p3 18), .inl (cI, 2, .inl (fun _ => 0)))] H := hP
                have hD : va_D A [((p3 23), .inl (cI, 2, .inl (fun _ => 0))), ((p3 86), .inl (cI, 5, .inl (upd (upd (upd (upd (upd (upd (upd (upd (upd (upd (upd (upd (upd (upd (upd (fun _ => 0) 0 0) 0 1) 1 0) 1 1) 2 0) 2 1) 2 2) 1 2) 0 2) 1 0) 1 1) 2 0) 2 1) 2 2) 1 2))), ((p3 88), .inl (cI, 5, .inl (upd (upd (upd (upd (upd (upd (upd (upd (upd (upd (fun _ => 0) 0 (-1)) 1 (-1)) 2 (-1)) 2 0) 1 0) 0 0) 1 (-1)) 2 (-1)) 2 0) 1 0))), ((p3 14), .inl (cI, 2, .inl (fun _ => 0))), ((p3 87), .inl (cI, 5, .inl (upd (upd (upd (upd (upd (fun _ => 0) 2 0) 1 0) 0 0) 2 0) 1 0))), (p0, .inr (7, oM p3 i7 j7)), ((p3 84), .inl (cI, 12, .inl (upd (upd (upd (upd (upd (upd (upd (upd (upd (upd (upd (upd (upd (upd (upd (upd (fun _ => 0) 0 0) 1 0) 2 0) 3 0) 4 0) 5 0) 6 0) 7 0) 2 0) 3 0) 4 0) 5 0) 6 0) 7 0) 4 0) 5 0))), ((p3 85), .inl (cI, 6, .inl (upd (upd (upd (upd (upd (upd (upd (upd (fun _ => 0) 0 0) 1 0) 2 0) 3 0) 1 0) 2 0) 3 0) 2 0))), ((p3 89), .inl (cI, 6, .inl (upd (upd (upd (upd (upd (upd (upd (upd (fun _ => 0) 0 0) 1 0) 2 0) 3 0) 1 0) 2 0) 3 0) 2 0))), ((p3 18), .inl (cI, 2, .inl (fun _ => 0)))] := hD
                refine lv_istore_n (lv' := [(3, .int 0), (4, .int 20), (6, .int 0), (5, .int 1), (0, .ref p0), (1, .int 3), (2, .int p2)]) hx hb dX7_rivals_170 rfl hl (by decide) rfl (fun ls hl => ?_)
                refine lv_iinc (v := 2) (lv' := [(5, .int 2), (3, .int 0), (4, .int 20), (6, .int 0), (0, .ref p0), (1, .int 3), (2, .int p2)]) hx hb dX7_rivals_171 hl (k := 3) rfl (by decide +kernel) (by decide) rfl (fun ls hl => ?_)
                refine lv_goto (tgt := 88) hx hb dX7_rivals_174 (by decide) ?_
                refine lv_iload hx hb dX7_rivals_88 (lv_at hl 0 rfl) ?_
                refine lv_iload_n hx hb dX7_rivals_90 rfl (lv_at hl 6 rfl) ?_
                refine lv_iconst (v := (-1)) hx hb dX7_rivals_91 (by decide +kernel) ?_
                refine lv_icmp_ne (tgt := 99) hx hb dX7_rivals_92 (by decide) (fun c_21 => ?_) (fun c_21 => ?_)
                · have c_21 : ¬ p2.toInt = (-1) := k_eqF rfl (by decide +kernel) c_21
                  refine lv_iload_n hx hb dX7_rivals_99 rfl (lv_at hl 6 rfl) ?_
                  refine lv_icmp_gt (tgt := 177) hx hb dX7_rivals_100 (by decide) (fun c_22 => ?_) (fun c_22 => ?_)
                  · have c_22 : p2.toInt < 2 := k_ltT rfl (by decide +kernel) c_22
                    refine lv_iload_n hx hb dX7_rivals_177 rfl (lv_at hl 6 rfl) ?_
                    refine lv_iconst (v := (-1)) hx hb dX7_rivals_178 (by decide +kernel) ?_
                    refine lv_icmp_ne (tgt := 191) hx hb dX7_rivals_179 (by decide) (fun c_23 => ?_) (fun c_23 => ?_)
                    · have c_23 : ¬ p2.toInt = (-1) := k_eqF rfl (by decide +kernel) c_23
                      refine lv_iload hx hb dX7_rivals_191 (lv_at hl 2 rfl) ?_
                      exact k_ri B hP hD hS dX7_rivals_193 () [5, 0, 6, 7, 8, 1, 2, 9, 3, 4] rfl rfl rfl (Nat.le_of_ble_eq_true rfl) (Nat.le_of_ble_eq_true rfl) rfl
                    · have c_23 : p2.toInt = (-1) := k_eqT rfl (by decide +kernel) c_23
                      exfalso; omega
                  · have c_22 : 2 ≤ p2.toInt := k_ltF rfl (by decide +kernel) c_22
                    exfalso; omega
                · have c_21 : p2.toInt = (-1) := k_eqT rfl (by decide +kernel) c_21
                  exfalso; omega
          · have c_14 : p2.toInt = (-1) := k_eqT rfl (by decide +kernel) c_14
            exfalso; omega
    · have c_7 : p2.toInt = (-1) := k_eqT rfl (by decide +kernel) c_7
      exfalso; omega
