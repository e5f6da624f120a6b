set_option maxHeartbeats 4000000 in
set_option maxRecDepth 100000 in
theorem c_X7_put_v1 (l : Launch) (dC : Nat → ClassId) (dI : Nat → Nat → Nat) (cI cJ cZ cM : ClassId) (p0 : Nat) (p1 : Int32) (p2 : Nat → Nat) (p3 : Int32) (p4 : Int32) (p5 : Int32) (p6 : Int32)   : k_Mv l yX7_put wsX7_put ({ frames := 1, cells := 0, slots := 0, locals := 40 }) (dC, dI) vwCl (tyy cI cJ cZ cM) [(p0, .inr (7, oM p2 (upd i7 1 4) j7)), ((p2 0), .inl (cI, 1800, .inl (upd (upd (upd (upd (fun _ => 0) 0 p3) 1 p4) 2 p5) 3 p6)))] [.ref p0, .int p1] 0 0 (fun (u9 : Unit) => [(p0, .inr (7, oM p2 (upd i7 1 8) j7)), ((p2 0), .inl (cI, 1800, .inl (upd (upd (upd (upd (upd (upd (upd (upd (fun _ => 0) 0 p3) 1 p4) 2 p5) 3 p6) 4 ((p1 >>> (24 &&& 31)) &&& 255)) 5 ((p1 >>> (16 &&& 31)) &&& 255)) 6 ((p1 >>> (8 &&& 31)) &&& 255)) 7 ((p1 >>> (0 &&& 31)) &&& 255))))]) (fun (u9 : Unit) => True) := by
  refine fun sz => k_enter (cc := cX7_put) (maxL := 3) (ret := none) (Qc := fun A => va_Qv (fun (u9 : Unit) => True) (fun u => k_B (dC, dI) vwCl (tyy cI cJ cZ cM) A ((fun (u9 : Unit) => [(p0, .inr (7, oM p2 (upd i7 1 8) j7)), ((p2 0), .inl (cI, 1800, .inl (upd (upd (upd (upd (upd (upd (upd (upd (fun _ => 0) 0 p3) 1 p4) 2 p5) 3 p6) 4 ((p1 >>> (24 &&& 31)) &&& 255)) 5 ((p1 >>> (16 &&& 31)) &&& 255)) 6 ((p1 >>> (8 &&& 31)) &&& 255)) 7 ((p1 >>> (0 &&& 31)) &&& 255))))]) u)) A) sz (by decide +kernel) rfl (Nat.le_of_ble_eq_true rfl) (fun p e s m args below meth c A ls H locs B hP hD hS hl => ?_)
  obtain ⟨hx, hb, hml, hown, hts, hr, hlk, hnm, hK, hA, hN, hC⟩ := id B
  have hown : s.vm.findClass RX7 = some m.cls := hown
  have hl : lv_has ls 3 [(0, .ref p0), (1, .int p1)] := hl
  have w_0 : (Cond.fieldLink RX7 7 "WishSeaModel" "tape" "[I").before args s = true := hts _ (List.mem_of_getElem? (i := 1) rfl)
  have w_1 : (Cond.fieldLink RX7 13 "WishSeaModel" "taped" "I").before args s = true := hts _ (List.mem_of_getElem? (i := 2) rfl)
  have hinX7 : ∀ w ∈ u_ws RX7 TX7 92, w ∈ wsX7_put := fun _ h => List.mem_cons_of_mem _ (List.mem_append_right _ h)
  refine lv_bipush (v := 24) hx hb dX7_put_0 (by decide +kernel) ?_
  refine lv_istore_n (lv' := [(2, .int 24), (0, .ref p0), (1, .int p1)]) hx hb dX7_put_2 rfl hl (by decide) rfl (fun ls hl => ?_)
  refine lv_iload_n hx hb dX7_put_3 rfl (lv_at hl 0 rfl) ?_
  refine lv_if_lt (tgt := 39) hx hb dX7_put_4 (by decide) (fun q9 => absurd q9 (by decide +kernel)) (fun _ => ?_)
  refine lv_aload_n hx hb dX7_put_7 rfl (lv_at hl 1 rfl) ?_
  refine k_get (D := (dC, dI)) (ci := 7) (v := .ref (p2 0)) (C := RX7) (T := TX7) (N := 92) hx hb hts hinX7 hown hK hP 0 rfl rfl 0 (by decide) w_0 rfl rfl dX7_put_8 ?_
  refine lv_aload_n hx hb dX7_put_11 rfl (lv_at hl 1 rfl) ?_
  refine k_get (D := (dC, dI)) (ci := 7) (v := .int 4) (C := RX7) (T := TX7) (N := 92) hx hb hts hinX7 hown hK hP 0 rfl rfl 1 (by decide) w_1 rfl rfl dX7_put_12 ?_
  refine lv_iload_n hx hb dX7_put_15 rfl (lv_at hl 2 rfl) ?_
  refine lv_iload_n hx hb dX7_put_16 rfl (lv_at hl 0 rfl) ?_
  refine lv_ishr hx hb dX7_put_17 ?_
  refine lv_sipush (v := 255) hx hb dX7_put_18 (by decide +kernel) ?_
  refine lv_iand hx hb dX7_put_21 ?_
  refine lv_topi (fun y_1 ey_1 => ?_)
  refine k_iast (g := (upd (upd (upd (upd (upd (fun _ => 0) 0 p3) 1 p4) 2 p5) 3 p6) 4 y_1)) (ws' := [(p0, .inr (7, oM p2 (upd i7 1 4) j7)), ((p2 0), .inl (cI, 1800, .inl (upd (upd (upd (upd (upd (fun _ => 0) 0 p3) 1 p4) 2 p5) 3 p6) 4 y_1)))]) hx hb hK hP hD hS 1 0 4 rfl rfl rfl (Nat.le_of_ble_eq_true rfl) (Nat.le_of_ble_eq_true rfl) rfl rfl dX7_put_22 (fun H locs hP hD hS => ?_)
  refine lv_aload_n hx hb dX7_put_23 rfl (lv_at hl 1 rfl) ?_
  refine lv_dup hx hb dX7_put_24 rfl ?_
  refine k_get (D := (dC, dI)) (ci := 7) (v := .int 4) (C := RX7) (T := TX7) (N := 92) hx hb hts hinX7 hown hK hP 0 rfl rfl 1 (by decide) w_1 rfl rfl dX7_put_25 ?_
  refine lv_iconst (v := 1) hx hb dX7_put_28 (by decide +kernel) ?_
  refine lv_iadd hx hb dX7_put_29 ?_
  refine k_int (v := 5) (by decide +kernel) ?_
  refine k_put (D := (dC, dI)) (ci := 7) (v := .int 5) (C := RX7) (T := TX7) (N := 92) (ws' := [(p0, .inr (7, oM p2 (upd i7 1 5) j7)), ((p2 0), .inl (cI, 1800, .inl (upd (upd (upd (upd (upd (fun _ => 0) 0 p3) 1 p4) 2 p5) 3 p6) 4 y_1)))]) hx hb hts hinX7 tyX7 tyX7_ok nmX7 hown hK hP hD hS 0 rfl rfl 1 (by decide) w_1 rfl rfl rfl rfl (Nat.le_of_ble_eq_true rfl) rfl dX7_put_30 (fun H locs hP hD hS => ?_)
  refine lv_iinc (v := 16) (lv' := [(2, .int 16), (0, .ref p0), (1, .int p1)]) hx hb dX7_put_33 hl (k := 0) rfl (by decide +kernel) (by decide) rfl (fun ls hl => ?_)
  refine lv_goto (tgt := 3) hx hb dX7_put_36 (by decide) ?_
  refine lv_iload_n hx hb dX7_put_3 rfl (lv_at hl 0 rfl) ?_
  refine lv_if_lt (tgt := 39) hx hb dX7_put_4 (by decide) (fun q9 => absurd q9 (by decide +kernel)) (fun _ => ?_)
  refine lv_aload_n hx hb dX7_put_7 rfl (lv_at hl 1 rfl) ?_
  refine k_get (D := (dC, dI)) (ci := 7) (v := .ref (p2 0)) (C := RX7) (T := TX7) (N := 92) hx hb hts hinX7 hown hK hP 0 rfl rfl 0 (by decide) w_0 rfl rfl dX7_put_8 ?_
  refine lv_aload_n hx hb dX7_put_11 rfl (lv_at hl 1 rfl) ?_
  refine k_get (D := (dC, dI)) (ci := 7) (v := .int 5) (C := RX7) (T := TX7) (N := 92) hx hb hts hinX7 hown hK hP 0 rfl rfl 1 (by decide) w_1 rfl rfl dX7_put_12 ?_
  refine lv_iload_n hx hb dX7_put_15 rfl (lv_at hl 2 rfl) ?_
  refine lv_iload_n hx hb dX7_put_16 rfl (lv_at hl 0 rfl) ?_
  refine lv_ishr hx hb dX7_put_17 ?_
  refine lv_sipush (v := 255) hx hb dX7_put_18 (by decide +kernel) ?_
  refine lv_iand hx hb dX7_put_21 ?_
  refine lv_topi (fun y_2 ey_2 => ?_)
  refine k_iast (g := (upd (upd (upd (upd (upd (upd (fun _ => 0) 0 p3) 1 p4) 2 p5) 3 p6) 4 y_1) 5 y_2)) (ws' := [(p0, .inr (7, oM p2 (upd i7 1 5) j7)), ((p2 0), .inl (cI, 1800, .inl (upd (upd (upd (upd (upd (upd (fun _ => 0) 0 p3) 1 p4) 2 p5) 3 p6) 4 y_1) 5 y_2)))]) hx hb hK hP hD hS 1 0 5 rfl rfl rfl (Nat.le_of_ble_eq_true rfl) (Nat.le_of_ble_eq_true rfl) rfl rfl dX7_put_22 (fun H locs hP hD hS => ?_)
  refine lv_aload_n hx hb dX7_put_23 rfl (lv_at hl 1 rfl) ?_
  refine lv_dup hx hb dX7_put_24 rfl ?_
  refine k_get (D := (dC, dI)) (ci := 7) (v := .int 5) (C := RX7) (T := TX7) (N := 92) hx hb hts hinX7 hown hK hP 0 rfl rfl 1 (by decide) w_1 rfl rfl dX7_put_25 ?_
  refine lv_iconst (v := 1) hx hb dX7_put_28 (by decide +kernel) ?_
  refine lv_iadd hx hb dX7_put_29 ?_
  refine k_int (v := 6) (by decide +kernel) ?_
  refine k_put (D := (dC, dI)) (ci := 7) (v := .int 6) (C := RX7) (T := TX7) (N := 92) (ws' := [(p0, .inr (7, oM p2 (upd i7 1 6) j7)), ((p2 0), .inl (cI, 1800, .inl (upd (upd (upd (upd (upd (upd (fun _ => 0) 0 p3) 1 p4) 2 p5) 3 p6) 4 y_1) 5 y_2)))]) hx hb hts hinX7 tyX7 tyX7_ok nmX7 hown hK hP hD hS 0 rfl rfl 1 (by decide) w_1 rfl rfl rfl rfl (Nat.le_of_ble_eq_true rfl) rfl dX7_put_30 (fun H locs hP hD hS => ?_)
  refine lv_iinc (v := 8) (lv' := [(2, .int 8), (0, .ref p0), (1, .int p1)]) hx hb dX7_put_33 hl (k := 0) rfl (by decide +kernel) (by decide) rfl (fun ls hl => ?_)
  refine lv_goto (tgt := 3) hx hb dX7_put_36 (by decide) ?_
  refine lv_iload_n hx hb dX7_put_3 rfl (lv_at hl 0 rfl) ?_
  refine lv_if_lt (tgt := 39) hx hb dX7_put_4 (by decide) (fun q9 => absurd q9 (by decide +kernel)) (fun _ => ?_)
  refine lv_aload_n hx hb dX7_put_7 rfl (lv_at hl 1 rfl) ?_
  refine k_get (D := (dC, dI)) (ci := 7) (v := .ref (p2 0)) (C := RX7) (T := TX7) (N := 92) hx hb hts hinX7 hown hK hP 0 rfl rfl 0 (by decide) w_0 rfl rfl dX7_put_8 ?_
  refine lv_aload_n hx hb dX7_put_11 rfl (lv_at hl 1 rfl) ?_
  refine k_get (D := (dC, dI)) (ci := 7) (v := .int 6) (C := RX7) (T := TX7) (N := 92) hx hb hts hinX7 hown hK hP 0 rfl rfl 1 (by decide) w_1 rfl rfl dX7_put_12 ?_
  refine lv_iload_n hx hb dX7_put_15 rfl (lv_at hl 2 rfl) ?_
  refine lv_iload_n hx hb dX7_put_16 rfl (lv_at hl 0 rfl) ?_
  refine lv_ishr hx hb dX7_put_17 ?_
  refine lv_sipush (v := 255) hx hb dX7_put_18 (by decide +kernel) ?_
  refine lv_iand hx hb dX7_put_21 ?_
  refine lv_topi (fun y_3 ey_3 => ?_)
  refine k_iast (g := (upd (upd (upd (upd (upd (upd (upd (fun _ => 0) 0 p3) 1 p4) 2 p5) 3 p6) 4 y_1) 5 y_2) 6 y_3)) (ws' := [(p0, .inr (7, oM p2 (upd i7 1 6) j7)), ((p2 0), .inl (cI, 1800, .inl (upd (upd (upd (upd (upd (upd (upd (fun _ => 0) 0 p3) 1 p4) 2 p5) 3 p6) 4 y_1) 5 y_2) 6 y_3)))]) hx hb hK hP hD hS 1 0 6 rfl rfl rfl (Nat.le_of_ble_eq_true rfl) (Nat.le_of_ble_eq_true rfl) rfl rfl dX7_put_22 (fun H locs hP hD hS => ?_)
  refine lv_aload_n hx hb dX7_put_23 rfl (lv_at hl 1 rfl) ?_
  refine lv_dup hx hb dX7_put_24 rfl ?_
  refine k_get (D := (dC, dI)) (ci := 7) (v := .int 6) (C := RX7) (T := TX7) (N := 92) hx hb hts hinX7 hown hK hP 0 rfl rfl 1 (by decide) w_1 rfl rfl dX7_put_25 ?_
  refine lv_iconst (v := 1) hx hb dX7_put_28 (by decide +kernel) ?_
  refine lv_iadd hx hb dX7_put_29 ?_
  refine k_int (v := 7) (by decide +kernel) ?_
  refine k_put (D := (dC, dI)) (ci := 7) (v := .int 7) (C := RX7) (T := TX7) (N := 92) (ws' := [(p0, .inr (7, oM p2 (upd i7 1 7) j7)), ((p2 0), .inl (cI, 1800, .inl (upd (upd (upd (upd (upd (upd (upd (fun _ => 0) 0 p3) 1 p4) 2 p5) 3 p6) 4 y_1) 5 y_2) 6 y_3)))]) hx hb hts hinX7 tyX7 tyX7_ok nmX7 hown hK hP hD hS 0 rfl rfl 1 (by decide) w_1 rfl rfl rfl rfl (Nat.le_of_ble_eq_true rfl) rfl dX7_put_30 (fun H locs hP hD hS => ?_)
  refine lv_iinc (v := 0) (lv' := [(2, .int 0), (0, .ref p0), (1, .int p1)]) hx hb dX7_put_33 hl (k := 0) rfl (by decide +kernel) (by decide) rfl (fun ls hl => ?_)
  refine lv_goto (tgt := 3) hx hb dX7_put_36 (by decide) ?_
  refine lv_iload_n hx hb dX7_put_3 rfl (lv_at hl 0 rfl) ?_
  refine lv_if_lt (tgt := 39) hx hb dX7_put_4 (by decide) (fun q9 => absurd q9 (by decide +kernel)) (fun _ => ?_)
  refine lv_aload_n hx hb dX7_put_7 rfl (lv_at hl 1 rfl) ?_
  refine k_get (D := (dC, dI)) (ci := 7) (v := .ref (p2 0)) (C := RX7) (T := TX7) (N := 92) hx hb hts hinX7 hown hK hP 0 rfl rfl 0 (by decide) w_0 rfl rfl dX7_put_8 ?_
  refine lv_aload_n hx hb dX7_put_11 rfl (lv_at hl 1 rfl) ?_
  refine k_get (D := (dC, dI)) (ci := 7) (v := .int 7) (C := RX7) (T := TX7) (N := 92) hx hb hts hinX7 hown hK hP 0 rfl rfl 1 (by decide) w_1 rfl rfl dX7_put_12 ?_
  refine lv_iload_n hx hb dX7_put_15 rfl (lv_at hl 2 rfl) ?_
  refine lv_iload_n hx hb dX7_put_16 rfl (lv_at hl 0 rfl) ?_
  refine lv_ishr hx hb dX7_put_17 ?_
  refine lv_sipush (v := 255) hx hb dX7_put_18 (by decide +kernel) ?_
  refine lv_iand hx hb dX7_put_21 ?_
  refine lv_topi (fun y_4 ey_4 => ?_)
  refine k_iast (g := (upd (upd (upd (upd (upd (upd (upd (upd (fun _ => 0) 0 p3) 1 p4) 2 p5) 3 p6) 4 y_1) 5 y_2) 6 y_3) 7 y_4)) (ws' := [(p0, .inr (7, oM p2 (upd i7 1 7) j7)), ((p2 0), .inl (cI, 1800, .inl (upd (upd (upd (upd (upd (upd (upd (upd (fun _ => 0) 0 p3) 1 p4) 2 p5) 3 p6) 4 y_1) 5 y_2) 6 y_3) 7 y_4)))]) hx hb hK hP hD hS 1 0 7 rfl rfl rfl (Nat.le_of_ble_eq_true rfl) (Nat.le_of_ble_eq_true rfl) rfl rfl dX7_put_22 (fun H locs hP hD hS => ?_)
  refine lv_aload_n hx hb dX7_put_23 rfl (lv_at hl 1 rfl) ?_
  refine lv_dup hx hb dX7_put_24 rfl ?_
  refine k_get (D := (dC, dI)) (ci := 7) (v := .int 7) (C := RX7) (T := TX7) (N := 92) hx hb hts hinX7 hown hK hP 0 rfl rfl 1 (by decide) w_1 rfl rfl dX7_put_25 ?_
  refine lv_iconst (v := 1) hx hb dX7_put_28 (by decide +kernel) ?_
  refine lv_iadd hx hb dX7_put_29 ?_
  refine k_int (v := 8) (by decide +kernel) ?_
  refine k_put (D := (dC, dI)) (ci := 7) (v := .int 8) (C := RX7) (T := TX7) (N := 92) (ws' := [(p0, .inr (7, oM p2 (upd i7 1 8) j7)), ((p2 0), .inl (cI, 1800, .inl (upd (upd (upd (upd (upd (upd (upd (upd (fun _ => 0) 0 p3) 1 p4) 2 p5) 3 p6) 4 y_1) 5 y_2) 6 y_3) 7 y_4)))]) hx hb hts hinX7 tyX7 tyX7_ok nmX7 hown hK hP hD hS 0 rfl rfl 1 (by decide) w_1 rfl rfl rfl rfl (Nat.le_of_ble_eq_true rfl) rfl dX7_put_30 (fun H locs hP hD hS => ?_)
  refine lv_iinc (v := (-8)) (lv' := [(2, .int (-8)), (0, .ref p0), (1, .int p1)]) hx hb dX7_put_33 hl (k := 0) rfl (by decide +kernel) (by decide) rfl (fun ls hl => ?_)
  refine lv_goto (tgt := 3) hx hb dX7_put_36 (by decide) ?_
  refine lv_iload_n hx hb dX7_put_3 rfl (lv_at hl 0 rfl) ?_
  refine lv_if_lt (tgt := 39) hx hb dX7_put_4 (by decide) (fun _ => ?_) (fun q9 => absurd q9 (by decide +kernel))
  subst ey_4
  subst ey_3
  subst ey_2
  subst ey_1
  exact k_rv B hP hD hS dX7_put_39 () [0, 1] rfl rfl (Nat.le_of_ble_eq_true rfl) (Nat.le_of_ble_eq_true rfl) trivial
set_option maxHeartbeats 4000000 in
set_option maxRecDepth 100000 in
theorem c_X7_put_v2 (l : Launch) (dC : Nat → ClassId) (dI : Nat → Nat → Nat) (cI cJ cZ cM : ClassId) (p0 : Nat) (p1 : Int32) (p2 : Nat → Nat) (p3 : Int32) (p4 : Int32) (p5 : Int32) (p6 : Int32) (p7 : Int32) (p8 : Int32) (p9 : Int32) (p10 : Int32)   : k_Mv l yX7_put wsX7_put ({ frames := 1, cells := 0, slots := 0, locals := 40 }) (dC, dI) vwCl (tyy cI cJ cZ cM) [(p0, .inr (7, oM p2 (upd i7 1 8) j7)), ((p2 0), .inl (cI, 1800, .inl (upd (upd (upd (upd (upd (upd (upd (upd (fun _ => 0) 0 p3) 1 p4) 2 p5) 3 p6) 4 p7) 5 p8) 6 p9) 7 p10)))] [.ref p0, .int p1] 0 0 (fun (u9 : Unit) => [(p0, .inr (7, oM p2 (upd i7 1 12) j7)), ((p2 0), .inl (cI, 1800, .inl (upd (upd (upd (upd (upd (upd (upd (upd (upd (upd (upd (upd (fun _ => 0) 0 p3) 1 p4) 2 p5) 3 p6) 4 p7) 5 p8) 6 p9) 7 p10) 8 ((p1 >>> (24 &&& 31)) &&& 255)) 9 ((p1 >>> (16 &&& 31)) &&& 255)) 10 ((p1 >>> (8 &&& 31)) &&& 255)) 11 ((p1 >>> (0 &&& 31)) &&& 255))))]) (fun (u9 : Unit) => True) := by
  refine fun sz => k_enter (cc := cX7_put) (maxL := 3) (ret := none) (Qc := fun A => va_Qv (fun (u9 : Unit) => True) (fun u => k_B (dC, dI) vwCl (tyy cI cJ cZ cM) A ((fun (u9 : Unit) => [(p0, .inr (7, oM p2 (upd i7 1 12) j7)), ((p2 0), .inl (cI, 1800, .inl (upd (upd (upd (upd (upd (upd (upd (upd (upd (upd (upd (upd (fun _ => 0) 0 p3) 1 p4) 2 p5) 3 p6) 4 p7) 5 p8) 6 p9) 7 p10) 8 ((p1 >>> (24 &&& 31)) &&& 255)) 9 ((p1 >>> (16 &&& 31)) &&& 255)) 10 ((p1 >>> (8 &&& 31)) &&& 255)) 11 ((p1 >>> (0 &&& 31)) &&& 255))))]) u)) A) sz (by decide +kernel) rfl (Nat.le_of_ble_eq_true rfl) (fun p e s m args below meth c A ls H locs B hP hD hS hl => ?_)
  obtain ⟨hx, hb, hml, hown, hts, hr, hlk, hnm, hK, hA, hN, hC⟩ := id B
  have hown : s.vm.findClass RX7 = some m.cls := hown
  have hl : lv_has ls 3 [(0, .ref p0), (1, .int p1)] := hl
  have w_0 : (Cond.fieldLink RX7 7 "WishSeaModel" "tape" "[I").before args s = true := hts _ (List.mem_of_getElem? (i := 1) rfl)
  have w_1 : (Cond.fieldLink RX7 13 "WishSeaModel" "taped" "I").before args s = true := hts _ (List.mem_of_getElem? (i := 2) rfl)
  have hinX7 : ∀ w ∈ u_ws RX7 TX7 92, w ∈ wsX7_put := fun _ h => List.mem_cons_of_mem _ (List.mem_append_right _ h)
  refine lv_bipush (v := 24) hx hb dX7_put_0 (by decide +kernel) ?_
  refine lv_istore_n (lv' := [(2, .int 24), (0, .ref p0), (1, .int p1)]) hx hb dX7_put_2 rfl hl (by decide) rfl (fun ls hl => ?_)
  refine lv_iload_n hx hb dX7_put_3 rfl (lv_at hl 0 rfl) ?_
  refine lv_if_lt (tgt := 39) hx hb dX7_put_4 (by decide) (fun q9 => absurd q9 (by decide +kernel)) (fun _ => ?_)
  refine lv_aload_n hx hb dX7_put_7 rfl (lv_at hl 1 rfl) ?_
  refine k_get (D := (dC, dI)) (ci := 7) (v := .ref (p2 0)) (C := RX7) (T := TX7) (N := 92) hx hb hts hinX7 hown hK hP 0 rfl rfl 0 (by decide) w_0 rfl rfl dX7_put_8 ?_
  refine lv_aload_n hx hb dX7_put_11 rfl (lv_at hl 1 rfl) ?_
  refine k_get (D := (dC, dI)) (ci := 7) (v := .int 8) (C := RX7) (T := TX7) (N := 92) hx hb hts hinX7 hown hK hP 0 rfl rfl 1 (by decide) w_1 rfl rfl dX7_put_12 ?_
  refine lv_iload_n hx hb dX7_put_15 rfl (lv_at hl 2 rfl) ?_
  refine lv_iload_n hx hb dX7_put_16 rfl (lv_at hl 0 rfl) ?_
  refine lv_ishr hx hb dX7_put_17 ?_
  refine lv_sipush (v := 255) hx hb dX7_put_18 (by decide +kernel) ?_
  refine lv_iand hx hb dX7_put_21 ?_
  refine lv_topi (fun y_1 ey_1 => ?_)
  refine k_iast (g := (upd (upd (upd (upd (upd (upd (upd (upd (upd (fun _ => 0) 0 p3) 1 p4) 2 p5) 3 p6) 4 p7) 5 p8) 6 p9) 7 p10) 8 y_1)) (ws' := [(p0, .inr (7, oM p2 (upd i7 1 8) j7)), ((p2 0), .inl (cI, 1800, .inl (upd (upd (upd (upd (upd (upd (upd (upd (upd (fun _ => 0) 0 p3) 1 p4) 2 p5) 3 p6) 4 p7) 5 p8) 6 p9) 7 p10) 8 y_1)))]) hx hb hK hP hD hS 1 0 8 rfl rfl rfl (Nat.le_of_ble_eq_true rfl) (Nat.le_of_ble_eq_true rfl) rfl rfl dX7_put_22 (fun H locs hP hD hS => ?_)
  refine lv_aload_n hx hb dX7_put_23 rfl (lv_at hl 1 rfl) ?_
  refine lv_dup hx hb dX7_put_24 rfl ?_
  refine k_get (D := (dC, dI)) (ci := 7) (v := .int 8) (C := RX7) (T := TX7) (N := 92) hx hb hts hinX7 hown hK hP 0 rfl rfl 1 (by decide) w_1 rfl rfl dX7_put_25 ?_
  refine lv_iconst (v := 1) hx hb dX7_put_28 (by decide +kernel) ?_
  refine lv_iadd hx hb dX7_put_29 ?_
  refine k_int (v := 9) (by decide +kernel) ?_
  refine k_put (D := (dC, dI)) (ci := 7) (v := .int 9) (C := RX7) (T := TX7) (N := 92) (ws' := [(p0, .inr (7, oM p2 (upd i7 1 9) j7)), ((p2 0), .inl (cI, 1800, .inl (upd (upd (upd (upd (upd (upd (upd (upd (upd (fun _ => 0) 0 p3) 1 p4) 2 p5) 3 p6) 4 p7) 5 p8) 6 p9) 7 p10) 8 y_1)))]) hx hb hts hinX7 tyX7 tyX7_ok nmX7 hown hK hP hD hS 0 rfl rfl 1 (by decide) w_1 rfl rfl rfl rfl (Nat.le_of_ble_eq_true rfl) rfl dX7_put_30 (fun H locs hP hD hS => ?_)
  refine lv_iinc (v := 16) (lv' := [(2, .int 16), (0, .ref p0), (1, .int p1)]) hx hb dX7_put_33 hl (k := 0) rfl (by decide +kernel) (by decide) rfl (fun ls hl => ?_)
  refine lv_goto (tgt := 3) hx hb dX7_put_36 (by decide) ?_
  refine lv_iload_n hx hb dX7_put_3 rfl (lv_at hl 0 rfl) ?_
  refine lv_if_lt (tgt := 39) hx hb dX7_put_4 (by decide) (fun q9 => absurd q9 (by decide +kernel)) (fun _ => ?_)
  refine lv_aload_n hx hb dX7_put_7 rfl (lv_at hl 1 rfl) ?_
  refine k_get (D := (dC, dI)) (ci := 7) (v := .ref (p2 0)) (C := RX7) (T := TX7) (N := 92) hx hb hts hinX7 hown hK hP 0 rfl rfl 0 (by decide) w_0 rfl rfl dX7_put_8 ?_
  refine lv_aload_n hx hb dX7_put_11 rfl (lv_at hl 1 rfl) ?_
  refine k_get (D := (dC, dI)) (ci := 7) (v := .int 9) (C := RX7) (T := TX7) (N := 92) hx hb hts hinX7 hown hK hP 0 rfl rfl 1 (by decide) w_1 rfl rfl dX7_put_12 ?_
  refine lv_iload_n hx hb dX7_put_15 rfl (lv_at hl 2 rfl) ?_
  refine lv_iload_n hx hb dX7_put_16 rfl (lv_at hl 0 rfl) ?_
  refine lv_ishr hx hb dX7_put_17 ?_
  refine lv_sipush (v := 255) hx hb dX7_put_18 (by decide +kernel) ?_
  refine lv_iand hx hb dX7_put_21 ?_
  refine lv_topi (fun y_2 ey_2 => ?_)
  refine k_iast (g := (upd (upd (upd (upd (upd (upd (upd (upd (upd (upd (fun _ => 0) 0 p3) 1 p4) 2 p5) 3 p6) 4 p7) 5 p8) 6 p9) 7 p10) 8 y_1) 9 y_2)) (ws' := [(p0, .inr (7, oM p2 (upd i7 1 9) j7)), ((p2 0), .inl (cI, 1800, .inl (upd (upd (upd (upd (upd (upd (upd (upd (upd (upd (fun _ => 0) 0 p3) 1 p4) 2 p5) 3 p6) 4 p7) 5 p8) 6 p9) 7 p10) 8 y_1) 9 y_2)))]) hx hb hK hP hD hS 1 0 9 rfl rfl rfl (Nat.le_of_ble_eq_true rfl) (Nat.le_of_ble_eq_true rfl) rfl rfl dX7_put_22 (fun H locs hP hD hS => ?_)
  refine lv_aload_n hx hb dX7_put_23 rfl (lv_at hl 1 rfl) ?_
  refine lv_dup hx hb dX7_put_24 rfl ?_
  refine k_get (D := (dC, dI)) (ci := 7) (v := .int 9) (C := RX7) (T := TX7) (N := 92) hx hb hts hinX7 hown hK hP 0 rfl rfl 1 (by decide) w_1 rfl rfl dX7_put_25 ?_
  refine lv_iconst (v := 1) hx hb dX7_put_28 (by decide +kernel) ?_
  refine lv_iadd hx hb dX7_put_29 ?_
  refine k_int (v := 10) (by decide +kernel) ?_
  refine k_put (D := (dC, dI)) (ci := 7) (v := .int 10) (C := RX7) (T := TX7) (N := 92) (ws' := [(p0, .inr (7, oM p2 (upd i7 1 10) j7)), ((p2 0), .inl (cI, 1800, .inl (upd (upd (upd (upd (upd (upd (upd (upd (upd (upd (fun _ => 0) 0 p3) 1 p4) 2 p5) 3 p6) 4 p7) 5 p8) 6 p9) 7 p10) 8 y_1) 9 y_2)))]) hx hb hts hinX7 tyX7 tyX7_ok nmX7 hown hK hP hD hS 0 rfl rfl 1 (by decide) w_1 rfl rfl rfl rfl (Nat.le_of_ble_eq_true rfl) rfl dX7_put_30 (fun H locs hP hD hS => ?_)
  refine lv_iinc (v := 8) (lv' := [(2, .int 8), (0, .ref p0), (1, .int p1)]) hx hb dX7_put_33 hl (k := 0) rfl (by decide +kernel) (by decide) rfl (fun ls hl => ?_)
  refine lv_goto (tgt := 3) hx hb dX7_put_36 (by decide) ?_
  refine lv_iload_n hx hb dX7_put_3 rfl (lv_at hl 0 rfl) ?_
  refine lv_if_lt (tgt := 39) hx hb dX7_put_4 (by decide) (fun q9 => absurd q9 (by decide +kernel)) (fun _ => ?_)
  refine lv_aload_n hx hb dX7_put_7 rfl (lv_at hl 1 rfl) ?_
  refine k_get (D := (dC, dI)) (ci := 7) (v := .ref (p2 0)) (C := RX7) (T := TX7) (N := 92) hx hb hts hinX7 hown hK hP 0 rfl rfl 0 (by decide) w_0 rfl rfl dX7_put_8 ?_
  refine lv_aload_n hx hb dX7_put_11 rfl (lv_at hl 1 rfl) ?_
  refine k_get (D := (dC, dI)) (ci := 7) (v := .int 10) (C := RX7) (T := TX7) (N := 92) hx hb hts hinX7 hown hK hP 0 rfl rfl 1 (by decide) w_1 rfl rfl dX7_put_12 ?_
  refine lv_iload_n hx hb dX7_put_15 rfl (lv_at hl 2 rfl) ?_
  refine lv_iload_n hx hb dX7_put_16 rfl (lv_at hl 0 rfl) ?_
  refine lv_ishr hx hb dX7_put_17 ?_
  refine lv_sipush (v := 255) hx hb dX7_put_18 (by decide +kernel) ?_
  refine lv_iand hx hb dX7_put_21 ?_
  refine lv_topi (fun y_3 ey_3 => ?_)
  refine k_iast (g := (upd (upd (upd (upd (upd (upd (upd (upd (upd (upd (upd (fun _ => 0) 0 p3) 1 p4) 2 p5) 3 p6) 4 p7) 5 p8) 6 p9) 7 p10) 8 y_1) 9 y_2) 10 y_3)) (ws' := [(p0, .inr (7, oM p2 (upd i7 1 10) j7)), ((p2 0), .inl (cI, 1800, .inl (upd (upd (upd (upd (upd (upd (upd (upd (upd (upd (upd (fun _ => 0) 0 p3) 1 p4) 2 p5) 3 p6) 4 p7) 5 p8) 6 p9) 7 p10) 8 y_1) 9 y_2) 10 y_3)))]) hx hb hK hP hD hS 1 0 10 rfl rfl rfl (Nat.le_of_ble_eq_true rfl) (Nat.le_of_ble_eq_true rfl) rfl rfl dX7_put_22 (fun H locs hP hD hS => ?_)
  refine lv_aload_n hx hb dX7_put_23 rfl (lv_at hl 1 rfl) ?_
  refine lv_dup hx hb dX7_put_24 rfl ?_
  refine k_get (D := (dC, dI)) (ci := 7) (v := .int 10) (C := RX7) (T := TX7) (N := 92) hx hb hts hinX7 hown hK hP 0 rfl rfl 1 (by decide) w_1 rfl rfl dX7_put_25 ?_
  refine lv_iconst (v := 1) hx hb dX7_put_28 (by decide +kernel) ?_
  refine lv_iadd hx hb dX7_put_29 ?_
  refine k_int (v := 11) (by decide +kernel) ?_
  refine k_put (D := (dC, dI)) (ci := 7) (v := .int 11) (C := RX7) (T := TX7) (N := 92) (ws' := [(p0, .inr (7, oM p2 (upd i7 1 11) j7)), ((p2 0), .inl (cI, 1800, .inl (upd (upd (upd (upd (upd (upd (upd (upd (upd (upd (upd (fun _ => 0) 0 p3) 1 p4) 2 p5) 3 p6) 4 p7) 5 p8) 6 p9) 7 p10) 8 y_1) 9 y_2) 10 y_3)))]) hx hb hts hinX7 tyX7 tyX7_ok nmX7 hown hK hP hD hS 0 rfl rfl 1 (by decide) w_1 rfl rfl rfl rfl (Nat.le_of_ble_eq_true rfl) rfl dX7_put_30 (fun H locs hP hD hS => ?_)
  refine lv_iinc (v := 0) (lv' := [(2, .int 0), (0, .ref p0), (1, .int p1)]) hx hb dX7_put_33 hl (k := 0) rfl (by decide +kernel) (by decide) rfl (fun ls hl => ?_)
  refine lv_goto (tgt := 3) hx hb dX7_put_36 (by decide) ?_
  refine lv_iload_n hx hb dX7_put_3 rfl (lv_at hl 0 rfl) ?_
  refine lv_if_lt (tgt := 39) hx hb dX7_put_4 (by decide) (fun q9 => absurd q9 (by decide +kernel)) (fun _ => ?_)
  refine lv_aload_n hx hb dX7_put_7 rfl (lv_at hl 1 rfl) ?_
  refine k_get (D := (dC, dI)) (ci := 7) (v := .ref (p2 0)) (C := RX7) (T := TX7) (N := 92) hx hb hts hinX7 hown hK hP 0 rfl rfl 0 (by decide) w_0 rfl rfl dX7_put_8 ?_
  refine lv_aload_n hx hb dX7_put_11 rfl (lv_at hl 1 rfl) ?_
  refine k_get (D := (dC, dI)) (ci := 7) (v := .int 11) (C := RX7) (T := TX7) (N := 92) hx hb hts hinX7 hown hK hP 0 rfl rfl 1 (by decide) w_1 rfl rfl dX7_put_12 ?_
  refine lv_iload_n hx hb dX7_put_15 rfl (lv_at hl 2 rfl) ?_
  refine lv_iload_n hx hb dX7_put_16 rfl (lv_at hl 0 rfl) ?_
  refine lv_ishr hx hb dX7_put_17 ?_
  refine lv_sipush (v := 255) hx hb dX7_put_18 (by decide +kernel) ?_
  refine lv_iand hx hb dX7_put_21 ?_
  refine lv_topi (fun y_4 ey_4 => ?_)
  refine k_iast (g := (upd (upd (upd (upd (upd (upd (upd (upd (upd (upd (upd (upd (fun _ => 0) 0 p3) 1 p4) 2 p5) 3 p6) 4 p7) 5 p8) 6 p9) 7 p10) 8 y_1) 9 y_2) 10 y_3) 11 y_4)) (ws' := [(p0, .inr (7, oM p2 (upd i7 1 11) j7)), ((p2 0), .inl (cI, 1800, .inl (upd (upd (upd (upd (upd (upd (upd (upd (upd (upd (upd (upd (fun _ => 0) 0 p3) 1 p4) 2 p5) 3 p6) 4 p7) 5 p8) 6 p9) 7 p10) 8 y_1) 9 y_2) 10 y_3) 11 y_4)))]) hx hb hK hP hD hS 1 0 11 rfl rfl rfl (Nat.le_of_ble_eq_true rfl) (Nat.le_of_ble_eq_true rfl) rfl rfl dX7_put_22 (fun H locs hP hD hS => ?_)
  refine lv_aload_n hx hb dX7_put_23 rfl (lv_at hl 1 rfl) ?_
  refine lv_dup hx hb dX7_put_24 rfl ?_
  refine k_get (D := (dC, dI)) (ci := 7) (v := .int 11) (C := RX7) (T := TX7) (N := 92) hx hb hts hinX7 hown hK hP 0 rfl rfl 1 (by decide) w_1 rfl rfl dX7_put_25 ?_
  refine lv_iconst (v := 1) hx hb dX7_put_28 (by decide +kernel) ?_
  refine lv_iadd hx hb dX7_put_29 ?_
  refine k_int (v := 12) (by decide +kernel) ?_
  refine k_put (D := (dC, dI)) (ci := 7) (v := .int 12) (C := RX7) (T := TX7) (N := 92) (ws' := [(p0, .inr (7, oM p2 (upd i7 1 12) j7)), ((p2 0), .inl (cI, 1800, .inl (upd (upd (upd (upd (upd (upd (upd (upd (upd (upd (upd (upd (fun _ => 0) 0 p3) 1 p4) 2 p5) 3 p6) 4 p7) 5 p8) 6 p9) 7 p10) 8 y_1) 9 y_2) 10 y_3) 11 y_4)))]) hx hb hts hinX7 tyX7 tyX7_ok nmX7 hown hK hP hD hS 0 rfl rfl 1 (by decide) w_1 rfl rfl rfl rfl (Nat.le_of_ble_eq_true rfl) rfl dX7_put_30 (fun H locs hP hD hS => ?_)
  refine lv_iinc (v := (-8)) (lv' := [(2, .int (-8)), (0, .ref p0), (1, .int p1)]) hx hb dX7_put_33 hl (k := 0) rfl (by decide +kernel) (by decide) rfl (fun ls hl => ?_)
  refine lv_goto (tgt := 3) hx hb dX7_put_36 (by decide) ?_
  refine lv_iload_n hx hb dX7_put_3 rfl (lv_at hl 0 rfl) ?_
  refine lv_if_lt (tgt := 39) hx hb dX7_put_4 (by decide) (fun _ => ?_) (fun q9 => absurd q9 (by decide +kernel))
  subst ey_4
  subst ey_3
  subst ey_2
  subst ey_1
  exact k_rv B hP hD hS dX7_put_39 () [0, 1] rfl rfl (Nat.le_of_ble_eq_true rfl) (Nat.le_of_ble_eq_true rfl) trivial
set_option maxHeartbeats 4000000 in
set_option maxRecDepth 100000 in
theorem c_X7_put_v3 (l : Launch) (dC : Nat → ClassId) (dI : Nat → Nat → Nat) (cI cJ cZ cM : ClassId) (p0 : Nat) (p1 : Int32) (p2 : Nat → Nat) (p3 : Int32) (p4 : Int32) (p5 : Int32) (p6 : Int32) (p7 : Int32) (p8 : Int32) (p9 : Int32) (p10 : Int32) (p11 : Int32) (p12 : Int32) (p13 : Int32) (p14 : Int32)   : k_Mv l yX7_put wsX7_put ({ frames := 1, cells := 0, slots := 0, locals := 40 }) (dC, dI) vwCl (tyy cI cJ cZ cM) [(p0, .inr (7, oM p2 (upd i7 1 12) j7)), ((p2 0), .inl (cI, 1800, .inl (upd (upd (upd (upd (upd (upd (upd (upd (upd (upd (upd (upd (fun _ => 0) 0 p3) 1 p4) 2 p5) 3 p6) 4 p7) 5 p8) 6 p9) 7 p10) 8 p11) 9 p12) 10 p13) 11 p14)))] [.ref p0, .int p1] 0 0 (fun (u9 : Unit) => [(p0, .inr (7, oM p2 (upd i7 1 16) j7)), ((p2 0), .inl (cI, 1800, .inl (upd (upd (upd (upd (upd (upd (upd (upd (upd (upd (upd (upd (upd (upd (upd (upd (fun _ => 0) 0 p3) 1 p4) 2 p5) 3 p6) 4 p7) 5 p8) 6 p9) 7 p10) 8 p11) 9 p12) 10 p13) 11 p14) 12 ((p1 >>> (24 &&& 31)) &&& 255)) 13 ((p1 >>> (16 &&& 31)) &&& 255)) 14 ((p1 >>> (8 &&& 31)) &&& 255)) 15 ((p1 >>> (0 &&& 31)) &&& 255))))]) (fun (u9 : Unit) => True) := by
  refine fun sz => k_enter (cc := cX7_put) (maxL := 3) (ret := none) (Qc := fun A => va_Qv (fun (u9 : Unit) => True) (fun u => k_B (dC, dI) vwCl (tyy cI cJ cZ cM) A ((fun (u9 : Unit) => [(p0, .inr (7, oM p2 (upd i7 1 16) j7)), ((p2 0), .inl (cI, 1800, .inl (upd (upd (upd (upd (upd (upd (upd (upd (upd (upd (upd (upd (upd (upd (upd (upd (fun _ => 0) 0 p3) 1 p4) 2 p5) 3 p6) 4 p7) 5 p8) 6 p9) 7 p10) 8 p11) 9 p12) 10 p13) 11 p14) 12 ((p1 >>> (24 &&& 31)) &&& 255)) 13 ((p1 >>> (16 &&& 31)) &&& 255)) 14 ((p1 >>> (8 &&& 31)) &&& 255)) 15 ((p1 >>> (0 &&& 31)) &&& 255))))]) u)) A) sz (by decide +kernel) rfl (Nat.le_of_ble_eq_true rfl) (fun p e s m args below meth c A ls H locs B hP hD hS hl => ?_)
  obtain ⟨hx, hb, hml, hown, hts, hr, hlk, hnm, hK, hA, hN, hC⟩ := id B
  have hown : s.vm.findClass RX7 = some m.cls := hown
  have hl : lv_has ls 3 [(0, .ref p0), (1, .int p1)] := hl
  have w_0 : (Cond.fieldLink RX7 7 "WishSeaModel" "tape" "[I").before args s = true := hts _ (List.mem_of_getElem? (i := 1) rfl)
  have w_1 : (Cond.fieldLink RX7 13 "WishSeaModel" "taped" "I").before args s = true := hts _ (List.mem_of_getElem? (i := 2) rfl)
  have hinX7 : ∀ w ∈ u_ws RX7 TX7 92, w ∈ wsX7_put := fun _ h => List.mem_cons_of_mem _ (List.mem_append_right _ h)
  refine lv_bipush (v := 24) hx hb dX7_put_0 (by decide +kernel) ?_
  refine lv_istore_n (lv' := [(2, .int 24), (0, .ref p0), (1, .int p1)]) hx hb dX7_put_2 rfl hl (by decide) rfl (fun ls hl => ?_)
  refine lv_iload_n hx hb dX7_put_3 rfl (lv_at hl 0 rfl) ?_
  refine lv_if_lt (tgt := 39) hx hb dX7_put_4 (by decide) (fun q9 => absurd q9 (by decide +kernel)) (fun _ => ?_)
  refine lv_aload_n hx hb dX7_put_7 rfl (lv_at hl 1 rfl) ?_
  refine k_get (D := (dC, dI)) (ci := 7) (v := .ref (p2 0)) (C := RX7) (T := TX7) (N := 92) hx hb hts hinX7 hown hK hP 0 rfl rfl 0 (by decide) w_0 rfl rfl dX7_put_8 ?_
  refine lv_aload_n hx hb dX7_put_11 rfl (lv_at hl 1 rfl) ?_
  refine k_get (D := (dC, dI)) (ci := 7) (v := .int 12) (C := RX7) (T := TX7) (N := 92) hx hb hts hinX7 hown hK hP 0 rfl rfl 1 (by decide) w_1 rfl rfl dX7_put_12 ?_
  refine lv_iload_n hx hb dX7_put_15 rfl (lv_at hl 2 rfl) ?_
  refine lv_iload_n hx hb dX7_put_16 rfl (lv_at hl 0 rfl) ?_
  refine lv_ishr hx hb dX7_put_17 ?_
  refine lv_sipush (v := 255) hx hb dX7_put_18 (by decide +kernel) ?_
  refine lv_iand hx hb dX7_put_21 ?_
  refine lv_topi (fun y_1 ey_1 => ?_)
  refine k_iast (g := (upd (upd (upd (upd (upd (upd (upd (upd (upd (upd (upd (upd (upd (fun _ => 0) 0 p3) 1 p4) 2 p5) 3 p6) 4 p7) 5 p8) 6 p9) 7 p10) 8 p11) 9 p12) 10 p13) 11 p14) 12 y_1)) (ws' := [(p0, .inr (7, oM p2 (upd i7 1 12) j7)), ((p2 0), .inl (cI, 1800, .inl (upd (upd (upd (upd (upd (upd (upd (upd (upd (upd (upd (upd (upd (fun _ => 0) 0 p3) 1 p4) 2 p5) 3 p6) 4 p7) 5 p8) 6 p9) 7 p10) 8 p11) 9 p12) 10 p13) 11 p14) 12 y_1)))]) hx hb hK hP hD hS 1 0 12 rfl rfl rfl (Nat.le_of_ble_eq_true rfl) (Nat.le_of_ble_eq_true rfl) rfl rfl dX7_put_22 (fun H locs hP hD hS => ?_)
  refine lv_aload_n hx hb dX7_put_23 rfl (lv_at hl 1 rfl) ?_
  refine lv_dup hx hb dX7_put_24 rfl ?_
  refine k_get (D := (dC, dI)) (ci := 7) (v := .int 12) (C := RX7) (T := TX7) (N := 92) hx hb hts hinX7 hown hK hP 0 rfl rfl 1 (by decide) w_1 rfl rfl dX7_put_25 ?_
  refine lv_iconst (v := 1) hx hb dX7_put_28 (by decide +kernel) ?_
  refine lv_iadd hx hb dX7_put_29 ?_
  refine k_int (v := 13) (by decide +kernel) ?_
  refine k_put (D := (dC, dI)) (ci := 7) (v := .int 13) (C := RX7) (T := TX7) (N := 92) (ws' := [(p0, .inr (7, oM p2 (upd i7 1 13) j7)), ((p2 0), .inl (cI, 1800, .inl (upd (upd (upd (upd (upd (upd (upd (upd (upd (upd (upd (upd (upd (fun _ => 0) 0 p3) 1 p4) 2 p5) 3 p6) 4 p7) 5 p8) 6 p9) 7 p10) 8 p11) 9 p12) 10 p13) 11 p14) 12 y_1)))]) hx hb hts hinX7 tyX7 tyX7_ok nmX7 hown hK hP hD hS 0 rfl rfl 1 (by decide) w_1 rfl rfl rfl rfl (Nat.le_of_ble_eq_true rfl) rfl dX7_put_30 (fun H locs hP hD hS => ?_)
  refine lv_iinc (v := 16) (lv' := [(2, .int 16), (0, .ref p0), (1, .int p1)]) hx hb dX7_put_33 hl (k := 0) rfl (by decide +kernel) (by decide) rfl (fun ls hl => ?_)
  refine lv_goto (tgt := 3) hx hb dX7_put_36 (by decide) ?_
  refine lv_iload_n hx hb dX7_put_3 rfl (lv_at hl 0 rfl) ?_
  refine lv_if_lt (tgt := 39) hx hb dX7_put_4 (by decide) (fun q9 => absurd q9 (by decide +kernel)) (fun _ => ?_)
  refine lv_aload_n hx hb dX7_put_7 rfl (lv_at hl 1 rfl) ?_
  refine k_get (D := (dC, dI)) (ci := 7) (v := .ref (p2 0)) (C := RX7) (T := TX7) (N := 92) hx hb hts hinX7 hown hK hP 0 rfl rfl 0 (by decide) w_0 rfl rfl dX7_put_8 ?_
  refine lv_aload_n hx hb dX7_put_11 rfl (lv_at hl 1 rfl) ?_
  refine k_get (D := (dC, dI)) (ci := 7) (v := .int 13) (C := RX7) (T := TX7) (N := 92) hx hb hts hinX7 hown hK hP 0 rfl rfl 1 (by decide) w_1 rfl rfl dX7_put_12 ?_
  refine lv_iload_n hx hb dX7_put_15 rfl (lv_at hl 2 rfl) ?_
  refine lv_iload_n hx hb dX7_put_16 rfl (lv_at hl 0 rfl) ?_
  refine lv_ishr hx hb dX7_put_17 ?_
  refine lv_sipush (v := 255) hx hb dX7_put_18 (by decide +kernel) ?_
  refine lv_iand hx hb dX7_put_21 ?_
  refine lv_topi (fun y_2 ey_2 => ?_)
  refine k_iast (g := (upd (upd (upd (upd (upd (upd (upd (upd (upd (upd (upd (upd (upd (upd (fun _ => 0) 0 p3) 1 p4) 2 p5) 3 p6) 4 p7) 5 p8) 6 p9) 7 p10) 8 p11) 9 p12) 10 p13) 11 p14) 12 y_1) 13 y_2)) (ws' := [(p0, .inr (7, oM p2 (upd i7 1 13) j7)), ((p2 0), .inl (cI, 1800, .inl (upd (upd (upd (upd (upd (upd (upd (upd (upd (upd (upd (upd (upd (upd (fun _ => 0) 0 p3) 1 p4) 2 p5) 3 p6) 4 p7) 5 p8) 6 p9) 7 p10) 8 p11) 9 p12) 10 p13) 11 p14) 12 y_1) 13 y_2)))]) hx hb hK hP hD hS 1 0 13 rfl rfl rfl (Nat.le_of_ble_eq_true rfl) (Nat.le_of_ble_eq_true rfl) rfl rfl dX7_put_22 (fun H locs hP hD hS => ?_)
  refine lv_aload_n hx hb dX7_put_23 rfl (lv_at hl 1 rfl) ?_
  refine lv_dup hx hb dX7_put_24 rfl ?_
  refine k_get (D := (dC, dI)) (ci := 7) (v := .int 13) (C := RX7) (T := TX7) (N := 92) hx hb hts hinX7 hown hK hP 0 rfl rfl 1 (by decide) w_1 rfl rfl dX7_put_25 ?_
  refine lv_iconst (v := 1) hx hb dX7_put_28 (by decide +kernel) ?_
  refine lv_iadd hx hb dX7_put_29 ?_
  refine k_int (v := 14) (by decide +kernel) ?_
  refine k_put (D := (dC, dI)) (ci := 7) (v := .int 14) (C := RX7) (T := TX7) (N := 92) (ws' := [(p0, .inr (7, oM p2 (upd i7 1 14) j7)), ((p2 0), .inl (cI, 1800, .inl (upd (upd (upd (upd (upd (upd (upd (upd (upd (upd (upd (upd (upd (upd (fun _ => 0) 0 p3) 1 p4) 2 p5) 3 p6) 4 p7) 5 p8) 6 p9) 7 p10) 8 p11) 9 p12) 10 p13) 11 p14) 12 y_1) 13 y_2)))]) hx hb hts hinX7 tyX7 tyX7_ok nmX7 hown hK hP hD hS 0 rfl rfl 1 (by decide) w_1 rfl rfl rfl rfl (Nat.le_of_ble_eq_true rfl) rfl dX7_put_30 (fun H locs hP hD hS => ?_)
  refine lv_iinc (v := 8) (lv' := [(2, .int 8), (0, .ref p0), (1, .int p1)]) hx hb dX7_put_33 hl (k := 0) rfl (by decide +kernel) (by decide) rfl (fun ls hl => ?_)
  refine lv_goto (tgt := 3) hx hb dX7_put_36 (by decide) ?_
  refine lv_iload_n hx hb dX7_put_3 rfl (lv_at hl 0 rfl) ?_
  refine lv_if_lt (tgt := 39) hx hb dX7_put_4 (by decide) (fun q9 => absurd q9 (by decide +kernel)) (fun _ => ?_)
  refine lv_aload_n hx hb dX7_put_7 rfl (lv_at hl 1 rfl) ?_
  refine k_get (D := (dC, dI)) (ci := 7) (v := .ref (p2 0)) (C := RX7) (T := TX7) (N := 92) hx hb hts hinX7 hown hK hP 0 rfl rfl 0 (by decide) w_0 rfl rfl dX7_put_8 ?_
  refine lv_aload_n hx hb dX7_put_11 rfl (lv_at hl 1 rfl) ?_
  refine k_get (D := (dC, dI)) (ci := 7) (v := .int 14) (C := RX7) (T := TX7) (N := 92) hx hb hts hinX7 hown hK hP 0 rfl rfl 1 (by decide) w_1 rfl rfl dX7_put_12 ?_
  refine lv_iload_n hx hb dX7_put_15 rfl (lv_at hl 2 rfl) ?_
  refine lv_iload_n hx hb dX7_put_16 rfl (lv_at hl 0 rfl) ?_
  refine lv_ishr hx hb dX7_put_17 ?_
  refine lv_sipush (v := 255) hx hb dX7_put_18 (by decide +kernel) ?_
  refine lv_iand hx hb dX7_put_21 ?_
  refine lv_topi (fun y_3 ey_3 => ?_)
  refine k_iast (g := (upd (upd (upd (upd (upd (upd (upd (upd (upd (upd (upd (upd (upd (upd (upd (fun _ => 0) 0 p3) 1 p4) 2 p5) 3 p6) 4 p7) 5 p8) 6 p9) 7 p10) 8 p11) 9 p12) 10 p13) 11 p14) 12 y_1) 13 y_2) 14 y_3)) (ws' := [(p0, .inr (7, oM p2 (upd i7 1 14) j7)), ((p2 0), .inl (cI, 1800, .inl (upd (upd (upd (upd (upd (upd (upd (upd (upd (upd (upd (upd (upd (upd (upd (fun _ => 0) 0 p3) 1 p4) 2 p5) 3 p6) 4 p7) 5 p8) 6 p9) 7 p10) 8 p11) 9 p12) 10 p13) 11 p14) 12 y_1) 13 y_2) 14 y_3)))]) hx hb hK hP hD hS 1 0 14 rfl rfl rfl (Nat.le_of_ble_eq_true rfl) (Nat.le_of_ble_eq_true rfl) rfl rfl dX7_put_22 (fun H locs hP hD hS => ?_)
  refine lv_aload_n hx hb dX7_put_23 rfl (lv_at hl 1 rfl) ?_
  refine lv_dup hx hb dX7_put_24 rfl ?_
  refine k_get (D := (dC, dI)) (ci := 7) (v := .int 14) (C := RX7) (T := TX7) (N := 92) hx hb hts hinX7 hown hK hP 0 rfl rfl 1 (by decide) w_1 rfl rfl dX7_put_25 ?_
  refine lv_iconst (v := 1) hx hb dX7_put_28 (by decide +kernel) ?_
  refine lv_iadd hx hb dX7_put_29 ?_
  refine k_int (v := 15) (by decide +kernel) ?_
  refine k_put (D := (dC, dI)) (ci := 7) (v := .int 15) (C := RX7) (T := TX7) (N := 92) (ws' := [(p0, .inr (7, oM p2 (upd i7 1 15) j7)), ((p2 0), .inl (cI, 1800, .inl (upd (upd (upd (upd (upd (upd (upd (upd (upd (upd (upd (upd (upd (upd (upd (fun _ => 0) 0 p3) 1 p4) 2 p5) 3 p6) 4 p7) 5 p8) 6 p9) 7 p10) 8 p11) 9 p12) 10 p13) 11 p14) 12 y_1) 13 y_2) 14 y_3)))]) hx hb hts hinX7 tyX7 tyX7_ok nmX7 hown hK hP hD hS 0 rfl rfl 1 (by decide) w_1 rfl rfl rfl rfl (Nat.le_of_ble_eq_true rfl) rfl dX7_put_30 (fun H locs hP hD hS => ?_)
  refine lv_iinc (v := 0) (lv' := [(2, .int 0), (0, .ref p0), (1, .int p1)]) hx hb dX7_put_33 hl (k := 0) rfl (by decide +kernel) (by decide) rfl (fun ls hl => ?_)
  refine lv_goto (tgt := 3) hx hb dX7_put_36 (by decide) ?_
  refine lv_iload_n hx hb dX7_put_3 rfl (lv_at hl 0 rfl) ?_
  refine lv_if_lt (tgt := 39) hx hb dX7_put_4 (by decide) (fun q9 => absurd q9 (by decide +kernel)) (fun _ => ?_)
  refine lv_aload_n hx hb dX7_put_7 rfl (lv_at hl 1 rfl) ?_
  refine k_get (D := (dC, dI)) (ci := 7) (v := .ref (p2 0)) (C := RX7) (T := TX7) (N := 92) hx hb hts hinX7 hown hK hP 0 rfl rfl 0 (by decide) w_0 rfl rfl dX7_put_8 ?_
  refine lv_aload_n hx hb dX7_put_11 rfl (lv_at hl 1 rfl) ?_
  refine k_get (D := (dC, dI)) (ci := 7) (v := .int 15) (C := RX7) (T := TX7) (N := 92) hx hb hts hinX7 hown hK hP 0 rfl rfl 1 (by decide) w_1 rfl rfl dX7_put_12 ?_
  refine lv_iload_n hx hb dX7_put_15 rfl (lv_at hl 2 rfl) ?_
  refine lv_iload_n hx hb dX7_put_16 rfl (lv_at hl 0 rfl) ?_
  refine lv_ishr hx hb dX7_put_17 ?_
  refine lv_sipush (v := 255) hx hb dX7_put_18 (by decide +kernel) ?_
  refine lv_iand hx hb dX7_put_21 ?_
  refine lv_topi (fun y_4 ey_4 => ?_)
  refine k_iast (g := (upd (upd (upd (upd (upd (upd (upd (upd (upd (upd (upd (upd (upd (upd (upd (upd (fun _ => 0) 0 p3) 1 p4) 2 p5) 3 p6) 4 p7) 5 p8) 6 p9) 7 p10) 8 p11) 9 p12) 10 p13) 11 p14) 12 y_1) 13 y_2) 14 y_3) 15 y_4)) (ws' := [(p0, .inr (7, oM p2 (upd i7 1 15) j7)), ((p2 0), .inl (cI, 1800, .inl (upd (upd (upd (upd (upd (upd (upd (upd (upd (upd (upd (upd (upd (upd (upd (upd (fun _ => 0) 0 p3) 1 p4) 2 p5) 3 p6) 4 p7) 5 p8) 6 p9) 7 p10) 8 p11) 9 p12) 10 p13) 11 p14) 12 y_1) 13 y_2) 14 y_3) 15 y_4)))]) hx hb hK hP hD hS 1 0 15 rfl rfl rfl (Nat.le_of_ble_eq_true rfl) (Nat.le_of_ble_eq_true rfl) rfl rfl dX7_put_22 (fun H locs hP hD hS => ?_)
  refine lv_aload_n hx hb dX7_put_23 rfl (lv_at hl 1 rfl) ?_
  refine lv_dup hx hb dX7_put_24 rfl ?_
  refine k_get (D := (dC, dI)) (ci := 7) (v := .int 15) (C := RX7) (T := TX7) (N := 92) hx hb hts hinX7 hown hK hP 0 rfl rfl 1 (by decide) w_1 rfl rfl dX7_put_25 ?_
  refine lv_iconst (v := 1) hx hb dX7_put_28 (by decide +kernel) ?_
  refine lv_iadd hx hb dX7_put_29 ?_
  refine k_int (v := 16) (by decide +kernel) ?_
  refine k_put (D := (dC, dI)) (ci := 7) (v := .int 16) (C := RX7) (T := TX7) (N := 92) (ws' := [(p0, .inr (7, oM p2 (upd i7 1 16) j7)), ((p2 0), .inl (cI, 1800, .inl (upd (upd (upd (upd (upd (upd (upd (upd (upd (upd (upd (upd (upd (upd (upd (upd (fun _ => 0) 0 p3) 1 p4) 2 p5) 3 p6) 4 p7) 5 p8) 6 p9) 7 p10) 8 p11) 9 p12) 10 p13) 11 p14) 12 y_1) 13 y_2) 14 y_3) 15 y_4)))]) hx hb hts hinX7 tyX7 tyX7_ok nmX7 hown hK hP hD hS 0 rfl rfl 1 (by decide) w_1 rfl rfl rfl rfl (Nat.le_of_ble_eq_true rfl) rfl dX7_put_30 (fun H locs hP hD hS => ?_)
  refine lv_iinc (v := (-8)) (lv' := [(2, .int (-8)), (0, .ref p0), (1, .int p1)]) hx hb dX7_put_33 hl (k := 0) rfl (by decide +kernel) (by decide) rfl (fun ls hl => ?_)
  refine lv_goto (tgt := 3) hx hb dX7_put_36 (by decide) ?_
  refine lv_iload_n hx hb dX7_put_3 rfl (lv_at hl 0 rfl) ?_
  refine lv_if_lt (tgt := 39) hx hb dX7_put_4 (by decide) (fun _ => ?_) (fun q9 => absurd q9 (by decide +kernel))
  subst ey_4
  subst ey_3
  subst ey_2
  subst ey_1
  exact k_rv B hP hD hS dX7_put_39 () [0, 1] rfl rfl (Nat.le_of_ble_eq_true rfl) (Nat.le_of_ble_eq_true rfl) trivial
set_option maxHeartbeats 4000000 in
set_option maxRecDepth 100000 in
theorem c_X7_put_v4 (l : Launch) (dC : Nat → ClassId) (dI : Nat → Nat → Nat) (cI cJ cZ cM : ClassId) (p0 : Nat) (p1 : Int32) (p2 : Nat → Nat) (p3 : Int32) (p4 : Int32) (p5 : Int32) (p6 : Int32) (p7 : Int32) (p8 : Int32) (p9 : Int32) (p10 : Int32) (p11 : Int32) (p12 : Int32) (p13 : Int32) (p14 : Int32) (p15 : Int32) (p16 : Int32) (p17 : Int32) (p18 : Int32)   : k_Mv l yX7_put wsX7_put ({ frames := 1, cells := 0, slots := 0, locals := 40 }) (dC, dI) vwCl (tyy cI cJ cZ cM) [(p0, .inr (7, oM p2 (upd i7 1 16) j7)), ((p2 0), .inl (cI, 1800, .inl (upd (upd (upd (upd (upd (upd (upd (upd (upd (upd (upd (upd (upd (upd (upd (upd (fun _ => 0) 0 p3) 1 p4) 2 p5) 3 p6) 4 p7) 5 p8) 6 p9) 7 p10) 8 p11) 9 p12) 10 p13) 11 p14) 12 p15) 13 p16) 14 p17) 15 p18)))] [.ref p0, .int p1] 0 0 (fun (u9 : Unit) => [(p0, .inr (7, oM p2 (upd i7 1 20) j7)), ((p2 0), .inl (cI, 1800, .inl (upd (upd (upd (upd (upd (upd (upd (upd (upd (upd (upd (upd (upd (upd (upd (upd (upd (upd (upd (upd (fun _ => 0) 0 p3) 1 p4) 2 p5) 3 p6) 4 p7) 5 p8) 6 p9) 7 p10) 8 p11) 9 p12) 10 p13) 11 p14) 12 p15) 13 p16) 14 p17) 15 p18) 16 ((p1 >>> (24 &&& 31)) &&& 255)) 17 ((p1 >>> (16 &&& 31)) &&& 255)) 18 ((p1 >>> (8 &&& 31)) &&& 255)) 19 ((p1 >>> (0 &&& 31)) &&& 255))))]) (fun (u9 : Unit) => True) := by
  refine fun sz => k_enter (cc := cX7_put) (maxL := 3) (ret := none) (Qc := fun A => va_Qv (fun (u9 : Unit) => True) (fun u => k_B (dC, dI) vwCl (tyy cI cJ cZ cM) A ((fun (u9 : Unit) => [(p0, .inr (7, oM p2 (upd i7 1 20) j7)), ((p2 0), .inl (cI, 1800, .inl (upd (upd (upd (upd (upd (upd (upd (upd (upd (upd (upd (upd (upd (upd (upd (upd (upd (upd (upd (upd (fun _ => 0) 0 p3) 1 p4) 2 p5) 3 p6) 4 p7) 5 p8) 6 p9) 7 p10) 8 p11) 9 p12) 10 p13) 11 p14) 12 p15) 13 p16) 14 p17) 15 p18) 16 ((p1 >>> (24 &&& 31)) &&& 255)) 17 ((p1 >>> (16 &&& 31)) &&& 255)) 18 ((p1 >>> (8 &&& 31)) &&& 255)) 19 ((p1 >>> (0 &&& 31)) &&& 255))))]) u)) A) sz (by decide +kernel) rfl (Nat.le_of_ble_eq_true rfl) (fun p e s m args below meth c A ls H locs B hP hD hS hl => ?_)
  obtain ⟨hx, hb, hml, hown, hts, hr, hlk, hnm, hK, hA, hN, hC⟩ := id B
  have hown : s.vm.findClass RX7 = some m.cls := hown
  have hl : lv_has ls 3 [(0, .ref p0), (1, .int p1)] := hl
  have w_0 : (Cond.fieldLink RX7 7 "WishSeaModel" "tape" "[I").before args s = true := hts _ (List.mem_of_getElem? (i := 1) rfl)
  have w_1 : (Cond.fieldLink RX7 13 "WishSeaModel" "taped" "I").before args s = true := hts _ (List.mem_of_getElem? (i := 2) rfl)
  have hinX7 : ∀ w ∈ u_ws RX7 TX7 92, w ∈ wsX7_put := fun _ h => List.mem_cons_of_mem _ (List.mem_append_right _ h)
  refine lv_bipush (v := 24) hx hb dX7_put_0 (by decide +kernel) ?_
  refine lv_istore_n (lv' := [(2, .int 24), (0, .ref p0), (1, .int p1)]) hx hb dX7_put_2 rfl hl (by decide) rfl (fun ls hl => ?_)
  refine lv_iload_n hx hb dX7_put_3 rfl (lv_at hl 0 rfl) ?_
  refine lv_if_lt (tgt := 39) hx hb dX7_put_4 (by decide) (fun q9 => absurd q9 (by decide +kernel)) (fun _ => ?_)
  refine lv_aload_n hx hb dX7_put_7 rfl (lv_at hl 1 rfl) ?_
  refine k_get (D := (dC, dI)) (ci := 7) (v := .ref (p2 0)) (C := RX7) (T := TX7) (N := 92) hx hb hts hinX7 hown hK hP 0 rfl rfl 0 (by decide) w_0 rfl rfl dX7_put_8 ?_
  refine lv_aload_n hx hb dX7_put_11 rfl (lv_at hl 1 rfl) ?_
  refine k_get (D := (dC, dI)) (ci := 7) (v := .int 16) (C := RX7) (T := TX7) (N := 92) hx hb hts hinX7 hown hK hP 0 rfl rfl 1 (by decide) w_1 rfl rfl dX7_put_12 ?_
  refine lv_iload_n hx hb dX7_put_15 rfl (lv_at hl 2 rfl) ?_
  refine lv_iload_n hx hb dX7_put_16 rfl (lv_at hl 0 rfl) ?_
  refine lv_ishr hx hb dX7_put_17 ?_
  refine lv_sipush (v := 255) hx hb dX7_put_18 (by decide +kernel) ?_
  refine lv_iand hx hb dX7_put_21 ?_
  refine lv_topi (fun y_1 ey_1 => ?_)
  refine k_iast (g := (upd (upd (upd (upd (upd (upd (upd (upd (upd (upd (upd (upd (upd (upd (upd (upd (upd (fun _ => 0) 0 p3) 1 p4) 2 p5) 3 p6) 4 p7) 5 p8) 6 p9) 7 p10) 8 p11) 9 p12) 10 p13) 11 p14) 12 p15) 13 p16) 14 p17) 15 p18) 16 y_1)) (ws' := [(p0, .inr (7, oM p2 (upd i7 1 16) j7)), ((p2 0), .inl (cI, 1800, .inl (upd (upd (upd (upd (upd (upd (upd (upd (upd (upd (upd (upd (upd (upd (upd (upd (upd (fun _ => 0) 0 p3) 1 p4) 2 p5) 3 p6) 4 p7) 5 p8) 6 p9) 7 p10) 8 p11) 9 p12) 10 p13) 11 p14) 12 p15) 13 p16) 14 p17) 15 p18) 16 y_1)))]) hx hb hK hP hD hS 1 0 16 rfl rfl rfl (Nat.le_of_ble_eq_true rfl) (Nat.le_of_ble_eq_true rfl) rfl rfl dX7_put_22 (fun H locs hP hD hS => ?_)
  refine lv_aload_n hx hb dX7_put_23 rfl (lv_at hl 1 rfl) ?_
  refine lv_dup hx hb dX7_put_24 rfl ?_
  refine k_get (D := (dC, dI)) (ci := 7) (v := .int 16) (C := RX7) (T := TX7) (N := 92) hx hb hts hinX7 hown hK hP 0 rfl rfl 1 (by decide) w_1 rfl rfl dX7_put_25 ?_
  refine lv_iconst (v := 1) hx hb dX7_put_28 (by decide +kernel) ?_
  refine lv_iadd hx hb dX7_put_29 ?_
  refine k_int (v := 17) (by decide +kernel) ?_
  refine k_put (D := (dC, dI)) (ci := 7) (v := .int 17) (C := RX7) (T := TX7) (N := 92) (ws' := [(p0, .inr (7, oM p2 (upd i7 1 17) j7)), ((p2 0), .inl (cI, 1800, .inl (upd (upd (upd (upd (upd (upd (upd (upd (upd (upd (upd (upd (upd (upd (upd (upd (upd (fun _ => 0) 0 p3) 1 p4) 2 p5) 3 p6) 4 p7) 5 p8) 6 p9) 7 p10) 8 p11) 9 p12) 10 p13) 11 p14) 12 p15) 13 p16) 14 p17) 15 p18) 16 y_1)))]) hx hb hts hinX7 tyX7 tyX7_ok nmX7 hown hK hP hD hS 0 rfl rfl 1 (by decide) w_1 rfl rfl rfl rfl (Nat.le_of_ble_eq_true rfl) rfl dX7_put_30 (fun H locs hP hD hS => ?_)
  refine lv_iinc (v := 16) (lv' := [(2, .int 16), (0, .ref p0), (1, .int p1)]) hx hb dX7_put_33 hl (k := 0) rfl (by decide +kernel) (by decide) rfl (fun ls hl => ?_)
  refine lv_goto (tgt := 3) hx hb dX7_put_36 (by decide) ?_
  refine lv_iload_n hx hb dX7_put_3 rfl (lv_at hl 0 rfl) ?_
  refine lv_if_lt (tgt := 39) hx hb dX7_put_4 (by decide) (fun q9 => absurd q9 (by decide +kernel)) (fun _ => ?_)
  refine lv_aload_n hx hb dX7_put_7 rfl (lv_at hl 1 rfl) ?_
  refine k_get (D := (dC, dI)) (ci := 7) (v := .ref (p2 0)) (C := RX7) (T := TX7) (N := 92) hx hb hts hinX7 hown hK hP 0 rfl rfl 0 (by decide) w_0 rfl rfl dX7_put_8 ?_
  refine lv_aload_n hx hb dX7_put_11 rfl (lv_at hl 1 rfl) ?_
  refine k_get (D := (dC, dI)) (ci := 7) (v := .int 17) (C := RX7) (T := TX7) (N := 92) hx hb hts hinX7 hown hK hP 0 rfl rfl 1 (by decide) w_1 rfl rfl dX7_put_12 ?_
  refine lv_iload_n hx hb dX7_put_15 rfl (lv_at hl 2 rfl) ?_
  refine lv_iload_n hx hb dX7_put_16 rfl (lv_at hl 0 rfl) ?_
  refine lv_ishr hx hb dX7_put_17 ?_
  refine lv_sipush (v := 255) hx hb dX7_put_18 (by decide +kernel) ?_
  refine lv_iand hx hb dX7_put_21 ?_
  refine lv_topi (fun y_2 ey_2 => ?_)
  refine k_iast (g := (upd (upd (upd (upd (upd (upd (upd (upd (upd (upd (upd (upd (upd (upd (upd (upd (upd (upd (fun _ => 0) 0 p3) 1 p4) 2 p5) 3 p6) 4 p7) 5 p8) 6 p9) 7 p10) 8 p11) 9 p12) 10 p13) 11 p14) 12 p15) 13 p16) 14 p17) 15 p18) 16 y_1) 17 y_2)) (ws' := [(p0, .inr (7, oM p2 (upd i7 1 17) j7)), ((p2 0), .inl (cI, 1800, .inl (upd (upd (upd (upd (upd (upd (upd (upd (upd (upd (upd (upd (upd (upd (upd (upd (upd (upd (fun _ => 0) 0 p3) 1 p4) 2 p5) 3 p6) 4 p7) 5 p8) 6 p9) 7 p10) 8 p11) 9 p12) 10 p13) 11 p14) 12 p15) 13 p16) 14 p17) 15 p18) 16 y_1) 17 y_2)))]) hx hb hK hP hD hS 1 0 17 rfl rfl rfl (Nat.le_of_ble_eq_true rfl) (Nat.le_of_ble_eq_true rfl) rfl rfl dX7_put_22 (fun H locs hP hD hS => ?_)
  refine lv_aload_n hx hb dX7_put_23 rfl (lv_at hl 1 rfl) ?_
  refine lv_dup hx hb dX7_put_24 rfl ?_
  refine k_get (D := (dC, dI)) (ci := 7) (v := .int 17) (C := RX7) (T := TX7) (N := 92) hx hb hts hinX7 hown hK hP 0 rfl rfl 1 (by decide) w_1 rfl rfl dX7_put_25 ?_
  refine lv_iconst (v := 1) hx hb dX7_put_28 (by decide +kernel) ?_
  refine lv_iadd hx hb dX7_put_29 ?_
  refine k_int (v := 18) (by decide +kernel) ?_
  refine k_put (D := (dC, dI)) (ci := 7) (v := .int 18) (C := RX7) (T := TX7) (N := 92) (ws' := [(p0, .inr (7, oM p2 (upd i7 1 18) j7)), ((p2 0), .inl (cI, 1800, .inl (upd (upd (upd (upd (upd (upd (upd (upd (upd (upd (upd (upd (upd (upd (upd (upd (upd (upd (fun _ => 0) 0 p3) 1 p4) 2 p5) 3 p6) 4 p7) 5 p8) 6 p9) 7 p10) 8 p11) 9 p12) 10 p13) 11 p14) 12 p15) 13 p16) 14 p17) 15 p18) 16 y_1) 17 y_2)))]) hx hb hts hinX7 tyX7 tyX7_ok nmX7 hown hK hP hD hS 0 rfl rfl 1 (by decide) w_1 rfl rfl rfl rfl (Nat.le_of_ble_eq_true rfl) rfl dX7_put_30 (fun H locs hP hD hS => ?_)
  refine lv_iinc (v := 8) (lv' := [(2, .int 8), (0, .ref p0), (1, .int p1)]) hx hb dX7_put_33 hl (k := 0) rfl (by decide +kernel) (by decide) rfl (fun ls hl => ?_)
  refine lv_goto (tgt := 3) hx hb dX7_put_36 (by decide) ?_
  refine lv_iload_n hx hb dX7_put_3 rfl (lv_at hl 0 rfl) ?_
  refine lv_if_lt (tgt := 39) hx hb dX7_put_4 (by decide) (fun q9 => absurd q9 (by decide +kernel)) (fun _ => ?_)
  refine lv_aload_n hx hb dX7_put_7 rfl (lv_at hl 1 rfl) ?_
  refine k_get (D := (dC, dI)) (ci := 7) (v := .ref (p2 0)) (C := RX7) (T := TX7) (N := 92) hx hb hts hinX7 hown hK hP 0 rfl rfl 0 (by decide) w_0 rfl rfl dX7_put_8 ?_
  refine lv_aload_n hx hb dX7_put_11 rfl (lv_at hl 1 rfl) ?_
  refine k_get (D := (dC, dI)) (ci := 7) (v := .int 18) (C := RX7) (T := TX7) (N := 92) hx hb hts hinX7 hown hK hP 0 rfl rfl 1 (by decide) w_1 rfl rfl dX7_put_12 ?_
  refine lv_iload_n hx hb dX7_put_15 rfl (lv_at hl 2 rfl) ?_
  refine lv_iload_n hx hb dX7_put_16 rfl (lv_at hl 0 rfl) ?_
  refine lv_ishr hx hb dX7_put_17 ?_
  refine lv_sipush (v := 255) hx hb dX7_put_18 (by decide +kernel) ?_
  refine lv_iand hx hb dX7_put_21 ?_
  refine lv_topi (fun y_3 ey_3 => ?_)
  refine k_iast (g := (upd (upd (upd (upd (upd (upd (upd (upd (upd (upd (upd (upd (upd (upd (upd (upd (upd (upd (upd (fun _ => 0) 0 p3) 1 p4) 2 p5) 3 p6) 4 p7) 5 p8) 6 p9) 7 p10) 8 p11) 9 p12) 10 p13) 11 p14) 12 p15) 13 p16) 14 p17) 15 p18) 16 y_1) 17 y_2) 18 y_3)) (ws' := [(p0, .inr (7, oM p2 (upd i7 1 18) j7)), ((p2 0), .inl (cI, 1800, .inl (upd (upd (upd (upd (upd (upd (upd (upd (upd (upd (upd (upd (upd (upd (upd (upd (upd (upd (upd (fun _ => 0) 0 p3) 1 p4) 2 p5) 3 p6) 4 p7) 5 p8) 6 p9) 7 p10) 8 p11) 9 p12) 10 p13) 11 p14) 12 p15) 13 p16) 14 p17) 15 p18) 16 y_1) 17 y_2) 18 y_3)))]) hx hb hK hP hD hS 1 0 18 rfl rfl rfl (Nat.le_of_ble_eq_true rfl) (Nat.le_of_ble_eq_true rfl) rfl rfl dX7_put_22 (fun H locs hP hD hS => ?_)
  refine lv_aload_n hx hb dX7_put_23 rfl (lv_at hl 1 rfl) ?_
  refine lv_dup hx hb dX7_put_24 rfl ?_
  refine k_get (D := (dC, dI)) (ci := 7) (v := .int 18) (C := RX7) (T := TX7) (N := 92) hx hb hts hinX7 hown hK hP 0 rfl rfl 1 (by decide) w_1 rfl rfl dX7_put_25 ?_
  refine lv_iconst (v := 1) hx hb dX7_put_28 (by decide +kernel) ?_
  refine lv_iadd hx hb dX7_put_29 ?_
  refine k_int (v := 19) (by decide +kernel) ?_
  refine k_put (D := (dC, dI)) (ci := 7) (v := .int 19) (C := RX7) (T := TX7) (N := 92) (ws' := [(p0, .inr (7, oM p2 (upd i7 1 19) j7)), ((p2 0), .inl (cI, 1800, .inl (upd (upd (upd (upd (upd (upd (upd (upd (upd (upd (upd (upd (upd (upd (upd (upd (upd (upd (upd (fun _ => 0) 0 p3) 1 p4) 2 p5) 3 p6) 4 p7) 5 p8) 6 p9) 7 p10) 8 p11) 9 p12) 10 p13) 11 p14) 12 p15) 13 p16) 14 p17) 15 p18) 16 y_1) 17 y_2) 18 y_3)))]) hx hb hts hinX7 tyX7 tyX7_ok nmX7 hown hK hP hD hS 0 rfl rfl 1 (by decide) w_1 rfl rfl rfl rfl (Nat.le_of_ble_eq_true rfl) rfl dX7_put_30 (fun H locs hP hD hS => ?_)
  refine lv_iinc (v := 0) (lv' := [(2, .int 0), (0, .ref p0), (1, .int p1)]) hx hb dX7_put_33 hl (k := 0) rfl (by decide +kernel) (by decide) rfl (fun ls hl => ?_)
  refine lv_goto (tgt := 3) hx hb dX7_put_36 (by decide) ?_
  refine lv_iload_n hx hb dX7_put_3 rfl (lv_at hl 0 rfl) ?_
  refine lv_if_lt (tgt := 39) hx hb dX7_put_4 (by decide) (fun q9 => absurd q9 (by decide +kernel)) (fun _ => ?_)
  refine lv_aload_n hx hb dX7_put_7 rfl (lv_at hl 1 rfl) ?_
  refine k_get (D := (dC, dI)) (ci := 7) (v := .ref (p2 0)) (C := RX7) (T := TX7) (N := 92) hx hb hts hinX7 hown hK hP 0 rfl rfl 0 (by decide) w_0 rfl rfl dX7_put_8 ?_
  refine lv_aload_n hx hb dX7_put_11 rfl (lv_at hl 1 rfl) ?_
  refine k_get (D := (dC, dI)) (ci := 7) (v := .int 19) (C := RX7) (T := TX7) (N := 92) hx hb hts hinX7 hown hK hP 0 rfl rfl 1 (by decide) w_1 rfl rfl dX7_put_12 ?_
  refine lv_iload_n hx hb dX7_put_15 rfl (lv_at hl 2 rfl) ?_
  refine lv_iload_n hx hb dX7_put_16 rfl (lv_at hl 0 rfl) ?_
  refine lv_ishr hx hb dX7_put_17 ?_
  refine lv_sipush (v := 255) hx hb dX7_put_18 (by decide +kernel) ?_
  refine lv_iand hx hb dX7_put_21 ?_
  refine lv_topi (fun y_4 ey_4 => ?_)
  refine k_iast (g := (upd (upd (upd (upd (upd (upd (upd (upd (upd (upd (upd (upd (upd (upd (upd (upd (upd (upd (upd (upd (fun _ => 0) 0 p3) 1 p4) 2 p5) 3 p6) 4 p7) 5 p8) 6 p9) 7 p10) 8 p11) 9 p12) 10 p13) 11 p14) 12 p15) 13 p16) 14 p17) 15 p18) 16 y_1) 17 y_2) 18 y_3) 19 y_4)) (ws' := [(p0, .inr (7, oM p2 (upd i7 1 19) j7)), ((p2 0), .inl (cI, 1800, .inl (upd (upd (upd (upd (upd (upd (upd (upd (upd (upd (upd (upd (upd (upd (upd (upd (upd (upd (upd (upd (fun _ => 0) 0 p3) 1 p4) 2 p5) 3 p6) 4 p7) 5 p8) 6 p9) 7 p10) 8 p11) 9 p12) 10 p13) 11 p14) 12 p15) 13 p16) 14 p17) 15 p18) 16 y_1) 17 y_2) 18 y_3) 19 y_4)))]) hx hb hK hP hD hS 1 0 19 rfl rfl rfl (Nat.le_of_ble_eq_true rfl) (Nat.le_of_ble_eq_true rfl) rfl rfl dX7_put_22 (fun H locs hP hD hS => ?_)
  refine lv_aload_n hx hb dX7_put_23 rfl (lv_at hl 1 rfl) ?_
  refine lv_dup hx hb dX7_put_24 rfl ?_
  refine k_get (D := (dC, dI)) (ci := 7) (v := .int 19) (C := RX7) (T := TX7) (N := 92) hx hb hts hinX7 hown hK hP 0 rfl rfl 1 (by decide) w_1 rfl rfl dX7_put_25 ?_
  refine lv_iconst (v := 1) hx hb dX7_put_28 (by decide +kernel) ?_
  refine lv_iadd hx hb dX7_put_29 ?_
  refine k_int (v := 20) (by decide +kernel) ?_
  refine k_put (D := (dC, dI)) (ci := 7) (v := .int 20) (C := RX7) (T := TX7) (N := 92) (ws' := [(p0, .inr (7, oM p2 (upd i7 1 20) j7)), ((p2 0), .inl (cI, 1800, .inl (upd (upd (upd (upd (upd (upd (upd (upd (upd (upd (upd (upd (upd (upd (upd (upd (upd (upd (upd (upd (fun _ => 0) 0 p3) 1 p4) 2 p5) 3 p6) 4 p7) 5 p8) 6 p9) 7 p10) 8 p11) 9 p12) 10 p13) 11 p14) 12 p15) 13 p16) 14 p17) 15 p18) 16 y_1) 17 y_2) 18 y_3) 19 y_4)))]) hx hb hts hinX7 tyX7 tyX7_ok nmX7 hown hK hP hD hS 0 rfl rfl 1 (by decide) w_1 rfl rfl rfl rfl (Nat.le_of_ble_eq_true rfl) rfl dX7_put_30 (fun H locs hP hD hS => ?_)
  refine lv_iinc (v := (-8)) (lv' := [(2, .int (-8)), (0, .ref p0), (1, .int p1)]) hx hb dX7_put_33 hl (k := 0) rfl (by decide +kernel) (by decide) rfl (fun ls hl => ?_)
  refine lv_goto (tgt := 3) hx hb dX7_put_36 (by decide) ?_
  refine lv_iload_n hx hb dX7_put_3 rfl (lv_at hl 0 rfl) ?_
  refine lv_if_lt (tgt := 39) hx hb dX7_put_4 (by decide) (fun _ => ?_) (fun q9 => absurd q9 (by decide +kernel))
  subst ey_4
  subst ey_3
  subst ey_2
  subst ey_1
  exact k_rv B hP hD hS dX7_put_39 () [0, 1] rfl rfl (Nat.le_of_ble_eq_true rfl) (Nat.le_of_ble_eq_true rfl) trivial
set_option maxHeartbeats 4000000 in
set_option maxRecDepth 100000 in
theorem c_X7_feed_v0 (l : Launch) (dC : Nat → ClassId) (dI : Nat → Nat → Nat) (cI cJ cZ cM : ClassId) (p0 : Nat) (p1 : Int32) (p2 : Int32) (p3 : Int32) (p4 : Int32) (p5 : Int32) (p6 : Nat → Nat)   : k_Mi l yX7_feed wsX7_feed ({ frames := 2, cells := 0, slots := 0, locals := 62 }) (dC, dI) vwCl (tyy cI cJ cZ cM) [(p0, .inr (7, oM p6 i7 j7)), ((p6 0), .inl (cI, 1800, .inl (fun _ => 0)))] [.ref p0, .int p1, .int p2, .int p3, .int p4, .int p5] 0 0 (fun (u9 : Unit) => [(p0, .inr (7, oM p6 (upd i7 1 20) j7)), ((p6 0), .inl (cI, 1800, .inl (upd (upd (upd (upd (upd (upd (upd (upd (upd (upd (upd (upd (upd (upd (upd (upd (upd (upd (upd (upd (fun _ => 0) 0 ((p1 >>> (24 &&& 31)) &&& 255)) 1 ((p1 >>> (16 &&& 31)) &&& 255)) 2 ((p1 >>> (8 &&& 31)) &&& 255)) 3 ((p1 >>> (0 &&& 31)) &&& 255)) 4 ((p2 >>> (24 &&& 31)) &&& 255)) 5 ((p2 >>> (16 &&& 31)) &&& 255)) 6 ((p2 >>> (8 &&& 31)) &&& 255)) 7 ((p2 >>> (0 &&& 31)) &&& 255)) 8 ((p3 >>> (24 &&& 31)) &&& 255)) 9 ((p3 >>> (16 &&& 31)) &&& 255)) 10 ((p3 >>> (8 &&& 31)) &&& 255)) 11 ((p3 >>> (0 &&& 31)) &&& 255)) 12 ((p4 >>> (24 &&& 31)) &&& 255)) 13 ((p4 >>> (16 &&& 31)) &&& 255)) 14 ((p4 >>> (8 &&& 31)) &&& 255)) 15 ((p4 >>> (0 &&& 31)) &&& 255)) 16 ((p5 >>> (24 &&& 31)) &&& 255)) 17 ((p5 >>> (16 &&& 31)) &&& 255)) 18 ((p5 >>> (8 &&& 31)) &&& 255)) 19 ((p5 >>> (0 &&& 31)) &&& 255))))]) (fun (r9 : Int32) (u9 : Unit) => r9 = 20) := by
  refine fun sz => k_enter (cc := cX7_feed) (maxL := 6) (ret := some (.int)) (Qc := fun A => va_Qi (fun (r9 : Int32) (u9 : Unit) => r9 = 20) (fun u => k_B (dC, dI) vwCl (tyy cI cJ cZ cM) A ((fun (u9 : Unit) => [(p0, .inr (7, oM p6 (upd i7 1 20) j7)), ((p6 0), .inl (cI, 1800, .inl (upd (upd (upd (upd (upd (upd (upd (upd (upd (upd (upd (upd (upd (upd (upd (upd (upd (upd (upd (upd (fun _ => 0) 0 ((p1 >>> (24 &&& 31)) &&& 255)) 1 ((p1 >>> (16 &&& 31)) &&& 255)) 2 ((p1 >>> (8 &&& 31)) &&& 255)) 3 ((p1 >>> (0 &&& 31)) &&& 255)) 4 ((p2 >>> (24 &&& 31)) &&& 255)) 5 ((p2 >>> (16 &&& 31)) &&& 255)) 6 ((p2 >>> (8 &&& 31)) &&& 255)) 7 ((p2 >>> (0 &&& 31)) &&& 255)) 8 ((p3 >>> (24 &&& 31)) &&& 255)) 9 ((p3 >>> (16 &&& 31)) &&& 255)) 10 ((p3 >>> (8 &&& 31)) &&& 255)) 11 ((p3 >>> (0 &&& 31)) &&& 255)) 12 ((p4 >>> (24 &&& 31)) &&& 255)) 13 ((p4 >>> (16 &&& 31)) &&& 255)) 14 ((p4 >>> (8 &&& 31)) &&& 255)) 15 ((p4 >>> (0 &&& 31)) &&& 255)) 16 ((p5 >>> (24 &&& 31)) &&& 255)) 17 ((p5 >>> (16 &&& 31)) &&& 255)) 18 ((p5 >>> (8 &&& 31)) &&& 255)) 19 ((p5 >>> (0 &&& 31)) &&& 255))))]) u)) A) sz (by decide +kernel) rfl (Nat.le_of_ble_eq_true rfl) (fun p e s m args below meth c A ls H locs B hP hD hS hl => ?_)
  obtain ⟨hx, hb, hml, hown, hts, hr, hlk, hnm, hK, hA, hN, hC⟩ := id B
  have hown : s.vm.findClass RX7 = some m.cls := hown
  have hl : lv_has ls 6 [(0, .ref p0), (1, .int p1), (2, .int p2), (3, .int p3), (4, .int p4), (5, .int p5)] := hl
  have w_0 : (Cond.fieldLink RX7 13 "WishSeaModel" "taped" "I").before args s = true := hts _ (List.mem_of_getElem? (i := 1) rfl)
  have hinX7 : ∀ w ∈ u_ws RX7 TX7 92, w ∈ wsX7_feed := fun _ h => List.mem_cons_of_mem _ (List.mem_append_right _ h)
  refine lv_aload_n hx hb dX7_feed_0 rfl (lv_at hl 0 rfl) ?_
  refine k_get (D := (dC, dI)) (ci := 7) (v := .int 0) (C := RX7) (T := TX7) (N := 92) hx hb hts hinX7 hown hK hP 0 rfl rfl 1 (by decide) w_0 rfl rfl dX7_feed_1 ?_
  refine lv_bipush (v := 20) hx hb dX7_feed_4 (by decide +kernel) ?_
  refine lv_iadd hx hb dX7_feed_6 ?_
  refine k_int (v := 20) (by decide +kernel) ?_
  refine lv_sipush (v := 1600) hx hb dX7_feed_7 (by decide +kernel) ?_
  refine lv_icmp_le (tgt := 19) hx hb dX7_feed_10 (by decide) (fun _ => ?_) (fun q9 => absurd q9 (by decide +kernel))
  refine lv_aload_n hx hb dX7_feed_19 rfl (lv_at hl 0 rfl) ?_
  refine lv_iload_n hx hb dX7_feed_20 rfl (lv_at hl 1 rfl) ?_
  refine k_cv (wc := [(p0, .inr (7, oM p6 i7 j7)), ((p6 0), .inl (cI, 1800, .inl (fun _ => 0)))]) (wr := []) (fun hPc hDc hFc => va_runV (As := [.int p1]) (rest := []) ⟨hx, hb, hml, hown, hts⟩ (c_X7_put_v0 l dC dI cI cJ cZ cM p0 p1 p6 H.size) (cwV 1 hts gX7_feed_X7_put rfl rfl rfl (by decide +kernel) ⟨(Nat.le_of_ble_eq_true rfl), (Nat.le_of_ble_eq_true rfl)⟩) (k_pV hPc hDc hK hN hC hS hFc hP (q0 := 0) (ci := 7) rfl rfl) rfl rfl hl.1 rfl (lv_room (Nat.le_of_ble_eq_true rfl)) dX7_feed_21 ⟨(Nat.le_of_ble_eq_true rfl), (Nat.le_of_ble_eq_true rfl)⟩) hP hD hS hA [0, 1] [] rfl rfl rfl rfl (by decide) (fun _ => rfl) 0 0 rfl rfl (fun u_2 H locs hw hP hD hS => ?_)
  have hP : va_P (dC, dI) vwCl [(p0, .inr (7, oM p6 (upd i7 1 4) j7)), ((p6 0), .inl (cI, 1800, .inl (upd (upd (upd (upd (fun _ => 0) 0 ((p1 >>> (24 &&& 31)) &&& 255)) 1 ((p1 >>> (16 &&& 31)) &&& 255)) 2 ((p1 >>> (8 &&& 31)) &&& 255)) 3 ((p1 >>> (0 &&& 31)) &&& 255))))] H := hP
  have hD : va_D A [(p0, .inr (7, oM p6 (upd i7 1 4) j7)), ((p6 0), .inl (cI, 1800, .inl (upd (upd (upd (upd (fun _ => 0) 0 ((p1 >>> (24 &&& 31)) &&& 255)) 1 ((p1 >>> (16 &&& 31)) &&& 255)) 2 ((p1 >>> (8 &&& 31)) &&& 255)) 3 ((p1 >>> (0 &&& 31)) &&& 255))))] := hD
  generalize ey_3 : ((p1 >>> (24 &&& 31)) &&& 255) = y_3 at hP hD
  generalize ey_4 : ((p1 >>> (16 &&& 31)) &&& 255) = y_4 at hP hD
  generalize ey_5 : ((p1 >>> (8 &&& 31)) &&& 255) = y_5 at hP hD
  generalize ey_6 : ((p1 >>> (0 &&& 31)) &&& 255) = y_6 at hP hD
  refine lv_aload_n hx hb dX7_feed_24 rfl (lv_at hl 0 rfl) ?_
  refine lv_iload_n hx hb dX7_feed_25 rfl (lv_at hl 2 rfl) ?_
  refine k_cv (wc := [(p0, .inr (7, oM p6 (upd i7 1 4) j7)), ((p6 0), .inl (cI, 1800, .inl (upd (upd (upd (upd (fun _ => 0) 0 y_3) 1 y_4) 2 y_5) 3 y_6)))]) (wr := []) (fun hPc hDc hFc => va_runV (As := [.int p2]) (rest := []) ⟨hx, hb, hml, hown, hts⟩ (c_X7_put_v1 l dC dI cI cJ cZ cM p0 p2 p6 y_3 y_4 y_5 y_6 H.size) (cwV 1 hts gX7_feed_X7_put rfl rfl rfl (by decide +kernel) ⟨(Nat.le_of_ble_eq_true rfl), (Nat.le_of_ble_eq_true rfl)⟩) (k_pV hPc hDc hK hN hC hS hFc hP (q0 := 0) (ci := 7) rfl rfl) rfl rfl hl.1 rfl (lv_room (Nat.le_of_ble_eq_true rfl)) dX7_feed_26 ⟨(Nat.le_of_ble_eq_true rfl), (Nat.le_of_ble_eq_true rfl)⟩) hP hD hS hA [0, 1] [] rfl rfl rfl rfl (by decide) (fun _ => rfl) 0 0 rfl rfl (fun u_8 H locs hw hP hD hS => ?_)
  have hP : va_P (dC, dI) vwCl [(p0, .inr (7, oM p6 (upd i7 1 8) j7)), ((p6 0), .inl (cI, 1800, .inl (upd (upd (upd (upd (upd (upd (upd (upd (fun _ => 0) 0 y_3) 1 y_4) 2 y_5) 3 y_6) 4 ((p2 >>> (24 &&& 31)) &&& 255)) 5 ((p2 >>> (16 &&& 31)) &&& 255)) 6 ((p2 >>> (8 &&& 31)) &&& 255)) 7 ((p2 >>> (0 &&& 31)) &&& 255))))] H := hP
  have hD : va_D A [(p0, .inr (7, oM p6 (upd i7 1 8) j7)), ((p6 0), .inl (cI, 1800, .inl (upd (upd (upd (upd (upd (upd (upd (upd (fun _ => 0) 0 y_3) 1 y_4) 2 y_5) 3 y_6) 4 ((p2 >>> (24 &&& 31)) &&& 255)) 5 ((p2 >>> (16 &&& 31)) &&& 255)) 6 ((p2 >>> (8 &&& 31)) &&& 255)) 7 ((p2 >>> (0 &&& 31)) &&& 255))))] := hD
  generalize ey_9 : ((p2 >>> (24 &&& 31)) &&& 255) = y_9 at hP hD
  generalize ey_10 : ((p2 >>> (16 &&& 31)) &&& 255) = y_10 at hP hD
  generalize ey_11 : ((p2 >>> (8 &&& 31)) &&& 255) = y_11 at hP hD
  generalize ey_12 : ((p2 >>> (0 &&& 31)) &&& 255) = y_12 at hP hD
  refine lv_aload_n hx hb dX7_feed_29 rfl (lv_at hl 0 rfl) ?_
  refine lv_iload_n hx hb dX7_feed_30 rfl (lv_at hl 3 rfl) ?_
  refine k_cv (wc := [(p0, .inr (7, oM p6 (upd i7 1 8) j7)), ((p6 0), .inl (cI, 1800, .inl (upd (upd (upd (upd (upd (upd (upd (upd (fun _ => 0) 0 y_3) 1 y_4) 2 y_5) 3 y_6) 4 y_9) 5 y_10) 6 y_11) 7 y_12)))]) (wr := []) (fun hPc hDc hFc => va_runV (As := [.int p3]) (rest := []) ⟨hx, hb, hml, hown, hts⟩ (c_X7_put_v2 l dC dI cI cJ cZ cM p0 p3 p6 y_3 y_4 y_5 y_6 y_9 y_10 y_11 y_12 H.size) (cwV 1 hts gX7_feed_X7_put rfl rfl rfl (by decide +kernel) ⟨(Nat.le_of_ble_eq_true rfl), (Nat.le_of_ble_eq_true rfl)⟩) (k_pV hPc hDc hK hN hC hS hFc hP (q0 := 0) (ci := 7) rfl rfl) rfl rfl hl.1 rfl (lv_room (Nat.le_of_ble_eq_true rfl)) dX7_feed_31 ⟨(Nat.le_of_ble_eq_true rfl), (Nat.le_of_ble_eq_true rfl)⟩) hP hD hS hA [0, 1] [] rfl rfl rfl rfl (by decide) (fun _ => rfl) 0 0 rfl rfl (fun u_14 H locs hw hP hD hS => ?_)
  have hP : va_P (dC, dI) vwCl [(p0, .inr (7, oM p6 (upd i7 1 12) j7)), ((p6 0), .inl (cI, 1800, .inl (upd (upd (upd (upd (upd (upd (upd (upd (upd (upd (upd (upd (fun _ => 0) 0 y_3) 1 y_4) 2 y_5) 3 y_6) 4 y_9) 5 y_10) 6 y_11) 7 y_12) 8 ((p3 >>> (24 &&& 31)) &&& 255)) 9 ((p3 >>> (16 &&& 31)) &&& 255)) 10 ((p3 >>> (8 &&& 31)) &&& 255)) 11 ((p3 >>> (0 &&& 31)) &&& 255))))] H := hP
  have hD : va_D A [(p0, .inr (7, oM p6 (upd i7 1 12) j7)), ((p6 0), .inl (cI, 1800, .inl (upd (upd (upd (upd (upd (upd (upd (upd (upd (upd (upd (upd (fun _ => 0) 0 y_3) 1 y_4) 2 y_5) 3 y_6) 4 y_9) 5 y_10) 6 y_11) 7 y_12) 8 ((p3 >>> (24 &&& 31)) &&& 255)) 9 ((p3 >>> (16 &&& 31)) &&& 255)) 10 ((p3 >>> (8 &&& 31)) &&& 255)) 11 ((p3 >>> (0 &&& 31)) &&& 255))))] := hD
  generalize ey_15 : ((p3 >>> (24 &&& 31)) &&& 255) = y_15 at hP hD
  generalize ey_16 : ((p3 >>> (16 &&& 31)) &&& 255) = y_16 at hP hD
  generalize ey_17 : ((p3 >>> (8 &&& 31)) &&& 255) = y_17 at hP hD
  generalize ey_18 : ((p3 >>> (0 &&& 31)) &&& 255) = y_18 at hP hD
  refine lv_aload_n hx hb dX7_feed_34 rfl (lv_at hl 0 rfl) ?_
  refine lv_iload hx hb dX7_feed_35 (lv_at hl 4 rfl) ?_
  refine k_cv (wc := [(p0, .inr (7, oM p6 (upd i7 1 12) j7)), ((p6 0), .inl (cI, 1800, .inl (upd (upd (upd (upd (upd (upd (upd (upd (upd (upd (upd (upd (fun _ => 0) 0 y_3) 1 y_4) 2 y_5) 3 y_6) 4 y_9) 5 y_10) 6 y_11) 7 y_12) 8 y_15) 9 y_16) 10 y_17) 11 y_18)))]) (wr := []) (fun hPc hDc hFc => va_runV (As := [.int p4]) (rest := []) ⟨hx, hb, hml, hown, hts⟩ (c_X7_put_v3 l dC dI cI cJ cZ cM p0 p4 p6 y_3 y_4 y_5 y_6 y_9 y_10 y_11 y_12 y_15 y_16 y_17 y_18 H.size) (cwV 1 hts gX7_feed_X7_put rfl rfl rfl (by decide +kernel) ⟨(Nat.le_of_ble_eq_true rfl), (Nat.le_of_ble_eq_true rfl)⟩) (k_pV hPc hDc hK hN hC hS hFc hP (q0 := 0) (ci := 7) rfl rfl) rfl rfl hl.1 rfl (lv_room (Nat.le_of_ble_eq_true rfl)) dX7_feed_37 ⟨(Nat.le_of_ble_eq_true rfl), (Nat.le_of_ble_eq_true rfl)⟩) hP hD hS hA [0, 1] [] rfl rfl rfl rfl (by decide) (fun _ => rfl) 0 0 rfl rfl (fun u_20 H locs hw hP hD hS => ?_)
  have hP : va_P (dC, dI) vwCl [(p0, .inr (7, oM p6 (upd i7 1 16) j7)), ((p6 0), .inl (cI, 1800, .inl (upd (upd (upd (upd (upd (upd (upd (upd (upd (upd (upd (upd (upd (upd (upd (upd (fun _ => 0) 0 y_3) 1 y_4) 2 y_5) 3 y_6) 4 y_9) 5 y_10) 6 y_11) 7 y_12) 8 y_15) 9 y_16) 10 y_17) 11 y_18) 12 ((p4 >>> (24 &&& 31)) &&& 255)) 13 ((p4 >>> (16 &&& 31)) &&& 255)) 14 ((p4 >>> (8 &&& 31)) &&& 255)) 15 ((p4 >>> (0 &&& 31)) &&& 255))))] H := hP
  have hD : va_D A [(p0, .inr (7, oM p6 (upd i7 1 16) j7)), ((p6 0), .inl (cI, 1800, .inl (upd (upd (upd (upd (upd (upd (upd (upd (upd (upd (upd (upd (upd (upd (upd (upd (fun _ => 0) 0 y_3) 1 y_4) 2 y_5) 3 y_6) 4 y_9) 5 y_10) 6 y_11) 7 y_12) 8 y_15) 9 y_16) 10 y_17) 11 y_18) 12 ((p4 >>> (24 &&& 31)) &&& 255)) 13 ((p4 >>> (16 &&& 31)) &&& 255)) 14 ((p4 >>> (8 &&& 31)) &&& 255)) 15 ((p4 >>> (0 &&& 31)) &&& 255))))] := hD
  generalize ey_21 : ((p4 >>> (24 &&& 31)) &&& 255) = y_21 at hP hD
  generalize ey_22 : ((p4 >>> (16 &&& 31)) &&& 255) = y_22 at hP hD
  generalize ey_23 : ((p4 >>> (8 &&& 31)) &&& 255) = y_23 at hP hD
  generalize ey_24 : ((p4 >>> (0 &&& 31)) &&& 255) = y_24 at hP hD
  refine lv_aload_n hx hb dX7_feed_40 rfl (lv_at hl 0 rfl) ?_
  refine lv_iload hx hb dX7_feed_41 (lv_at hl 5 rfl) ?_
  refine k_cv (wc := [(p0, .inr (7, oM p6 (upd i7 1 16) j7)), ((p6 0), .inl (cI, 1800, .inl (upd (upd (upd (upd (upd (upd (upd (upd (upd (upd (upd (upd (upd (upd (upd (upd (fun _ => 0) 0 y_3) 1 y_4) 2 y_5) 3 y_6) 4 y_9) 5 y_10) 6 y_11) 7 y_12) 8 y_15) 9 y_16) 10 y_17) 11 y_18) 12 y_21) 13 y_22) 14 y_23) 15 y_24)))]) (wr := []) (fun hPc hDc hFc => va_runV (As := [.int p5]) (rest := []) ⟨hx, hb, hml, hown, hts⟩ (c_X7_put_v4 l dC dI cI cJ cZ cM p0 p5 p6 y_3 y_4 y_5 y_6 y_9 y_10 y_11 y_12 y_15 y_16 y_17 y_18 y_21 y_22 y_23 y_24 H.size) (cwV 1 hts gX7_feed_X7_put rfl rfl rfl (by decide +kernel) ⟨(Nat.le_of_ble_eq_true rfl), (Nat.le_of_ble_eq_true rfl)⟩) (k_pV hPc hDc hK hN hC hS hFc hP (q0 := 0) (ci := 7) rfl rfl) rfl rfl hl.1 rfl (lv_room (Nat.le_of_ble_eq_true rfl)) dX7_feed_43 ⟨(Nat.le_of_ble_eq_true rfl), (Nat.le_of_ble_eq_true rfl)⟩) hP hD hS hA [0, 1] [] rfl rfl rfl rfl (by decide) (fun _ => rfl) 0 0 rfl rfl (fun u_26 H locs hw hP hD hS => ?_)
  have hP : va_P (dC, dI) vwCl [(p0, .inr (7, oM p6 (upd i7 1 20) j7)), ((p6 0), .inl (cI, 1800, .inl (upd (upd (upd (upd (upd (upd (upd (upd (upd (upd (upd (upd (upd (upd (upd (upd (upd (upd (upd (upd (fun _ => 0) 0 y_3) 1 y_4) 2 y_5) 3 y_6) 4 y_9) 5 y_10) 6 y_11) 7 y_12) 8 y_15) 9 y_16) 10 y_17) 11 y_18) 12 y_21) 13 y_22) 14 y_23) 15 y_24) 16 ((p5 >>> (24 &&& 31)) &&& 255)) 17 ((p5 >>> (16 &&& 31)) &&& 255)) 18 ((p5 >>> (8 &&& 31)) &&& 255)) 19 ((p5 >>> (0 &&& 31)) &&& 255))))] H := hP
  have hD : va_D A [(p0, .inr (7, oM p6 (upd i7 1 20) j7)), ((p6 0), .inl (cI, 1800, .inl (upd (upd (upd (upd (upd (upd (upd (upd (upd (upd (upd (upd (upd (upd (upd (upd (upd (upd (upd (upd (fun _ => 0) 0 y_3) 1 y_4) 2 y_5) 3 y_6) 4 y_9) 5 y_10) 6 y_11) 7 y_12) 8 y_15) 9 y_16) 10 y_17) 11 y_18) 12 y_21) 13 y_22) 14 y_23) 15 y_24) 16 ((p5 >>> (24 &&& 31)) &&& 255)) 17 ((p5 >>> (16 &&& 31)) &&& 255)) 18 ((p5 >>> (8 &&& 31)) &&& 255)) 19 ((p5 >>> (0 &&& 31)) &&& 255))))] := hD
  generalize ey_27 : ((p5 >>> (24 &&& 31)) &&& 255) = y_27 at hP hD
  generalize ey_28 : ((p5 >>> (16 &&& 31)) &&& 255) = y_28 at hP hD
  generalize ey_29 : ((p5 >>> (8 &&& 31)) &&& 255) = y_29 at hP hD
  generalize ey_30 : ((p5 >>> (0 &&& 31)) &&& 255) = y_30 at hP hD
  refine lv_aload_n hx hb dX7_feed_46 rfl (lv_at hl 0 rfl) ?_
  refine k_get (D := (dC, dI)) (ci := 7) (v := .int 20) (C := RX7) (T := TX7) (N := 92) hx hb hts hinX7 hown hK hP 0 rfl rfl 1 (by decide) w_0 rfl rfl dX7_feed_47 ?_
  subst ey_30
  subst ey_29
  subst ey_28
  subst ey_27
  subst ey_24
  subst ey_23
  subst ey_22
  subst ey_21
  subst ey_18
  subst ey_17
  subst ey_16
  subst ey_15
  subst ey_12
  subst ey_11
  subst ey_10
  subst ey_9
  subst ey_6
  subst ey_5
  subst ey_4
  subst ey_3
  exact k_ri B hP hD hS dX7_feed_50 () [0, 1] rfl rfl rfl (Nat.le_of_ble_eq_true rfl) (Nat.le_of_ble_eq_true rfl) rfl
set_option maxHeartbeats 4000000 in
set_option maxRecDepth 100000 in
theorem c_X6_refuse_v0 (l : Launch) (dC : Nat → ClassId) (dI : Nat → Nat → Nat) (cI cJ cZ cM : ClassId) (p0 : Nat) (p1 : Nat → Nat)   : k_Mi l yX6_refuse wsX6_refuse ({ frames := 1, cells := 0, slots := 0, locals := 40 }) (dC, dI) vwCl (tyy cI cJ cZ cM) [(p0, .inr (6, [.ref (p1 0), .int 0, .ref (p1 1), .ref (p1 14), .ref (p1 27), .ref (p1 28), .ref (p1 29), .ref (p1 30), .ref (p1 54), .null, .int 1, .int 1, .int 999, .ref (p1 61), .ref (p1 62), .ref (p1 63), .ref (p1 60)])), ((p1 60), .inl (cI, 6, .inl (fun _ => 0)))] [.ref p0, .int 0] 0 0 (fun (u9 : Unit) => [(p0, .inr (6, [.ref (p1 0), .int 0, .ref (p1 1), .ref (p1 14), .ref (p1 27), .ref (p1 28), .ref (p1 29), .ref (p1 30), .ref (p1 54), .null, .int 1, .int 1, .int 999, .ref (p1 61), .ref (p1 62), .ref (p1 63), .ref (p1 60)])), ((p1 60), .inl (cI, 6, .inl (upd (fun _ => 0) 0 1)))]) (fun (r9 : Int32) (u9 : Unit) => r9 = (-1)) := by
  refine fun sz => k_enter (cc := cX6_refuse) (maxL := 2) (ret := some (.int)) (Qc := fun A => va_Qi (fun (r9 : Int32) (u9 : Unit) => r9 = (-1)) (fun u => k_B (dC, dI) vwCl (tyy cI cJ cZ cM) A ((fun (u9 : Unit) => [(p0, .inr (6, [.ref (p1 0), .int 0, .ref (p1 1), .ref (p1 14), .ref (p1 27), .ref (p1 28), .ref (p1 29), .ref (p1 30), .ref (p1 54), .null, .int 1, .int 1, .int 999, .ref (p1 61), .ref (p1 62), .ref (p1 63), .ref (p1 60)])), ((p1 60), .inl (cI, 6, .inl (upd (fun _ => 0) 0 1)))]) u)) A) sz (by decide +kernel) rfl (Nat.le_of_ble_eq_true rfl) (fun p e s m args below meth c A ls H locs B hP hD hS hl => ?_)
  obtain ⟨hx, hb, hml, hown, hts, hr, hlk, hnm, hK, hA, hN, hC⟩ := id B
  have hown : s.vm.findClass RX6 = some m.cls := hown
  have hl : lv_has ls 2 [(0, .ref p0), (1, .int 0)] := hl
  have w_0 : (Cond.fieldLink RX6 78 "WishSea" "refused" "[I").before args s = true := hts _ (List.mem_of_getElem? (i := 1) rfl)
  have hinX6 : ∀ w ∈ u_ws RX6 TX6 17, w ∈ wsX6_refuse := fun _ h => List.mem_cons_of_mem _ (List.mem_append_right _ h)
  refine lv_iload_n hx hb dX6_refuse_0 rfl (lv_at hl 1 rfl) ?_
  refine lv_if_lt (tgt := 23) hx hb dX6_refuse_1 (by decide) (fun q9 => absurd q9 (by decide +kernel)) (fun _ => ?_)
  refine lv_iload_n hx hb dX6_refuse_4 rfl (lv_at hl 1 rfl) ?_
  refine lv_aload_n hx hb dX6_refuse_5 rfl (lv_at hl 0 rfl) ?_
  refine k_get (D := (dC, dI)) (ci := 6) (v := .ref (p1 60)) (C := RX6) (T := TX6) (N := 17) hx hb hts hinX6 hown hK hP 0 rfl rfl 16 (by decide) w_0 rfl rfl dX6_refuse_6 ?_
  refine va_alen (v := 6) hx hb hK hP 1 0 rfl rfl rfl dX6_refuse_9 ?_
  refine lv_icmp_ge (tgt := 23) hx hb dX6_refuse_10 (by decide) (fun q9 => absurd q9 (by decide +kernel)) (fun _ => ?_)
  refine lv_aload_n hx hb dX6_refuse_13 rfl (lv_at hl 0 rfl) ?_
  refine k_get (D := (dC, dI)) (ci := 6) (v := .ref (p1 60)) (C := RX6) (T := TX6) (N := 17) hx hb hts hinX6 hown hK hP 0 rfl rfl 16 (by decide) w_0 rfl rfl dX6_refuse_14 ?_
  refine lv_iload_n hx hb dX6_refuse_17 rfl (lv_at hl 1 rfl) ?_
  refine lv_dup2_11 hx hb dX6_refuse_18 rfl rfl ?_
  refine k_iald (v := 0) hx hb hK hP 1 0 0 rfl rfl rfl (Nat.le_of_ble_eq_true rfl) (Nat.le_of_ble_eq_true rfl) rfl dX6_refuse_19 ?_
  refine lv_iconst (v := 1) hx hb dX6_refuse_20 (by decide +kernel) ?_
  refine lv_iadd hx hb dX6_refuse_21 ?_
  refine k_int (v := 1) (by decide +kernel) ?_
  refine k_iast (g := (upd (fun _ => 0) 0 1)) (ws' := [(p0, .inr (6, [.ref (p1 0), .int 0, .ref (p1 1), .ref (p1 14), .ref (p1 27), .ref (p1 28), .ref (p1 29), .ref (p1 30), .ref (p1 54), .null, .int 1, .int 1, .int 999, .ref (p1 61), .ref (p1 62), .ref (p1 63), .ref (p1 60)])), ((p1 60), .inl (cI, 6, .inl (upd (fun _ => 0) 0 1)))]) hx hb hK hP hD hS 1 0 0 rfl rfl rfl (Nat.le_of_ble_eq_true rfl) (Nat.le_of_ble_eq_true rfl) rfl rfl dX6_refuse_22 (fun H locs hP hD hS => ?_)
  refine lv_iconst (v := (-1)) hx hb dX6_refuse_23 (by decide +kernel) ?_
  exact k_ri B hP hD hS dX6_refuse_24 () [0, 1] rfl rfl rfl (Nat.le_of_ble_eq_true rfl) (Nat.le_of_ble_eq_true rfl) rfl
set_option maxHeartbeats 4000000 in
set_option maxRecDepth 100000 in
theorem c_X6_end_v0 (l : Launch) (dC : Nat → ClassId) (dI : Nat → Nat → Nat) (cI cJ cZ cM : ClassId) (p0 : Nat) (p1 : Int32) (p2 : Nat → Nat)   : k_Mi l yX6_end wsX6_end ({ frames := 2, cells := 0, slots := 0, locals := 61 }) (dC, dI) vwCl (tyy cI cJ cZ cM) [(p0, .inr (6, [.ref (p2 0), .int 0, .ref (p2 1), .ref (p2 14), .ref (p2 27), .ref (p2 28), .ref (p2 29), .ref (p2 30), .ref (p2 54), .null, .int 1, .int 1, .int 999, .ref (p2 61), .ref (p2 62), .ref (p2 63), .ref (p2 60)])), ((p2 60), .inl (cI, 6, .inl (fun _ => 0)))] [.ref p0, .int p1] 0 0 (fun (u9 : (Nat × (Nat → Nat))) => match u9.1 with | 0 => [(p0, .inr (6, [.ref (p2 0), .int 0, .ref (p2 1), .ref (p2 14), .ref (p2 27), .ref (p2 28), .ref (p2 29), .ref (p2 30), .ref (p2 54), .null, .int 1, .int 1, .int 999, .ref (p2 61), .ref (p2 62), .ref (p2 63), .ref (p2 60)])), ((p2 60), .inl (cI, 6, .inl (upd (fun _ => 0) 0 1)))] | 1 => [(p0, .inr (6, [.ref (p2 0), .int p1, .ref (p2 1), .ref (p2 14), .ref (p2 27), .ref (p2 28), .ref (p2 29), .ref (p2 30), .ref (p2 54), .null, .int 1, .int 1, .int 999, .ref (p2 61), .ref (p2 62), .ref (p2 63), .ref (p2 60)])), ((p2 60), .inl (cI, 6, .inl (fun _ => 0)))] | 2 => [(p0, .inr (6, [.ref (p2 0), .int 0, .ref (p2 1), .ref (p2 14), .ref (p2 27), .ref (p2 28), .ref (p2 29), .ref (p2 30), .ref (p2 54), .null, .int 1, .int 1, .int 999, .ref (p2 61), .ref (p2 62), .ref (p2 63), .ref (p2 60)])), ((p2 60), .inl (cI, 6, .inl (upd (fun _ => 0) 0 1)))] | _ => []) (fun (r9 : Int32) (u9 : (Nat × (Nat → Nat))) => match u9.1 with | 0 => (p1.toInt < 0) ∧ r9 = 0 | 1 => (0 ≤ p1.toInt) ∧ (p1.toInt ≤ 0) ∧ r9 = 1 | 2 => (0 ≤ p1.toInt) ∧ (0 < p1.toInt) ∧ r9 = 0 | _ => False) := by
  refine fun sz => k_enter (cc := cX6_end) (maxL := 2) (ret := some (.boolean)) (Qc := fun A => va_Qi (fun (r9 : Int32) (u9 : (Nat × (Nat → Nat))) => match u9.1 with | 0 => (p1.toInt < 0) ∧ r9 = 0 | 1 => (0 ≤ p1.toInt) ∧ (p1.toInt ≤ 0) ∧ r9 = 1 | 2 => (0 ≤ p1.toInt) ∧ (0 < p1.toInt) ∧ r9 = 0 | _ => False) (fun u => k_B (dC, dI) vwCl (tyy cI cJ cZ cM) A ((fun (u9 : (Nat × (Nat → Nat))) => match u9.1 with | 0 => [(p0, .inr (6, [.ref (p2 0), .int 0, .ref (p2 1), .ref (p2 14), .ref (p2 27), .ref (p2 28), .ref (p2 29), .ref (p2 30), .ref (p2 54), .null, .int 1, .int 1, .int 999, .ref (p2 61), .ref (p2 62), .ref (p2 63), .ref (p2 60)])), ((p2 60), .inl (cI, 6, .inl (upd (fun _ => 0) 0 1)))] | 1 => [(p0, .inr (6, [.ref (p2 0), .int p1, .ref (p2 1), .ref (p2 14), .ref (p2 27), .ref (p2 28), .ref (p2 29), .ref (p2 30), .ref (p2 54), .null, .int 1, .int 1, .int 999, .ref (p2 61), .ref (p2 62), .ref (p2 63), .ref (p2 60)])), ((p2 60), .inl (cI, 6, .inl (fun _ => 0)))] | 2 => [(p0, .inr (6, [.ref (p2 0), .int 0, .ref (p2 1), .ref (p2 14), .ref (p2 27), .ref (p2 28), .ref (p2 29), .ref (p2 30), .ref (p2 54), .null, .int 1, .int 1, .int 999, .ref (p2 61), .ref (p2 62), .ref (p2 63), .ref (p2 60)])), ((p2 60), .inl (cI, 6, .inl (upd (fun _ => 0) 0 1)))] | _ => []) u)) A) sz (by decide +kernel) rfl (Nat.le_of_ble_eq_true rfl) (fun p e s m args below meth c A ls H locs B hP hD hS hl => ?_)
  obtain ⟨hx, hb, hml, hown, hts, hr, hlk, hnm, hK, hA, hN, hC⟩ := id B
  have hown : s.vm.findClass RX6 = some m.cls := hown
  have hl : lv_has ls 2 [(0, .ref p0), (1, .int p1)] := hl
  have w_0 : (Cond.fieldLink RX6 92 "WishSea" "tapeLength" "I").before args s = true := hts _ (List.mem_of_getElem? (i := 1) rfl)
  have hinX6 : ∀ w ∈ u_ws RX6 TX6 17, w ∈ wsX6_end := fun _ h => List.mem_cons_of_mem _ (List.mem_append_right _ h)
  refine lv_iload_n hx hb dX6_end_0 rfl (lv_at hl 1 rfl) ?_
  refine lv_if_lt (tgt := 12) hx hb dX6_end_1 (by decide) (fun c_1 => ?_) (fun c_1 => ?_)
  · have c_1 : p1.toInt < 0 := k_ltT rfl (by decide +kernel) c_1
    refine lv_aload_n hx hb dX6_end_12 rfl (lv_at hl 0 rfl) ?_
    refine lv_iconst (v := 0) hx hb dX6_end_13 (by decide +kernel) ?_
    refine k_ci (wc := [(p0, .inr (6, [.ref (p2 0), .int 0, .ref (p2 1), .ref (p2 14), .ref (p2 27), .ref (p2 28), .ref (p2 29), .ref (p2 30), .ref (p2 54), .null, .int 1, .int 1, .int 999, .ref (p2 61), .ref (p2 62), .ref (p2 63), .ref (p2 60)])), ((p2 60), .inl (cI, 6, .inl (fun _ => 0)))]) (wr := []) (fun hPc hDc hFc => va_runV (As := [.int 0]) (rest := []) ⟨hx, hb, hml, hown, hts⟩ (c_X6_refuse_v0 l dC dI cI cJ cZ cM p0 p2 H.size) (cwV 1 hts gX6_end_X6_refuse rfl rfl rfl (by decide +kernel) ⟨(Nat.le_of_ble_eq_true rfl), (Nat.le_of_ble_eq_true rfl)⟩) (k_pV hPc hDc hK hN hC hS hFc hP (q0 := 0) (ci := 6) rfl rfl) rfl rfl hl.1 rfl (lv_room (Nat.le_of_ble_eq_true rfl)) dX6_end_14 ⟨(Nat.le_of_ble_eq_true rfl), (Nat.le_of_ble_eq_true rfl)⟩) hP hD hS hA [0, 1] [] rfl rfl rfl rfl (by decide) (fun _ => rfl) 0 0 rfl rfl (fun r_2 u_3 H locs hw hP hD hS => ?_)
    obtain rfl : r_2 = (-1) := hw
    have hP : va_P (dC, dI) vwCl [(p0, .inr (6, [.ref (p2 0), .int 0, .ref (p2 1), .ref (p2 14), .ref (p2 27), .ref (p2 28), .ref (p2 29), .ref (p2 30), .ref (p2 54), .null, .int 1, .int 1, .int 999, .ref (p2 61), .ref (p2 62), .ref (p2 63), .ref (p2 60)])), ((p2 60), .inl (cI, 6, .inl (upd (fun _ => 0) 0 1)))] H := hP
    have hD : va_D A [(p0, .inr (6, [.ref (p2 0), .int 0, .ref (p2 1), .ref (p2 14), .ref (p2 27), .ref (p2 28), .ref (p2 29), .ref (p2 30), .ref (p2 54), .null, .int 1, .int 1, .int 999, .ref (p2 61), .ref (p2 62), .ref (p2 63), .ref (p2 60)])), ((p2 60), .inl (cI, 6, .inl (upd (fun _ => 0) 0 1)))] := hD
    refine lv_pop hx hb dX6_end_17 rfl ?_
    refine lv_iconst (v := 0) hx hb dX6_end_18 (by decide +kernel) ?_
    exact k_ri B hP hD hS dX6_end_19 (0, (fun _ => 0)) [0, 1] rfl rfl rfl (Nat.le_of_ble_eq_true rfl) (Nat.le_of_ble_eq_true rfl) ⟨c_1, rfl⟩
  · have c_1 : 0 ≤ p1.toInt := k_ltF rfl (by decide +kernel) c_1
    refine lv_iload_n hx hb dX6_end_4 rfl (lv_at hl 1 rfl) ?_
    refine lv_aload_n hx hb dX6_end_5 rfl (lv_at hl 0 rfl) ?_
    refine k_get (D := (dC, dI)) (ci := 6) (v := .int 0) (C := RX6) (T := TX6) (N := 17) hx hb hts hinX6 hown hK hP 0 rfl rfl 1 (by decide) w_0 rfl rfl dX6_end_6 ?_
    refine lv_icmp_le (tgt := 20) hx hb dX6_end_9 (by decide) (fun c_4 => ?_) (fun c_4 => ?_)
    · have c_4 : p1.toInt ≤ 0 := k_leT rfl (by decide +kernel) c_4
      refine lv_aload_n hx hb dX6_end_20 rfl (lv_at hl 0 rfl) ?_
      refine lv_iload_n hx hb dX6_end_21 rfl (lv_at hl 1 rfl) ?_
      refine k_put (D := (dC, dI)) (ci := 6) (v := .int p1) (C := RX6) (T := TX6) (N := 17) (ws' := [(p0, .inr (6, [.ref (p2 0), .int p1, .ref (p2 1), .ref (p2 14), .ref (p2 27), .ref (p2 28), .ref (p2 29), .ref (p2 30), .ref (p2 54), .null, .int 1, .int 1, .int 999, .ref (p2 61), .ref (p2 62), .ref (p2 63), .ref (p2 60)])), ((p2 60), .inl (cI, 6, .inl (fun _ => 0)))]) hx hb hts hinX6 tyX6 tyX6_ok nmX6 hown hK hP hD hS 0 rfl rfl 1 (by decide) w_0 rfl rfl rfl rfl (Nat.le_of_ble_eq_true rfl) rfl dX6_end_22 (fun H locs hP hD hS => ?_)
      refine lv_iconst (v := 1) hx hb dX6_end_25 (by decide +kernel) ?_
      exact k_ri B hP hD hS dX6_end_26 (1, (fun _ => 0)) [0, 1] rfl rfl rfl (Nat.le_of_ble_eq_true rfl) (Nat.le_of_ble_eq_true rfl) ⟨c_1, c_4, rfl⟩
    · have c_4 : 0 < p1.toInt := k_leF rfl (by decide +kernel) c_4
      refine lv_aload_n hx hb dX6_end_12 rfl (lv_at hl 0 rfl) ?_
      refine lv_iconst (v := 0) hx hb dX6_end_13 (by decide +kernel) ?_
      refine k_ci (wc := [(p0, .inr (6, [.ref (p2 0), .int 0, .ref (p2 1), .ref (p2 14), .ref (p2 27), .ref (p2 28), .ref (p2 29), .ref (p2 30), .ref (p2 54), .null, .int 1, .int 1, .int 999, .ref (p2 61), .ref (p2 62), .ref (p2 63), .ref (p2 60)])), ((p2 60), .inl (cI, 6, .inl (fun _ => 0)))]) (wr := []) (fun hPc hDc hFc => va_runV (As := [.int 0]) (rest := []) ⟨hx, hb, hml, hown, hts⟩ (c_X6_refuse_v0 l dC dI cI cJ cZ cM p0 p2 H.size) (cwV 1 hts gX6_end_X6_refuse rfl rfl rfl (by decide +kernel) ⟨(Nat.le_of_ble_eq_true rfl), (Nat.le_of_ble_eq_true rfl)⟩) (k_pV hPc hDc hK hN hC hS hFc hP (q0 := 0) (ci := 6) rfl rfl) rfl rfl hl.1 rfl (lv_room (Nat.le_of_ble_eq_true rfl)) dX6_end_14 ⟨(Nat.le_of_ble_eq_true rfl), (Nat.le_of_ble_eq_true rfl)⟩) hP hD hS hA [0, 1] [] rfl rfl rfl rfl (by decide) (fun _ => rfl) 0 0 rfl rfl (fun r_5 u_6 H locs hw hP hD hS => ?_)
      obtain rfl : r_5 = (-1) := hw
      have hP : va_P (dC, dI) vwCl [(p0, .inr (6, [.ref (p2 0), .int 0, .ref (p2 1), .ref (p2 14), .ref (p2 27), .ref (p2 28), .ref (p2 29), .ref (p2 30), .ref (p2 54), .null, .int 1, .int 1, .int 999, .ref (p2 61), .ref (p2 62), .ref (p2 63), .ref (p2 60)])), ((p2 60), .inl (cI, 6, .inl (upd (fun _ => 0) 0 1)))] H := hP
      have hD : va_D A [(p0, .inr (6, [.ref (p2 0), .int 0, .ref (p2 1), .ref (p2 14), .ref (p2 27), .ref (p2 28), .ref (p2 29), .ref (p2 30), .ref (p2 54), .null, .int 1, .int 1, .int 999, .ref (p2 61), .ref (p2 62), .ref (p2 63), .ref (p2 60)])), ((p2 60), .inl (cI, 6, .inl (upd (fun _ => 0) 0 1)))] := hD
      refine lv_pop hx hb dX6_end_17 rfl ?_
      refine lv_iconst (v := 0) hx hb dX6_end_18 (by decide +kernel) ?_
      exact k_ri B hP hD hS dX6_end_19 (2, (fun _ => 0)) [0, 1] rfl rfl rfl (Nat.le_of_ble_eq_true rfl) (Nat.le_of_ble_eq_true rfl) ⟨c_1, c_4, rfl⟩
set_option maxHeartbeats 4000000 in
set_option maxRecDepth 100000 in
theorem c_X7_refuses_v0 (l : Launch) (dC : Nat → ClassId) (dI : Nat → Nat → Nat) (cI cJ cZ cM : ClassId) (p0 : Nat) (p1 : Nat → Nat)   : k_Mi l yX7_refuses wsX7_refuses ({ frames := 1, cells := 0, slots := 0, locals := 40 }) (dC, dI) vwCl (tyy cI cJ cZ cM) [(p0, .inr (7, oM p1 i7 j7)), ((p1 48), .inl (cI, 6, .inl (fun _ => 0)))] [.ref p0, .int 0] 0 0 (fun (u9 : Unit) => [(p0, .inr (7, oM p1 i7 j7)), ((p1 48), .inl (cI, 6, .inl (upd (fun _ => 0) 0 1)))]) (fun (r9 : Int32) (u9 : Unit) => r9 = (-1)) := by
  refine fun sz => k_enter (cc := cX7_refuses) (maxL := 2) (ret := some (.int)) (Qc := fun A => va_Qi (fun (r9 : Int32) (u9 : Unit) => r9 = (-1)) (fun u => k_B (dC, dI) vwCl (tyy cI cJ cZ cM) A ((fun (u9 : Unit) => [(p0, .inr (7, oM p1 i7 j7)), ((p1 48), .inl (cI, 6, .inl (upd (fun _ => 0) 0 1)))]) u)) A) sz (by decide +kernel) rfl (Nat.le_of_ble_eq_true rfl) (fun p e s m args below meth c A ls H locs B hP hD hS hl => ?_)
  obtain ⟨hx, hb, hml, hown, hts, hr, hlk, hnm, hK, hA, hN, hC⟩ := id B
  have hown : s.vm.findClass RX7 = some m.cls := hown
  have hl : lv_has ls 2 [(0, .ref p0), (1, .int 0)] := hl
  have w_0 : (Cond.fieldLink RX7 159 "WishSeaModel" "refused" "[I").before args s = true := hts _ (List.mem_of_getElem? (i := 1) rfl)
  have hinX7 : ∀ w ∈ u_ws RX7 TX7 92, w ∈ wsX7_refuses := fun _ h => List.mem_cons_of_mem _ (List.mem_append_right _ h)
  refine lv_aload_n hx hb dX7_refuses_0 rfl (lv_at hl 0 rfl) ?_
  refine k_get (D := (dC, dI)) (ci := 7) (v := .ref (p1 48)) (C := RX7) (T := TX7) (N := 92) hx hb hts hinX7 hown hK hP 0 rfl rfl 48 (by decide) w_0 rfl rfl dX7_refuses_1 ?_
  refine lv_iload_n hx hb dX7_refuses_4 rfl (lv_at hl 1 rfl) ?_
  refine lv_dup2_11 hx hb dX7_refuses_5 rfl rfl ?_
  refine k_iald (v := 0) hx hb hK hP 1 0 0 rfl rfl rfl (Nat.le_of_ble_eq_true rfl) (Nat.le_of_ble_eq_true rfl) rfl dX7_refuses_6 ?_
  refine lv_iconst (v := 1) hx hb dX7_refuses_7 (by decide +kernel) ?_
  refine lv_iadd hx hb dX7_refuses_8 ?_
  refine k_int (v := 1) (by decide +kernel) ?_
  refine k_iast (g := (upd (fun _ => 0) 0 1)) (ws' := [(p0, .inr (7, oM p1 i7 j7)), ((p1 48), .inl (cI, 6, .inl (upd (fun _ => 0) 0 1)))]) hx hb hK hP hD hS 1 0 0 rfl rfl rfl (Nat.le_of_ble_eq_true rfl) (Nat.le_of_ble_eq_true rfl) rfl rfl dX7_refuses_9 (fun H locs hP hD hS => ?_)
  refine lv_iconst (v := (-1)) hx hb dX7_refuses_10 (by decide +kernel) ?_
  exact k_ri B hP hD hS dX7_refuses_11 () [0, 1] rfl rfl rfl (Nat.le_of_ble_eq_true rfl) (Nat.le_of_ble_eq_true rfl) rfl
set_option maxHeartbeats 4000000 in
set_option maxRecDepth 100000 in
theorem c_X7_end_v0 (l : Launch) (dC : Nat → ClassId) (dI : Nat → Nat → Nat) (cI cJ cZ cM : ClassId) (p0 : Nat) (p1 : Int32) (p2 : Nat → Nat) (b_0 : -2147483648 ≤ p1.toInt) (t_0 : p1.toInt ≤ -1)  : k_Mi l yX7_end wsX7_end ({ frames := 2, cells := 0, slots := 0, locals := 61 }) (dC, dI) vwCl (tyy cI cJ cZ cM) [(p0, .inr (7, oM p2 i7 j7)), ((p2 48), .inl (cI, 6, .inl (fun _ => 0)))] [.ref p0, .int p1] 0 0 (fun (u9 : Unit) => [(p0, .inr (7, oM p2 i7 j7)), ((p2 48), .inl (cI, 6, .inl (upd (fun _ => 0) 0 1)))]) (fun (r9 : Int32) (u9 : Unit) => r9 = 0) := by
  refine fun sz => k_enter (cc := cX7_end) (maxL := 2) (ret := some (.boolean)) (Qc := fun A => va_Qi (fun (r9 : Int32) (u9 : Unit) => r9 = 0) (fun u => k_B (dC, dI) vwCl (tyy cI cJ cZ cM) A ((fun (u9 : Unit) => [(p0, .inr (7, oM p2 i7 j7)), ((p2 48), .inl (cI, 6, .inl (upd (fun _ => 0) 0 1)))]) u)) A) sz (by decide +kernel) rfl (Nat.le_of_ble_eq_true rfl) (fun p e s m args below meth c A ls H locs B hP hD hS hl => ?_)
  obtain ⟨hx, hb, hml, hown, hts, hr, hlk, hnm, hK, hA, hN, hC⟩ := id B
  have hown : s.vm.findClass RX7 = some m.cls := hown
  have hl : lv_has ls 2 [(0, .ref p0), (1, .int p1)] := hl
  refine lv_iload_n hx hb dX7_end_0 rfl (lv_at hl 1 rfl) ?_
  refine lv_if_lt (tgt := 12) hx hb dX7_end_1 (by decide) (fun c_1 => ?_) (fun c_1 => ?_)
  · have c_1 : p1.toInt < 0 := k_ltT rfl (by decide +kernel) c_1
    refine lv_aload_n hx hb dX7_end_12 rfl (lv_at hl 0 rfl) ?_
    refine lv_iconst (v := 0) hx hb dX7_end_13 (by decide +kernel) ?_
    refine k_ci (wc := [(p0, .inr (7, oM p2 i7 j7)), ((p2 48), .inl (cI, 6, .inl (fun _ => 0)))]) (wr := []) (fun hPc hDc hFc => va_runV (As := [.int 0]) (rest := []) ⟨hx, hb, hml, hown, hts⟩ (c_X7_refuses_v0 l dC dI cI cJ cZ cM p0 p2 H.size) (cwV 1 hts gX7_end_X7_refuses rfl rfl rfl (by decide +kernel) ⟨(Nat.le_of_ble_eq_true rfl), (Nat.le_of_ble_eq_true rfl)⟩) (k_pV hPc hDc hK hN hC hS hFc hP (q0 := 0) (ci := 7) rfl rfl) rfl rfl hl.1 rfl (lv_room (Nat.le_of_ble_eq_true rfl)) dX7_end_14 ⟨(Nat.le_of_ble_eq_true rfl), (Nat.le_of_ble_eq_true rfl)⟩) hP hD hS hA [0, 1] [] rfl rfl rfl rfl (by decide) (fun _ => rfl) 0 0 rfl rfl (fun r_2 u_3 H locs hw hP hD hS => ?_)
    obtain rfl : r_2 = (-1) := hw
    have hP : va_P (dC, dI) vwCl [(p0, .inr (7, oM p2 i7 j7)), ((p2 48), .inl (cI, 6, .inl (upd (fun _ => 0) 0 1)))] H := hP
    have hD : va_D A [(p0, .inr (7, oM p2 i7 j7)), ((p2 48), .inl (cI, 6, .inl (upd (fun _ => 0) 0 1)))] := hD
    refine lv_if_lt (tgt := 24) hx hb dX7_end_17 (by decide) (fun _ => ?_) (fun q9 => absurd q9 (by decide +kernel))
    refine lv_iconst (v := 0) hx hb dX7_end_24 (by decide +kernel) ?_
    exact k_ri B hP hD hS dX7_end_25 () [0, 1] rfl rfl rfl (Nat.le_of_ble_eq_true rfl) (Nat.le_of_ble_eq_true rfl) rfl
  · have c_1 : 0 ≤ p1.toInt := k_ltF rfl (by decide +kernel) c_1
    exfalso; omega
set_option maxHeartbeats 4000000 in
set_option maxRecDepth 100000 in
theorem c_X7_end_v1 (l : Launch) (dC : Nat → ClassId) (dI : Nat → Nat → Nat) (cI cJ cZ cM : ClassId) (p0 : Nat) (p1 : Int32) (p2 : Nat → Nat) (b_0 : 0 ≤ p1.toInt) (t_0 : p1.toInt ≤ 0)  : k_Mi l yX7_end wsX7_end ({ frames := 1, cells := 0, slots := 0, locals := 40 }) (dC, dI) vwCl (tyy cI cJ cZ cM) [(p0, .inr (7, oM p2 i7 j7))] [.ref p0, .int p1] 0 0 (fun (u9 : Unit) => [(p0, .inr (7, oM p2 (upd i7 1 0) j7))]) (fun (r9 : Int32) (u9 : Unit) => r9 = 1) := by
  refine fun sz => k_enter (cc := cX7_end) (maxL := 2) (ret := some (.boolean)) (Qc := fun A => va_Qi (fun (r9 : Int32) (u9 : Unit) => r9 = 1) (fun u => k_B (dC, dI) vwCl (tyy cI cJ cZ cM) A ((fun (u9 : Unit) => [(p0, .inr (7, oM p2 (upd i7 1 0) j7))]) u)) A) sz (by decide +kernel) rfl (Nat.le_of_ble_eq_true rfl) (fun p e s m args below meth c A ls H locs B hP hD hS hl => ?_)
  obtain ⟨hx, hb, hml, hown, hts, hr, hlk, hnm, hK, hA, hN, hC⟩ := id B
  have hown : s.vm.findClass RX7 = some m.cls := hown
  have hl : lv_has ls 2 [(0, .ref p0), (1, .int p1)] := hl
  have w_0 : (Cond.fieldLink RX7 13 "WishSeaModel" "taped" "I").before args s = true := hts _ (List.mem_of_getElem? (i := 1) rfl)
  have hinX7 : ∀ w ∈ u_ws RX7 TX7 92, w ∈ wsX7_end := fun _ h => List.mem_cons_of_mem _ (List.mem_append_right _ h)
  rcases (show p1.toInt = 0 by omega) with c_1
  obtain rfl : p1 = 0 := k_eqL (by decide +kernel) c_1
  refine lv_iload_n hx hb dX7_end_0 rfl (lv_at hl 1 rfl) ?_
  refine lv_if_lt (tgt := 12) hx hb dX7_end_1 (by decide) (fun q9 => absurd q9 (by decide +kernel)) (fun _ => ?_)
  refine lv_iload_n hx hb dX7_end_4 rfl (lv_at hl 1 rfl) ?_
  refine lv_aload_n hx hb dX7_end_5 rfl (lv_at hl 0 rfl) ?_
  refine k_get (D := (dC, dI)) (ci := 7) (v := .int 0) (C := RX7) (T := TX7) (N := 92) hx hb hts hinX7 hown hK hP 0 rfl rfl 1 (by decide) w_0 rfl rfl dX7_end_6 ?_
  refine lv_icmp_le (tgt := 26) hx hb dX7_end_9 (by decide) (fun _ => ?_) (fun q9 => absurd q9 (by decide +kernel))
  refine lv_aload_n hx hb dX7_end_26 rfl (lv_at hl 0 rfl) ?_
  refine lv_iload_n hx hb dX7_end_27 rfl (lv_at hl 1 rfl) ?_
  refine k_put (D := (dC, dI)) (ci := 7) (v := .int 0) (C := RX7) (T := TX7) (N := 92) (ws' := [(p0, .inr (7, oM p2 (upd i7 1 0) j7))]) hx hb hts hinX7 tyX7 tyX7_ok nmX7 hown hK hP hD hS 0 rfl rfl 1 (by decide) w_0 rfl rfl rfl rfl (Nat.le_of_ble_eq_true rfl) rfl dX7_end_28 (fun H locs hP hD hS => ?_)
  refine lv_iconst (v := 1) hx hb dX7_end_31 (by decide +kernel) ?_
  exact k_ri B hP hD hS dX7_end_32 () [0] rfl rfl rfl (Nat.le_of_ble_eq_true rfl) (Nat.le_of_ble_eq_true rfl) rfl
set_option maxHeartbeats 4000000 in
set_option maxRecDepth 100000 in
theorem c_X7_end_v2 (l : Launch) (dC : Nat → ClassId) (dI : Nat → Nat → Nat) (cI cJ cZ cM : ClassId) (p0 : Nat) (p1 : Int32) (p2 : Nat → Nat) (b_0 : 1 ≤ p1.toInt) (t_0 : p1.toInt ≤ 2147483647)  : k_Mi l yX7_end wsX7_end ({ frames := 2, cells := 0, slots := 0, locals := 61 }) (dC, dI) vwCl (tyy cI cJ cZ cM) [(p0, .inr (7, oM p2 i7 j7)), ((p2 48), .inl (cI, 6, .inl (fun _ => 0)))] [.ref p0, .int p1] 0 0 (fun (u9 : Unit) => [(p0, .inr (7, oM p2 i7 j7)), ((p2 48), .inl (cI, 6, .inl (upd (fun _ => 0) 0 1)))]) (fun (r9 : Int32) (u9 : Unit) => r9 = 0) := by
  refine fun sz => k_enter (cc := cX7_end) (maxL := 2) (ret := some (.boolean)) (Qc := fun A => va_Qi (fun (r9 : Int32) (u9 : Unit) => r9 = 0) (fun u => k_B (dC, dI) vwCl (tyy cI cJ cZ cM) A ((fun (u9 : Unit) => [(p0, .inr (7, oM p2 i7 j7)), ((p2 48), .inl (cI, 6, .inl (upd (fun _ => 0) 0 1)))]) u)) A) sz (by decide +kernel) rfl (Nat.le_of_ble_eq_true rfl) (fun p e s m args below meth c A ls H locs B hP hD hS hl => ?_)
  obtain ⟨hx, hb, hml, hown, hts, hr, hlk, hnm, hK, hA, hN, hC⟩ := id B
  have hown : s.vm.findClass RX7 = some m.cls := hown
  have hl : lv_has ls 2 [(0, .ref p0), (1, .int p1)] := hl
  have w_0 : (Cond.fieldLink RX7 13 "WishSeaModel" "taped" "I").before args s = true := hts _ (List.mem_of_getElem? (i := 1) rfl)
  have hinX7 : ∀ w ∈ u_ws RX7 TX7 92, w ∈ wsX7_end := fun _ h => List.mem_cons_of_mem _ (List.mem_append_right _ h)
  refine lv_iload_n hx hb dX7_end_0 rfl (lv_at hl 1 rfl) ?_
  refine lv_if_lt (tgt := 12) hx hb dX7_end_1 (by decide) (fun c_1 => ?_) (fun c_1 => ?_)
  · have c_1 : p1.toInt < 0 := k_ltT rfl (by decide +kernel) c_1
    exfalso; omega
  · have c_1 : 0 ≤ p1.toInt := k_ltF rfl (by decide +kernel) c_1
    refine lv_iload_n hx hb dX7_end_4 rfl (lv_at hl 1 rfl) ?_
    refine lv_aload_n hx hb dX7_end_5 rfl (lv_at hl 0 rfl) ?_
    refine k_get (D := (dC, dI)) (ci := 7) (v := .int 0) (C := RX7) (T := TX7) (N := 92) hx hb hts hinX7 hown hK hP 0 rfl rfl 1 (by decide) w_0 rfl rfl dX7_end_6 ?_
    refine lv_icmp_le (tgt := 26) hx hb dX7_end_9 (by decide) (fun c_2 => ?_) (fun c_2 => ?_)
    · have c_2 : p1.toInt ≤ 0 := k_leT rfl (by decide +kernel) c_2
      exfalso; omega
    · have c_2 : 0 < p1.toInt := k_leF rfl (by decide +kernel) c_2
      refine lv_aload_n hx hb dX7_end_12 rfl (lv_at hl 0 rfl) ?_
      refine lv_iconst (v := 0) hx hb dX7_end_13 (by decide +kernel) ?_
      refine k_ci (wc := [(p0, .inr (7, oM p2 i7 j7)), ((p2 48), .inl (cI, 6, .inl (fun _ => 0)))]) (wr := []) (fun hPc hDc hFc => va_runV (As := [.int 0]) (rest := []) ⟨hx, hb, hml, hown, hts⟩ (c_X7_refuses_v0 l dC dI cI cJ cZ cM p0 p2 H.size) (cwV 1 hts gX7_end_X7_refuses rfl rfl rfl (by decide +kernel) ⟨(Nat.le_of_ble_eq_true rfl), (Nat.le_of_ble_eq_true rfl)⟩) (k_pV hPc hDc hK hN hC hS hFc hP (q0 := 0) (ci := 7) rfl rfl) rfl rfl hl.1 rfl (lv_room (Nat.le_of_ble_eq_true rfl)) dX7_end_14 ⟨(Nat.le_of_ble_eq_true rfl), (Nat.le_of_ble_eq_true rfl)⟩) hP hD hS hA [0, 1] [] rfl rfl rfl rfl (by decide) (fun _ => rfl) 0 0 rfl rfl (fun r_3 u_4 H locs hw hP hD hS => ?_)
      obtain rfl : r_3 = (-1) := hw
      have hP : va_P (dC, dI) vwCl [(p0, .inr (7, oM p2 i7 j7)), ((p2 48), .inl (cI, 6, .inl (upd (fun _ => 0) 0 1)))] H := hP
      have hD : va_D A [(p0, .inr (7, oM p2 i7 j7)), ((p2 48), .inl (cI, 6, .inl (upd (fun _ => 0) 0 1)))] := hD
      refine lv_if_lt (tgt := 24) hx hb dX7_end_17 (by decide) (fun _ => ?_) (fun q9 => absurd q9 (by decide +kernel))
      refine lv_iconst (v := 0) hx hb dX7_end_24 (by decide +kernel) ?_
      exact k_ri B hP hD hS dX7_end_25 () [0, 1] rfl rfl rfl (Nat.le_of_ble_eq_true rfl) (Nat.le_of_ble_eq_true rfl) rfl
set_option maxHeartbeats 4000000 in
set_option maxRecDepth 100000 in
theorem c_X6_takeTape_v0 (l : Launch) (dC : Nat → ClassId) (dI : Nat → Nat → Nat) (cI cJ cZ cM : ClassId) (p0 : Nat) (p1 : Nat → Nat)   : k_Mi l yX6_takeTape wsX6_takeTape ({ frames := 1, cells := 0, slots := 0, locals := 40 }) (dC, dI) vwCl (tyy cI cJ cZ cM) [(p0, .inr (6, [.ref (p1 0), .int 0, .ref (p1 1), .ref (p1 14), .ref (p1 27), .ref (p1 28), .ref (p1 29), .ref (p1 30), .ref (p1 54), .null, .int 1, .int 1, .int 999, .ref (p1 61), .ref (p1 62), .ref (p1 63), .ref (p1 60)]))] [.ref p0] 0 0 (fun (u9 : Unit) => [(p0, .inr (6, [.ref (p1 0), .int 0, .ref (p1 1), .ref (p1 14), .ref (p1 27), .ref (p1 28), .ref (p1 29), .ref (p1 30), .ref (p1 54), .null, .int 1, .int 1, .int 999, .ref (p1 61), .ref (p1 62), .ref (p1 63), .ref (p1 60)]))]) (fun (r9 : Int32) (u9 : Unit) => r9 = 0) := by
  refine fun sz => k_enter (cc := cX6_takeTape) (maxL := 2) (ret := some (.int)) (Qc := fun A => va_Qi (fun (r9 : Int32) (u9 : Unit) => r9 = 0) (fun u => k_B (dC, dI) vwCl (tyy cI cJ cZ cM) A ((fun (u9 : Unit) => [(p0, .inr (6, [.ref (p1 0), .int 0, .ref (p1 1), .ref (p1 14), .ref (p1 27), .ref (p1 28), .ref (p1 29), .ref (p1 30), .ref (p1 54), .null, .int 1, .int 1, .int 999, .ref (p1 61), .ref (p1 62), .ref (p1 63), .ref (p1 60)]))]) u)) A) sz (by decide +kernel) rfl (Nat.le_of_ble_eq_true rfl) (fun p e s m args below meth c A ls H locs B hP hD hS hl => ?_)
  obtain ⟨hx, hb, hml, hown, hts, hr, hlk, hnm, hK, hA, hN, hC⟩ := id B
  have hown : s.vm.findClass RX6 = some m.cls := hown
  have hl : lv_has ls 2 [(0, .ref p0)] := hl
  have w_0 : (Cond.fieldLink RX6 92 "WishSea" "tapeLength" "I").before args s = true := hts _ (List.mem_of_getElem? (i := 1) rfl)
  have hinX6 : ∀ w ∈ u_ws RX6 TX6 17, w ∈ wsX6_takeTape := fun _ h => List.mem_cons_of_mem _ (List.mem_append_right _ h)
  refine lv_aload_n hx hb dX6_takeTape_0 rfl (lv_at hl 0 rfl) ?_
  refine k_get (D := (dC, dI)) (ci := 6) (v := .int 0) (C := RX6) (T := TX6) (N := 17) hx hb hts hinX6 hown hK hP 0 rfl rfl 1 (by decide) w_0 rfl rfl dX6_takeTape_1 ?_
  refine lv_istore_n (lv' := [(1, .int 0), (0, .ref p0)]) hx hb dX6_takeTape_4 rfl hl (by decide) rfl (fun ls hl => ?_)
  refine lv_aload_n hx hb dX6_takeTape_5 rfl (lv_at hl 1 rfl) ?_
  refine lv_iconst (v := 0) hx hb dX6_takeTape_6 (by decide +kernel) ?_
  refine k_put (D := (dC, dI)) (ci := 6) (v := .int 0) (C := RX6) (T := TX6) (N := 17) (ws' := [(p0, .inr (6, [.ref (p1 0), .int 0, .ref (p1 1), .ref (p1 14), .ref (p1 27), .ref (p1 28), .ref (p1 29), .ref (p1 30), .ref (p1 54), .null, .int 1, .int 1, .int 999, .ref (p1 61), .ref (p1 62), .ref (p1 63), .ref (p1 60)]))]) hx hb hts hinX6 tyX6 tyX6_ok nmX6 hown hK hP hD hS 0 rfl rfl 1 (by decide) w_0 rfl rfl rfl rfl (Nat.le_of_ble_eq_true rfl) rfl dX6_takeTape_7 (fun H locs hP hD hS => ?_)
  refine lv_iload_n hx hb dX6_takeTape_10 rfl (lv_at hl 0 rfl) ?_
  exact k_ri B hP hD hS dX6_takeTape_11 () [0] rfl rfl rfl (Nat.le_of_ble_eq_true rfl) (Nat.le_of_ble_eq_true rfl) rfl
set_option maxHeartbeats 4000000 in
set_option maxRecDepth 100000 in
theorem c_J7_fill_53178_v2 (l : Launch) (dC : Nat → ClassId) (dI : Nat → Nat → Nat) (cI cJ cZ cM : ClassId) (p0 : Nat → Nat)   : k_Mv l yJ7_fill_53178 wsJ7_fill_53178 ({ frames := 1, cells := 0, slots := 0, locals := 40 }) (dC, dI) vwCl (tyy cI cJ cZ cM) [((p0 24), .inl (cI, 3, .inl (fun _ => 0)))] [.ref (p0 24), .int 0] 0 0 (fun (u9 : Unit) => [((p0 24), .inl (cI, 3, .inl (fun _ => 0)))]) (fun (u9 : Unit) => True) := by
  refine fun sz => k_enter (cc := cJ7_fill_53178) (maxL := 4) (ret := none) (Qc := fun A => va_Qv (fun (u9 : Unit) => True) (fun u => k_B (dC, dI) vwCl (tyy cI cJ cZ cM) A ((fun (u9 : Unit) => [((p0 24), .inl (cI, 3, .inl (fun _ => 0)))]) u)) A) sz (by decide +kernel) rfl (Nat.le_of_ble_eq_true rfl) (fun p e s m args below meth c A ls H locs B hP hD hS hl => ?_)
  obtain ⟨hx, hb, hml, hown, hts, hr, hlk, hnm, hK, hA, hN, hC⟩ := id B
  have hown : s.vm.findClass RJ7 = some m.cls := hown
  have hl : lv_has ls 4 [(0, .ref (p0 24)), (1, .int 0)] := hl
  refine lv_iconst (v := 0) hx hb dJ7_fill_53178_0 (by decide +kernel) ?_
  refine lv_istore_n (lv' := [(2, .int 0), (0, .ref (p0 24)), (1, .int 0)]) hx hb dJ7_fill_53178_1 rfl hl (by decide) rfl (fun ls hl => ?_)
  refine lv_aload_n hx hb dJ7_fill_53178_2 rfl (lv_at hl 1 rfl) ?_
  refine va_alen (v := 3) hx hb hK hP 0 0 rfl rfl rfl dJ7_fill_53178_3 ?_
  refine lv_istore_n (lv' := [(3, .int 3), (2, .int 0), (0, .ref (p0 24)), (1, .int 0)]) hx hb dJ7_fill_53178_4 rfl hl (by decide) rfl (fun ls hl => ?_)
  have loop_k_1 : ∀ (n_k_1 : Nat) (kk_1 : Nat) (fk_1 : Nat → Int32) (h2k_1 : kk_1 ≤ 3) (h3k_1 : ∀ j, j < kk_1 → fk_1 j = 0) (hn_k_1 : 3 - kk_1 < n_k_1) (H : Heap) (locs : List Loc) (ls : Array Slot), va_P (dC, dI) vwCl [((p0 24), .inl (cI, 3, .inl fk_1))] H → va_D A [((p0 24), .inl (cI, 3, .inl fk_1))] → va_S A s.heap H locs → lv_has ls 4 [(3, .int 3), (2, .int (nI kk_1)), (0, .ref (p0 24)), (1, .int 0)] → W p l e ({ frames := 1, cells := 0, slots := 0, locals := 40 }) s m args below meth c H locs 0 0 (MQ below (va_Qv (fun (u9 : Unit) => True) (fun u => k_B (dC, dI) vwCl (tyy cI cJ cZ cM) A ((fun (u9 : Unit) => [((p0 24), .inl (cI, 3, .inl (fun _ => 0)))]) u)) A) args s 0 0 A) (F0 m 5 ls []) := by
    intro n_k_1
    induction n_k_1 with
    | zero => intro kk_1 fk_1 h2k_1 h3k_1 hn_k_1; exact absurd hn_k_1 (Nat.not_lt_zero _)
    | succ n_k_1 ih_k_1 =>
      intro kk_1 fk_1 h2k_1 h3k_1 hn_k_1 H locs ls hP hD hS hl
      refine lv_iload_n hx hb dJ7_fill_53178_5 rfl (lv_at hl 1 rfl) ?_
      refine lv_iload_n hx hb dJ7_fill_53178_6 rfl (lv_at hl 0 rfl) ?_
      refine lv_icmp_ge (tgt := 20) hx hb dJ7_fill_53178_7 (by decide) (fun c_2 => ?_) (fun c_2 => ?_)
      · have c_2 : 3 ≤ ((kk_1 : Nat) : Int) := k_leT (by decide +kernel) (nI_toInt (by omega)) c_2
        obtain rfl : kk_1 = 3 := by omega
        have hl : lv_has ls 4 [(3, .int 3), (2, .int 3), (0, .ref (p0 24)), (1, .int 0)] := hl
        have hP : va_P (dC, dI) vwCl [((p0 24), .inl (cI, 3, .inl fk_1))] H := hP
        have hD : va_D A [((p0 24), .inl (cI, 3, .inl fk_1))] := hD
        have hP : va_P (dC, dI) vwCl [((p0 24), .inl (cI, 3, .inl (fun _ => 0)))] H := k_contI (g := fun _ => 0) hP 0 rfl h3k_1 rfl
        have hD : va_D A [((p0 24), .inl (cI, 3, .inl (fun _ => 0)))] := k_contD hD 0 rfl rfl
        exact k_rv B hP hD hS dJ7_fill_53178_20 () [0] rfl rfl (Nat.le_of_ble_eq_true rfl) (Nat.le_of_ble_eq_true rfl) trivial
      · have c_2 : ((kk_1 : Nat) : Int) < 3 := k_leF (by decide +kernel) (nI_toInt (by omega)) c_2
        refine lv_aload_n hx hb dJ7_fill_53178_10 rfl (lv_at hl 2 rfl) ?_
        refine lv_iload_n hx hb dJ7_fill_53178_11 rfl (lv_at hl 1 rfl) ?_
        refine lv_iload_n hx hb dJ7_fill_53178_12 rfl (lv_at hl 3 rfl) ?_
        refine k_iast (g := (upd fk_1 kk_1 0)) (ws' := [((p0 24), .inl (cI, 3, .inl (upd fk_1 kk_1 0)))]) hx hb hK hP hD hS 0 0 kk_1 rfl rfl rfl (by omega) (Nat.le_of_ble_eq_true rfl) rfl rfl dJ7_fill_53178_13 (fun H locs hP hD hS => ?_)
        refine lv_iinc (v := (nI (kk_1 + 1))) (lv' := [(2, .int (nI (kk_1 + 1))), (3, .int 3), (0, .ref (p0 24)), (1, .int 0)]) hx hb dJ7_fill_53178_14 hl (k := 1) rfl (nI_1 _) (by decide) rfl (fun ls hl => ?_)
        refine lv_goto (tgt := 5) hx hb dJ7_fill_53178_17 (by decide) ?_
        exact ih_k_1 (kk_1 + 1) (upd fk_1 kk_1 0) (by omega) (k_fillS h3k_1) (by omega) H locs ls (hP.sub [0] rfl) (hD.sub [0] (by decide) rfl) hS (lv_sub hl [1, 0, 2, 3] rfl)
  exact loop_k_1 _ 0 (fun _ => 0) (Nat.zero_le _) (fun j hj => absurd hj (Nat.not_lt_zero j)) (Nat.lt_succ_self _) H locs ls hP hD hS hl
set_option maxHeartbeats 4000000 in
set_option maxRecDepth 100000 in
theorem c_J7_fill_53178_v3 (l : Launch) (dC : Nat → ClassId) (dI : Nat → Nat → Nat) (cI cJ cZ cM : ClassId) (p0 : Nat → Nat)   : k_Mv l yJ7_fill_53178 wsJ7_fill_53178 ({ frames := 1, cells := 0, slots := 0, locals := 40 }) (dC, dI) vwCl (tyy cI cJ cZ cM) [((p0 25), .inl (cI, 3, .inl (fun _ => 0)))] [.ref (p0 25), .int 0] 0 0 (fun (u9 : Unit) => [((p0 25), .inl (cI, 3, .inl (fun _ => 0)))]) (fun (u9 : Unit) => True) := by
  refine fun sz => k_enter (cc := cJ7_fill_53178) (maxL := 4) (ret := none) (Qc := fun A => va_Qv (fun (u9 : Unit) => True) (fun u => k_B (dC, dI) vwCl (tyy cI cJ cZ cM) A ((fun (u9 : Unit) => [((p0 25), .inl (cI, 3, .inl (fun _ => 0)))]) u)) A) sz (by decide +kernel) rfl (Nat.le_of_ble_eq_true rfl) (fun p e s m args below meth c A ls H locs B hP hD hS hl => ?_)
  obtain ⟨hx, hb, hml, hown, hts, hr, hlk, hnm, hK, hA, hN, hC⟩ := id B
  have hown : s.vm.findClass RJ7 = some m.cls := hown
  have hl : lv_has ls 4 [(0, .ref (p0 25)), (1, .int 0)] := hl
  refine lv_iconst (v := 0) hx hb dJ7_fill_53178_0 (by decide +kernel) ?_
  refine lv_istore_n (lv' := [(2, .int 0), (0, .ref (p0 25)), (1, .int 0)]) hx hb dJ7_fill_53178_1 rfl hl (by decide) rfl (fun ls hl => ?_)
  refine lv_aload_n hx hb dJ7_fill_53178_2 rfl (lv_at hl 1 rfl) ?_
  refine va_alen (v := 3) hx hb hK hP 0 0 rfl rfl rfl dJ7_fill_53178_3 ?_
  refine lv_istore_n (lv' := [(3, .int 3), (2, .int 0), (0, .ref (p0 25)), (1, .int 0)]) hx hb dJ7_fill_53178_4 rfl hl (by decide) rfl (fun ls hl => ?_)
  have loop_k_1 : ∀ (n_k_1 : Nat) (kk_1 : Nat) (fk_1 : Nat → Int32) (h2k_1 : kk_1 ≤ 3) (h3k_1 : ∀ j, j < kk_1 → fk_1 j = 0) (hn_k_1 : 3 - kk_1 < n_k_1) (H : Heap) (locs : List Loc) (ls : Array Slot), va_P (dC, dI) vwCl [((p0 25), .inl (cI, 3, .inl fk_1))] H → va_D A [((p0 25), .inl (cI, 3, .inl fk_1))] → va_S A s.heap H locs → lv_has ls 4 [(3, .int 3), (2, .int (nI kk_1)), (0, .ref (p0 25)), (1, .int 0)] → W p l e ({ frames := 1, cells := 0, slots := 0, locals := 40 }) s m args below meth c H locs 0 0 (MQ below (va_Qv (fun (u9 : Unit) => True) (fun u => k_B (dC, dI) vwCl (tyy cI cJ cZ cM) A ((fun (u9 : Unit) => [((p0 25), .inl (cI, 3, .inl (fun _ => 0)))]) u)) A) args s 0 0 A) (F0 m 5 ls []) := by
    intro n_k_1
    induction n_k_1 with
    | zero => intro kk_1 fk_1 h2k_1 h3k_1 hn_k_1; exact absurd hn_k_1 (Nat.not_lt_zero _)
    | succ n_k_1 ih_k_1 =>
      intro kk_1 fk_1 h2k_1 h3k_1 hn_k_1 H locs ls hP hD hS hl
      refine lv_iload_n hx hb dJ7_fill_53178_5 rfl (lv_at hl 1 rfl) ?_
      refine lv_iload_n hx hb dJ7_fill_53178_6 rfl (lv_at hl 0 rfl) ?_
      refine lv_icmp_ge (tgt := 20) hx hb dJ7_fill_53178_7 (by decide) (fun c_2 => ?_) (fun c_2 => ?_)
      · have c_2 : 3 ≤ ((kk_1 : Nat) : Int) := k_leT (by decide +kernel) (nI_toInt (by omega)) c_2
        obtain rfl : kk_1 = 3 := by omega
        have hl : lv_has ls 4 [(3, .int 3), (2, .int 3), (0, .ref (p0 25)), (1, .int 0)] := hl
        have hP : va_P (dC, dI) vwCl [((p0 25), .inl (cI, 3, .inl fk_1))] H := hP
        have hD : va_D A [((p0 25), .inl (cI, 3, .inl fk_1))] := hD
        have hP : va_P (dC, dI) vwCl [((p0 25), .inl (cI, 3, .inl (fun _ => 0)))] H := k_contI (g := fun _ => 0) hP 0 rfl h3k_1 rfl
        have hD : va_D A [((p0 25), .inl (cI, 3, .inl (fun _ => 0)))] := k_contD hD 0 rfl rfl
        exact k_rv B hP hD hS dJ7_fill_53178_20 () [0] rfl rfl (Nat.le_of_ble_eq_true rfl) (Nat.le_of_ble_eq_true rfl) trivial
      · have c_2 : ((kk_1 : Nat) : Int) < 3 := k_leF (by decide +kernel) (nI_toInt (by omega)) c_2
        refine lv_aload_n hx hb dJ7_fill_53178_10 rfl (lv_at hl 2 rfl) ?_
        refine lv_iload_n hx hb dJ7_fill_53178_11 rfl (lv_at hl 1 rfl) ?_
        refine lv_iload_n hx hb dJ7_fill_53178_12 rfl (lv_at hl 3 rfl) ?_
        refine k_iast (g := (upd fk_1 kk_1 0)) (ws' := [((p0 25), .inl (cI, 3, .inl (upd fk_1 kk_1 0)))]) hx hb hK hP hD hS 0 0 kk_1 rfl rfl rfl (by omega) (Nat.le_of_ble_eq_true rfl) rfl rfl dJ7_fill_53178_13 (fun H locs hP hD hS => ?_)
        refine lv_iinc (v := (nI (kk_1 + 1))) (lv' := [(2, .int (nI (kk_1 + 1))), (3, .int 3), (0, .ref (p0 25)), (1, .int 0)]) hx hb dJ7_fill_53178_14 hl (k := 1) rfl (nI_1 _) (by decide) rfl (fun ls hl => ?_)
        refine lv_goto (tgt := 5) hx hb dJ7_fill_53178_17 (by decide) ?_
        exact ih_k_1 (kk_1 + 1) (upd fk_1 kk_1 0) (by omega) (k_fillS h3k_1) (by omega) H locs ls (hP.sub [0] rfl) (hD.sub [0] (by decide) rfl) hS (lv_sub hl [1, 0, 2, 3] rfl)
  exact loop_k_1 _ 0 (fun _ => 0) (Nat.zero_le _) (fun j hj => absurd hj (Nat.not_lt_zero j)) (Nat.lt_succ_self _) H locs ls hP hD hS hl
set_option maxHeartbeats 4000000 in
set_option maxRecDepth 100000 in
theorem c_X5_clear_v0 (l : Launch) (dC : Nat → ClassId) (dI : Nat → Nat → Nat) (cI cJ cZ cM : ClassId) (p0 : Nat → Nat)   : k_Mv l yX5_clear wsX5_clear ({ frames := 2, cells := 0, slots := 0, locals := 63 }) (dC, dI) vwCl (tyy cI cJ cZ cM) [((p0 14), .inr (5, [.ref (p0 15), .ref (p0 16), .ref (p0 17), .ref (p0 18), .ref (p0 19), .ref (p0 20), .ref (p0 21), .ref (p0 22), .ref (p0 23), .ref (p0 24), .ref (p0 25), .ref (p0 26), .int 0, .int 0, .int 0, .int 0, .int 0, .int 100, .int 0, .int 0])), ((p0 24), .inl (cI, 3, .inl (fun _ => 0))), ((p0 25), .inl (cI, 3, .inl (fun _ => 0)))] [.ref (p0 14)] 0 0 (fun (u9 : Unit) => [((p0 14), .inr (5, [.ref (p0 15), .ref (p0 16), .ref (p0 17), .ref (p0 18), .ref (p0 19), .ref (p0 20), .ref (p0 21), .ref (p0 22), .ref (p0 23), .ref (p0 24), .ref (p0 25), .ref (p0 26), .int 0, .int 0, .int 0, .int 0, .int 0, .int 100, .int 0, .int 0])), ((p0 24), .inl (cI, 3, .inl (fun _ => 0))), ((p0 25), .inl (cI, 3, .inl (fun _ => 0)))]) (fun (u9 : Unit) => True) := by
  refine fun sz => k_enter (cc := cX5_clear) (maxL := 1) (ret := none) (Qc := fun A => va_Qv (fun (u9 : Unit) => True) (fun u => k_B (dC, dI) vwCl (tyy cI cJ cZ cM) A ((fun (u9 : Unit) => [((p0 14), .inr (5, [.ref (p0 15), .ref (p0 16), .ref (p0 17), .ref (p0 18), .ref (p0 19), .ref (p0 20), .ref (p0 21), .ref (p0 22), .ref (p0 23), .ref (p0 24), .ref (p0 25), .ref (p0 26), .int 0, .int 0, .int 0, .int 0, .int 0, .int 100, .int 0, .int 0])), ((p0 24), .inl (cI, 3, .inl (fun _ => 0))), ((p0 25), .inl (cI, 3, .inl (fun _ => 0)))]) u)) A) sz (by decide +kernel) rfl (Nat.le_of_ble_eq_true rfl) (fun p e s m args below meth c A ls H locs B hP hD hS hl => ?_)
  obtain ⟨hx, hb, hml, hown, hts, hr, hlk, hnm, hK, hA, hN, hC⟩ := id B
  have hown : s.vm.findClass RX5 = some m.cls := hown
  have hl : lv_has ls 1 [(0, .ref (p0 14))] := hl
  have w_0 : (Cond.fieldLink RX5 39 "WishSea$Shore" "codeFrom" "[I").before args s = true := hts _ (List.mem_of_getElem? (i := 1) rfl)
  have w_1 : (Cond.fieldLink RX5 42 "WishSea$Shore" "codeTo" "[I").before args s = true := hts _ (List.mem_of_getElem? (i := 2) rfl)
  have w_2 : (Cond.fieldLink RX5 58 "WishSea$Shore" "codeLength" "I").before args s = true := hts _ (List.mem_of_getElem? (i := 3) rfl)
  have w_3 : (Cond.fieldLink RX5 61 "WishSea$Shore" "things" "I").before args s = true := hts _ (List.mem_of_getElem? (i := 4) rfl)
  have w_4 : (Cond.fieldLink RX5 64 "WishSea$Shore" "wishes" "I").before args s = true := hts _ (List.mem_of_getElem? (i := 5) rfl)
  have w_5 : (Cond.fieldLink RX5 67 "WishSea$Shore" "brief" "I").before args s = true := hts _ (List.mem_of_getElem? (i := 6) rfl)
  have w_6 : (Cond.fieldLink RX5 70 "WishSea$Shore" "first" "I").before args s = true := hts _ (List.mem_of_getElem? (i := 7) rfl)
  have w_7 : (Cond.fieldLink RX5 48 "WishSea$Shore" "bears" "I").before args s = true := hts _ (List.mem_of_getElem? (i := 8) rfl)
  have w_8 : (Cond.fieldLink RX5 73 "WishSea$Shore" "calm" "I").before args s = true := hts _ (List.mem_of_getElem? (i := 9) rfl)
  have w_9 : (Cond.fieldLink RX5 76 "WishSea$Shore" "statements" "I").before args s = true := hts _ (List.mem_of_getElem? (i := 10) rfl)
  have hinX5 : ∀ w ∈ u_ws RX5 TX5 20, w ∈ wsX5_clear := fun _ h => List.mem_cons_of_mem _ (List.mem_append_right _ h)
  refine lv_aload_n hx hb dX5_clear_0 rfl (lv_at hl 0 rfl) ?_
  refine k_get (D := (dC, dI)) (ci := 5) (v := .ref (p0 24)) (C := RX5) (T := TX5) (N := 20) hx hb hts hinX5 hown hK hP 0 rfl rfl 9 (by decide) w_0 rfl rfl dX5_clear_1 ?_
  refine lv_iconst (v := 0) hx hb dX5_clear_4 (by decide +kernel) ?_
  refine k_cv (wc := [((p0 24), .inl (cI, 3, .inl (fun _ => 0)))]) (wr := [((p0 14), .inr (5, [.ref (p0 15), .ref (p0 16), .ref (p0 17), .ref (p0 18), .ref (p0 19), .ref (p0 20), .ref (p0 21), .ref (p0 22), .ref (p0 23), .ref (p0 24), .ref (p0 25), .ref (p0 26), .int 0, .int 0, .int 0, .int 0, .int 0, .int 100, .int 0, .int 0])), ((p0 25), .inl (cI, 3, .inl (fun _ => 0)))]) (fun hPc hDc hFc => va_runS (As := [.ref (p0 24), .int 0]) (rest := []) ⟨hx, hb, hml, hown, hts⟩ (c_J7_fill_53178_v2 l dC dI cI cJ cZ cM p0 H.size) (va_cwS 2 hts gX5_clear_J7_fill_53178 rfl rfl rfl (by decide +kernel) ⟨(Nat.le_of_ble_eq_true rfl), (Nat.le_of_ble_eq_true rfl)⟩) (k_pS hPc hDc hK hN hC hS hFc) rfl rfl hl.1 rfl (lv_room (Nat.le_of_ble_eq_true rfl)) dX5_clear_5 ⟨(Nat.le_of_ble_eq_true rfl), (Nat.le_of_ble_eq_true rfl)⟩) hP hD hS hA [1] [0, 2] rfl rfl rfl rfl (by decide) (fun _ => rfl) 0 0 rfl rfl (fun u_2 H locs hw hP hD hS => ?_)
  have hP : va_P (dC, dI) vwCl [((p0 14), .inr (5, [.ref (p0 15), .ref (p0 16), .ref (p0 17), .ref (p0 18), .ref (p0 19), .ref (p0 20), .ref (p0 21), .ref (p0 22), .ref (p0 23), .ref (p0 24), .ref (p0 25), .ref (p0 26), .int 0, .int 0, .int 0, .int 0, .int 0, .int 100, .int 0, .int 0])), ((p0 25), .inl (cI, 3, .inl (fun _ => 0))), ((p0 24), .inl (cI, 3, .inl (fun _ => 0)))] H := hP
  have hD : va_D A [((p0 14), .inr (5, [.ref (p0 15), .ref (p0 16), .ref (p0 17), .ref (p0 18), .ref (p0 19), .ref (p0 20), .ref (p0 21), .ref (p0 22), .ref (p0 23), .ref (p0 24), .ref (p0 25), .ref (p0 26), .int 0, .int 0, .int 0, .int 0, .int 0, .int 100, .int 0, .int 0])), ((p0 25), .inl (cI, 3, .inl (fun _ => 0))), ((p0 24), .inl (cI, 3, .inl (fun _ => 0)))] := hD
  refine lv_aload_n hx hb dX5_clear_8 rfl (lv_at hl 0 rfl) ?_
  refine k_get (D := (dC, dI)) (ci := 5) (v := .ref (p0 25)) (C := RX5) (T := TX5) (N := 20) hx hb hts hinX5 hown hK hP 0 rfl rfl 10 (by decide) w_1 rfl rfl dX5_clear_9 ?_
  refine lv_iconst (v := 0) hx hb dX5_clear_12 (by decide +kernel) ?_
  refine k_cv (wc := [((p0 25), .inl (cI, 3, .inl (fun _ => 0)))]) (wr := [((p0 14), .inr (5, [.ref (p0 15), .ref (p0 16), .ref (p0 17), .ref (p0 18), .ref (p0 19), .ref (p0 20), .ref (p0 21), .ref (p0 22), .ref (p0 23), .ref (p0 24), .ref (p0 25), .ref (p0 26), .int 0, .int 0, .int 0, .int 0, .int 0, .int 100, .int 0, .int 0])), ((p0 24), .inl (cI, 3, .inl (fun _ => 0)))]) (fun hPc hDc hFc => va_runS (As := [.ref (p0 25), .int 0]) (rest := []) ⟨hx, hb, hml, hown, hts⟩ (c_J7_fill_53178_v3 l dC dI cI cJ cZ cM p0 H.size) (va_cwS 2 hts gX5_clear_J7_fill_53178 rfl rfl rfl (by decide +kernel) ⟨(Nat.le_of_ble_eq_true rfl), (Nat.le_of_ble_eq_true rfl)⟩) (k_pS hPc hDc hK hN hC hS hFc) rfl rfl hl.1 rfl (lv_room (Nat.le_of_ble_eq_true rfl)) dX5_clear_13 ⟨(Nat.le_of_ble_eq_true rfl), (Nat.le_of_ble_eq_true rfl)⟩) hP hD hS hA [1] [0, 2] rfl rfl rfl rfl (by decide) (fun _ => rfl) 0 0 rfl rfl (fun u_4 H locs hw hP hD hS => ?_)
  have hP : va_P (dC, dI) vwCl [((p0 14), .inr (5, [.ref (p0 15), .ref (p0 16), .ref (p0 17), .ref (p0 18), .ref (p0 19), .ref (p0 20), .ref (p0 21), .ref (p0 22), .ref (p0 23), .ref (p0 24), .ref (p0 25), .ref (p0 26), .int 0, .int 0, .int 0, .int 0, .int 0, .int 100, .int 0, .int 0])), ((p0 24), .inl (cI, 3, .inl (fun _ => 0))), ((p0 25), .inl (cI, 3, .inl (fun _ => 0)))] H := hP
  have hD : va_D A [((p0 14), .inr (5, [.ref (p0 15), .ref (p0 16), .ref (p0 17), .ref (p0 18), .ref (p0 19), .ref (p0 20), .ref (p0 21), .ref (p0 22), .ref (p0 23), .ref (p0 24), .ref (p0 25), .ref (p0 26), .int 0, .int 0, .int 0, .int 0, .int 0, .int 100, .int 0, .int 0])), ((p0 24), .inl (cI, 3, .inl (fun _ => 0))), ((p0 25), .inl (cI, 3, .inl (fun _ => 0)))] := hD
  refine lv_aload_n hx hb dX5_clear_16 rfl (lv_at hl 0 rfl) ?_
  refine lv_iconst (v := 0) hx hb dX5_clear_17 (by decide +kernel) ?_
  refine k_put (D := (dC, dI)) (ci := 5) (v := .int 0) (C := RX5) (T := TX5) (N := 20) (ws' := [((p0 14), .inr (5, [.ref (p0 15), .ref (p0 16), .ref (p0 17), .ref (p0 18), .ref (p0 19), .ref (p0 20), .ref (p0 21), .ref (p0 22), .ref (p0 23), .ref (p0 24), .ref (p0 25), .ref (p0 26), .int 0, .int 0, .int 0, .int 0, .int 0, .int 100, .int 0, .int 0])), ((p0 24), .inl (cI, 3, .inl (fun _ => 0))), ((p0 25), .inl (cI, 3, .inl (fun _ => 0)))]) hx hb hts hinX5 tyX5 tyX5_ok nmX5 hown hK hP hD hS 0 rfl rfl 12 (by decide) w_2 rfl rfl rfl rfl (Nat.le_of_ble_eq_true rfl) rfl dX5_clear_18 (fun H locs hP hD hS => ?_)
  refine lv_aload_n hx hb dX5_clear_21 rfl (lv_at hl 0 rfl) ?_
  refine lv_iconst (v := 0) hx hb dX5_clear_22 (by decide +kernel) ?_
  refine k_put (D := (dC, dI)) (ci := 5) (v := .int 0) (C := RX5) (T := TX5) (N := 20) (ws' := [((p0 14), .inr (5, [.ref (p0 15), .ref (p0 16), .ref (p0 17), .ref (p0 18), .ref (p0 19), .ref (p0 20), .ref (p0 21), .ref (p0 22), .ref (p0 23), .ref (p0 24), .ref (p0 25), .ref (p0 26), .int 0, .int 0, .int 0, .int 0, .int 0, .int 100, .int 0, .int 0])), ((p0 24), .inl (cI, 3, .inl (fun _ => 0))), ((p0 25), .inl (cI, 3, .inl (fun _ => 0)))]) hx hb hts hinX5 tyX5 tyX5_ok nmX5 hown hK hP hD hS 0 rfl rfl 13 (by decide) w_3 rfl rfl rfl rfl (Nat.le_of_ble_eq_true rfl) rfl dX5_clear_23 (fun H locs hP hD hS => ?_)
  refine lv_aload_n hx hb dX5_clear_26 rfl (lv_at hl 0 rfl) ?_
  refine lv_iconst (v := 0) hx hb dX5_clear_27 (by decide +kernel) ?_
  refine k_put (D := (dC, dI)) (ci := 5) (v := .int 0) (C := RX5) (T := TX5) (N := 20) (ws' := [((p0 14), .inr (5, [.ref (p0 15), .ref (p0 16), .ref (p0 17), .ref (p0 18), .ref (p0 19), .ref (p0 20), .ref (p0 21), .ref (p0 22), .ref (p0 23), .ref (p0 24), .ref (p0 25), .ref (p0 26), .int 0, .int 0, .int 0, .int 0, .int 0, .int 100, .int 0, .int 0])), ((p0 24), .inl (cI, 3, .inl (fun _ => 0))), ((p0 25), .inl (cI, 3, .inl (fun _ => 0)))]) hx hb hts hinX5 tyX5 tyX5_ok nmX5 hown hK hP hD hS 0 rfl rfl 14 (by decide) w_4 rfl rfl rfl rfl (Nat.le_of_ble_eq_true rfl) rfl dX5_clear_28 (fun H locs hP hD hS => ?_)
  refine lv_aload_n hx hb dX5_clear_31 rfl (lv_at hl 0 rfl) ?_
  refine lv_iconst (v := 0) hx hb dX5_clear_32 (by decide +kernel) ?_
  refine k_put (D := (dC, dI)) (ci := 5) (v := .int 0) (C := RX5) (T := TX5) (N := 20) (ws' := [((p0 14), .inr (5, [.ref (p0 15), .ref (p0 16), .ref (p0 17), .ref (p0 18), .ref (p0 19), .ref (p0 20), .ref (p0 21), .ref (p0 22), .ref (p0 23), .ref (p0 24), .ref (p0 25), .ref (p0 26), .int 0, .int 0, .int 0, .int 0, .int 0, .int 100, .int 0, .int 0])), ((p0 24), .inl (cI, 3, .inl (fun _ => 0))), ((p0 25), .inl (cI, 3, .inl (fun _ => 0)))]) hx hb hts hinX5 tyX5 tyX5_ok nmX5 hown hK hP hD hS 0 rfl rfl 15 (by decide) w_5 rfl rfl rfl rfl (Nat.le_of_ble_eq_true rfl) rfl dX5_clear_33 (fun H locs hP hD hS => ?_)
  refine lv_aload_n hx hb dX5_clear_36 rfl (lv_at hl 0 rfl) ?_
  refine lv_iconst (v := 0) hx hb dX5_clear_37 (by decide +kernel) ?_
  refine k_put (D := (dC, dI)) (ci := 5) (v := .int 0) (C := RX5) (T := TX5) (N := 20) (ws' := [((p0 14), .inr (5, [.ref (p0 15), .ref (p0 16), .ref (p0 17), .ref (p0 18), .ref (p0 19), .ref (p0 20), .ref (p0 21), .ref (p0 22), .ref (p0 23), .ref (p0 24), .ref (p0 25), .ref (p0 26), .int 0, .int 0, .int 0, .int 0, .int 0, .int 100, .int 0, .int 0])), ((p0 24), .inl (cI, 3, .inl (fun _ => 0))), ((p0 25), .inl (cI, 3, .inl (fun _ => 0)))]) hx hb hts hinX5 tyX5 tyX5_ok nmX5 hown hK hP hD hS 0 rfl rfl 16 (by decide) w_6 rfl rfl rfl rfl (Nat.le_of_ble_eq_true rfl) rfl dX5_clear_38 (fun H locs hP hD hS => ?_)
  refine lv_aload_n hx hb dX5_clear_41 rfl (lv_at hl 0 rfl) ?_
  refine lv_bipush (v := 100) hx hb dX5_clear_42 (by decide +kernel) ?_
  refine k_put (D := (dC, dI)) (ci := 5) (v := .int 100) (C := RX5) (T := TX5) (N := 20) (ws' := [((p0 14), .inr (5, [.ref (p0 15), .ref (p0 16), .ref (p0 17), .ref (p0 18), .ref (p0 19), .ref (p0 20), .ref (p0 21), .ref (p0 22), .ref (p0 23), .ref (p0 24), .ref (p0 25), .ref (p0 26), .int 0, .int 0, .int 0, .int 0, .int 0, .int 100, .int 0, .int 0])), ((p0 24), .inl (cI, 3, .inl (fun _ => 0))), ((p0 25), .inl (cI, 3, .inl (fun _ => 0)))]) hx hb hts hinX5 tyX5 tyX5_ok nmX5 hown hK hP hD hS 0 rfl rfl 17 (by decide) w_7 rfl rfl rfl rfl (Nat.le_of_ble_eq_true rfl) rfl dX5_clear_44 (fun H locs hP hD hS => ?_)
  refine lv_aload_n hx hb dX5_clear_47 rfl (lv_at hl 0 rfl) ?_
  refine lv_iconst (v := 0) hx hb dX5_clear_48 (by decide +kernel) ?_
  refine k_put (D := (dC, dI)) (ci := 5) (v := .int 0) (C := RX5) (T := TX5) (N := 20) (ws' := [((p0 14), .inr (5, [.ref (p0 15), .ref (p0 16), .ref (p0 17), .ref (p0 18), .ref (p0 19), .ref (p0 20), .ref (p0 21), .ref (p0 22), .ref (p0 23), .ref (p0 24), .ref (p0 25), .ref (p0 26), .int 0, .int 0, .int 0, .int 0, .int 0, .int 100, .int 0, .int 0])), ((p0 24), .inl (cI, 3, .inl (fun _ => 0))), ((p0 25), .inl (cI, 3, .inl (fun _ => 0)))]) hx hb hts hinX5 tyX5 tyX5_ok nmX5 hown hK hP hD hS 0 rfl rfl 18 (by decide) w_8 rfl rfl rfl rfl (Nat.le_of_ble_eq_true rfl) rfl dX5_clear_49 (fun H locs hP hD hS => ?_)
  refine lv_aload_n hx hb dX5_clear_52 rfl (lv_at hl 0 rfl) ?_
  refine lv_iconst (v := 0) hx hb dX5_clear_53 (by decide +kernel) ?_
  refine k_put (D := (dC, dI)) (ci := 5) (v := .int 0) (C := RX5) (T := TX5) (N := 20) (ws' := [((p0 14), .inr (5, [.ref (p0 15), .ref (p0 16), .ref (p0 17), .ref (p0 18), .ref (p0 19), .ref (p0 20), .ref (p0 21), .ref (p0 22), .ref (p0 23), .ref (p0 24), .ref (p0 25), .ref (p0 26), .int 0, .int 0, .int 0, .int 0, .int 0, .int 100, .int 0, .int 0])), ((p0 24), .inl (cI, 3, .inl (fun _ => 0))), ((p0 25), .inl (cI, 3, .inl (fun _ => 0)))]) hx hb hts hinX5 tyX5 tyX5_ok nmX5 hown hK hP hD hS 0 rfl rfl 19 (by decide) w_9 rfl rfl rfl rfl (Nat.le_of_ble_eq_true rfl) rfl dX5_clear_54 (fun H locs hP hD hS => ?_)
  exact k_rv B hP hD hS dX5_clear_57 () [0, 1, 2] rfl rfl (Nat.le_of_ble_eq_true rfl) (Nat.le_of_ble_eq_true rfl) trivial
set_option maxHeartbeats 4000000 in
set_option maxRecDepth 100000 in
theorem c_X2_isWhole_v0 (l : Launch) (dC : Nat → ClassId) (dI : Nat → Nat → Nat) (cI cJ cZ cM : ClassId)    : k_Mi l yX2_isWhole wsX2_isWhole ({ frames := 1, cells := 0, slots := 0, locals := 40 }) (dC, dI) vwCl (tyy cI cJ cZ cM) [] [.int 256] 0 0 (fun (u9 : Unit) => []) (fun (r9 : Int32) (u9 : Unit) => r9 = 0) := by
  refine fun sz => k_enter (cc := cX2_isWhole) (maxL := 1) (ret := some (.boolean)) (Qc := fun A => va_Qi (fun (r9 : Int32) (u9 : Unit) => r9 = 0) (fun u => k_B (dC, dI) vwCl (tyy cI cJ cZ cM) A ((fun (u9 : Unit) => []) u)) A) sz (by decide +kernel) rfl (Nat.le_of_ble_eq_true rfl) (fun p e s m args below meth c A ls H locs B hP hD hS hl => ?_)
  obtain ⟨hx, hb, hml, hown, hts, hr, hlk, hnm, hK, hA, hN, hC⟩ := id B
  have hown : s.vm.findClass RX2 = some m.cls := hown
  have hl : lv_has ls 1 [(0, .int 256)] := hl
  refine lv_iload_n hx hb dX2_isWhole_0 rfl (lv_at hl 0 rfl) ?_
  refine lv_sipush (v := 257) hx hb dX2_isWhole_1 (by decide +kernel) ?_
  refine lv_icmp_eq (tgt := 21) hx hb dX2_isWhole_4 (by decide) (fun q9 => absurd q9 (by decide +kernel)) (fun _ => ?_)
  refine lv_iload_n hx hb dX2_isWhole_7 rfl (lv_at hl 0 rfl) ?_
  refine lv_sipush (v := 258) hx hb dX2_isWhole_8 (by decide +kernel) ?_
  refine lv_icmp_eq (tgt := 21) hx hb dX2_isWhole_11 (by decide) (fun q9 => absurd q9 (by decide +kernel)) (fun _ => ?_)
  refine lv_iload_n hx hb dX2_isWhole_14 rfl (lv_at hl 0 rfl) ?_
  refine lv_sipush (v := 300) hx hb dX2_isWhole_15 (by decide +kernel) ?_
  refine lv_icmp_lt (tgt := 25) hx hb dX2_isWhole_18 (by decide) (fun _ => ?_) (fun q9 => absurd q9 (by decide +kernel))
  refine lv_iconst (v := 0) hx hb dX2_isWhole_25 (by decide +kernel) ?_
  exact k_ri B hP hD hS dX2_isWhole_26 () [] rfl rfl rfl (Nat.le_of_ble_eq_true rfl) (Nat.le_of_ble_eq_true rfl) rfl
set_option maxHeartbeats 4000000 in
set_option maxRecDepth 100000 in
theorem c_X2_step_v0 (l : Launch) (dC : Nat → ClassId) (dI : Nat → Nat → Nat) (cI cJ cZ cM : ClassId) (p0 : Nat → Nat)   : k_Mv l yX2_step wsX2_step ({ frames := 2, cells := 0, slots := 0, locals := 60 }) (dC, dI) vwCl (tyy cI cJ cZ cM) [((p0 27), .inr (2, [.ref (p0 0), .ref (p0 64), .ref (p0 14), .int 0, .int 0, .int 0, .int 256, .int 0, .int 0, .int 0, .int (-1)]))] [.ref (p0 27)] 0 0 (fun (u9 : Unit) => [((p0 27), .inr (2, [.ref (p0 0), .ref (p0 64), .ref (p0 14), .int 0, .int 0, .int 0, .int 256, .int 0, .int 0, .int 0, .int (-1)]))]) (fun (u9 : Unit) => True) := by
  refine fun sz => k_enter (cc := cX2_step) (maxL := 3) (ret := none) (Qc := fun A => va_Qv (fun (u9 : Unit) => True) (fun u => k_B (dC, dI) vwCl (tyy cI cJ cZ cM) A ((fun (u9 : Unit) => [((p0 27), .inr (2, [.ref (p0 0), .ref (p0 64), .ref (p0 14), .int 0, .int 0, .int 0, .int 256, .int 0, .int 0, .int 0, .int (-1)]))]) u)) A) sz (by decide +kernel) rfl (Nat.le_of_ble_eq_true rfl) (fun p e s m args below meth c A ls H locs B hP hD hS hl => ?_)
  obtain ⟨hx, hb, hml, hown, hts, hr, hlk, hnm, hK, hA, hN, hC⟩ := id B
  have hown : s.vm.findClass RX2 = some m.cls := hown
  have hl : lv_has ls 3 [(0, .ref (p0 27))] := hl
  have w_0 : (Cond.fieldLink RX2 63 "WishSea$Reader" "fault" "I").before args s = true := hts _ (List.mem_of_getElem? (i := 1) rfl)
  have w_1 : (Cond.fieldLink RX2 57 "WishSea$Reader" "position" "I").before args s = true := hts _ (List.mem_of_getElem? (i := 2) rfl)
  have w_2 : (Cond.fieldLink RX2 15 "WishSea$Reader" "token" "I").before args s = true := hts _ (List.mem_of_getElem? (i := 3) rfl)
  have w_3 : (Cond.fieldLink RX2 55 "WishSea$Reader" "length" "I").before args s = true := hts _ (List.mem_of_getElem? (i := 4) rfl)
  have w_4 : (Cond.fieldLink RX2 73 "WishSea$Reader" "start" "I").before args s = true := hts _ (List.mem_of_getElem? (i := 6) rfl)
  have hinX2 : ∀ w ∈ u_ws RX2 TX2 11, w ∈ wsX2_step := fun _ h => List.mem_cons_of_mem _ (List.mem_append_right _ h)
  refine lv_aload_n hx hb dX2_step_0 rfl (lv_at hl 0 rfl) ?_
  refine k_get (D := (dC, dI)) (ci := 2) (v := .int 0) (C := RX2) (T := TX2) (N := 11) hx hb hts hinX2 hown hK hP 0 rfl rfl 9 (by decide) w_0 rfl rfl dX2_step_1 ?_
  refine lv_if_eq (tgt := 8) hx hb dX2_step_4 (by decide) (fun _ => ?_) (fun q9 => absurd q9 (by decide +kernel))
  refine lv_aload_n hx hb dX2_step_8 rfl (lv_at hl 0 rfl) ?_
  refine k_get (D := (dC, dI)) (ci := 2) (v := .int 0) (C := RX2) (T := TX2) (N := 11) hx hb hts hinX2 hown hK hP 0 rfl rfl 4 (by decide) w_1 rfl rfl dX2_step_9 ?_
  refine lv_istore_n (lv' := [(1, .int 0), (0, .ref (p0 27))]) hx hb dX2_step_12 rfl hl (by decide) rfl (fun ls hl => ?_)
  refine lv_aload_n hx hb dX2_step_13 rfl (lv_at hl 1 rfl) ?_
  refine k_get (D := (dC, dI)) (ci := 2) (v := .int 256) (C := RX2) (T := TX2) (N := 11) hx hb hts hinX2 hown hK hP 0 rfl rfl 6 (by decide) w_2 rfl rfl dX2_step_14 ?_
  refine k_ci (wc := []) (wr := [((p0 27), .inr (2, [.ref (p0 0), .ref (p0 64), .ref (p0 14), .int 0, .int 0, .int 0, .int 256, .int 0, .int 0, .int 0, .int (-1)]))]) (fun hPc hDc hFc => va_runS (As := [.int 256]) (rest := []) ⟨hx, hb, hml, hown, hts⟩ (c_X2_isWhole_v0 l dC dI cI cJ cZ cM H.size) (va_cwS 1 hts gX2_step_X2_isWhole rfl rfl rfl (by decide +kernel) ⟨(Nat.le_of_ble_eq_true rfl), (Nat.le_of_ble_eq_true rfl)⟩) (k_pS hPc hDc hK hN hC hS hFc) rfl rfl hl.1 rfl (lv_room (Nat.le_of_ble_eq_true rfl)) dX2_step_17 ⟨(Nat.le_of_ble_eq_true rfl), (Nat.le_of_ble_eq_true rfl)⟩) hP hD hS hA [] [0] rfl rfl rfl rfl (by decide) (fun _ => rfl) 0 0 rfl rfl (fun r_1 u_2 H locs hw hP hD hS => ?_)
  obtain rfl : r_1 = 0 := hw
  have hP : va_P (dC, dI) vwCl [((p0 27), .inr (2, [.ref (p0 0), .ref (p0 64), .ref (p0 14), .int 0, .int 0, .int 0, .int 256, .int 0, .int 0, .int 0, .int (-1)]))] H := hP
  have hD : va_D A [((p0 27), .inr (2, [.ref (p0 0), .ref (p0 64), .ref (p0 14), .int 0, .int 0, .int 0, .int 256, .int 0, .int 0, .int 0, .int (-1)]))] := hD
  refine lv_istore_n (lv' := [(2, .int 0), (1, .int 0), (0, .ref (p0 27))]) hx hb dX2_step_20 rfl hl (by decide) rfl (fun ls hl => ?_)
  refine lv_aload_n hx hb dX2_step_21 rfl (lv_at hl 2 rfl) ?_
  refine k_get (D := (dC, dI)) (ci := 2) (v := .int 0) (C := RX2) (T := TX2) (N := 11) hx hb hts hinX2 hown hK hP 0 rfl rfl 4 (by decide) w_1 rfl rfl dX2_step_22 ?_
  refine lv_aload_n hx hb dX2_step_25 rfl (lv_at hl 2 rfl) ?_
  refine k_get (D := (dC, dI)) (ci := 2) (v := .int 0) (C := RX2) (T := TX2) (N := 11) hx hb hts hinX2 hown hK hP 0 rfl rfl 3 (by decide) w_3 rfl rfl dX2_step_26 ?_
  refine lv_icmp_ge (tgt := 73) hx hb dX2_step_29 (by decide) (fun _ => ?_) (fun q9 => absurd q9 (by decide +kernel))
  refine lv_aload_n hx hb dX2_step_73 rfl (lv_at hl 2 rfl) ?_
  refine lv_aload_n hx hb dX2_step_74 rfl (lv_at hl 2 rfl) ?_
  refine k_get (D := (dC, dI)) (ci := 2) (v := .int 0) (C := RX2) (T := TX2) (N := 11) hx hb hts hinX2 hown hK hP 0 rfl rfl 4 (by decide) w_1 rfl rfl dX2_step_75 ?_
  refine k_put (D := (dC, dI)) (ci := 2) (v := .int 0) (C := RX2) (T := TX2) (N := 11) (ws' := [((p0 27), .inr (2, [.ref (p0 0), .ref (p0 64), .ref (p0 14), .int 0, .int 0, .int 0, .int 256, .int 0, .int 0, .int 0, .int (-1)]))]) hx hb hts hinX2 tyX2 tyX2_ok nmX2 hown hK hP hD hS 0 rfl rfl 5 (by decide) w_4 rfl rfl rfl rfl (Nat.le_of_ble_eq_true rfl) rfl dX2_step_78 (fun H locs hP hD hS => ?_)
  refine lv_aload_n hx hb dX2_step_81 rfl (lv_at hl 2 rfl) ?_
  refine k_get (D := (dC, dI)) (ci := 2) (v := .int 0) (C := RX2) (T := TX2) (N := 11) hx hb hts hinX2 hown hK hP 0 rfl rfl 4 (by decide) w_1 rfl rfl dX2_step_82 ?_
  refine lv_aload_n hx hb dX2_step_85 rfl (lv_at hl 2 rfl) ?_
  refine k_get (D := (dC, dI)) (ci := 2) (v := .int 0) (C := RX2) (T := TX2) (N := 11) hx hb hts hinX2 hown hK hP 0 rfl rfl 3 (by decide) w_3 rfl rfl dX2_step_86 ?_
  refine lv_icmp_lt (tgt := 102) hx hb dX2_step_89 (by decide) (fun q9 => absurd q9 (by decide +kernel)) (fun _ => ?_)
  refine lv_aload_n hx hb dX2_step_92 rfl (lv_at hl 2 rfl) ?_
  refine lv_sipush (v := 256) hx hb dX2_step_93 (by decide +kernel) ?_
  refine k_put (D := (dC, dI)) (ci := 2) (v := .int 256) (C := RX2) (T := TX2) (N := 11) (ws' := [((p0 27), .inr (2, [.ref (p0 0), .ref (p0 64), .ref (p0 14), .int 0, .int 0, .int 0, .int 256, .int 0, .int 0, .int 0, .int (-1)]))]) hx hb hts hinX2 tyX2 tyX2_ok nmX2 hown hK hP hD hS 0 rfl rfl 6 (by decide) w_2 rfl rfl rfl rfl (Nat.le_of_ble_eq_true rfl) rfl dX2_step_96 (fun H locs hP hD hS => ?_)
  refine lv_goto (tgt := 169) hx hb dX2_step_99 (by decide) ?_
  refine lv_iload_n hx hb dX2_step_169 rfl (lv_at hl 0 rfl) ?_
  refine lv_if_eq (tgt := 200) hx hb dX2_step_170 (by decide) (fun _ => ?_) (fun q9 => absurd q9 (by decide +kernel))
  exact k_rv B hP hD hS dX2_step_200 () [0] rfl rfl (Nat.le_of_ble_eq_true rfl) (Nat.le_of_ble_eq_true rfl) trivial
set_option maxHeartbeats 4000000 in
set_option maxRecDepth 100000 in
theorem c_X2_begin_v0 (l : Launch) (dC : Nat → ClassId) (dI : Nat → Nat → Nat) (cI cJ cZ cM : ClassId) (p0 : Nat → Nat)   : k_Mv l yX2_begin wsX2_begin ({ frames := 3, cells := 0, slots := 0, locals := 83 }) (dC, dI) vwCl (tyy cI cJ cZ cM) [((p0 27), .inr (2, [.ref (p0 0), .ref (p0 64), .ref (p0 14), .int 0, .int 0, .int 0, .int 256, .int 0, .int 0, .int 0, .int (-1)])), ((p0 14), .inr (5, [.ref (p0 15), .ref (p0 16), .ref (p0 17), .ref (p0 18), .ref (p0 19), .ref (p0 20), .ref (p0 21), .ref (p0 22), .ref (p0 23), .ref (p0 24), .ref (p0 25), .ref (p0 26), .int 0, .int 0, .int 0, .int 0, .int 0, .int 100, .int 0, .int 0])), ((p0 24), .inl (cI, 3, .inl (fun _ => 0))), ((p0 25), .inl (cI, 3, .inl (fun _ => 0))), ((p0 0), .inl (cI, 1600, .inl (fun _ => 0)))] [.ref (p0 27), .int 0, .ref (p0 14)] 0 0 (fun (u9 : Unit) => [((p0 27), .inr (2, [.ref (p0 0), .ref (p0 64), .ref (p0 14), .int 0, .int 0, .int 0, .int 256, .int 0, .int 0, .int 0, .int (-1)])), ((p0 14), .inr (5, [.ref (p0 15), .ref (p0 16), .ref (p0 17), .ref (p0 18), .ref (p0 19), .ref (p0 20), .ref (p0 21), .ref (p0 22), .ref (p0 23), .ref (p0 24), .ref (p0 25), .ref (p0 26), .int 0, .int 0, .int 0, .int 0, .int 0, .int 100, .int 0, .int 0])), ((p0 24), .inl (cI, 3, .inl (fun _ => 0))), ((p0 25), .inl (cI, 3, .inl (fun _ => 0))), ((p0 0), .inl (cI, 1600, .inl (fun _ => 0)))]) (fun (u9 : Unit) => True) := by
  refine fun sz => k_enter (cc := cX2_begin) (maxL := 3) (ret := none) (Qc := fun A => va_Qv (fun (u9 : Unit) => True) (fun u => k_B (dC, dI) vwCl (tyy cI cJ cZ cM) A ((fun (u9 : Unit) => [((p0 27), .inr (2, [.ref (p0 0), .ref (p0 64), .ref (p0 14), .int 0, .int 0, .int 0, .int 256, .int 0, .int 0, .int 0, .int (-1)])), ((p0 14), .inr (5, [.ref (p0 15), .ref (p0 16), .ref (p0 17), .ref (p0 18), .ref (p0 19), .ref (p0 20), .ref (p0 21), .ref (p0 22), .ref (p0 23), .ref (p0 24), .ref (p0 25), .ref (p0 26), .int 0, .int 0, .int 0, .int 0, .int 0, .int 100, .int 0, .int 0])), ((p0 24), .inl (cI, 3, .inl (fun _ => 0))), ((p0 25), .inl (cI, 3, .inl (fun _ => 0))), ((p0 0), .inl (cI, 1600, .inl (fun _ => 0)))]) u)) A) sz (by decide +kernel) rfl (Nat.le_of_ble_eq_true rfl) (fun p e s m args below meth c A ls H locs B hP hD hS hl => ?_)
  obtain ⟨hx, hb, hml, hown, hts, hr, hlk, hnm, hK, hA, hN, hC⟩ := id B
  have hown : s.vm.findClass RX2 = some m.cls := hown
  have hl : lv_has ls 3 [(0, .ref (p0 27)), (1, .int 0), (2, .ref (p0 14))] := hl
  have w_0 : (Cond.fieldLink RX2 26 "WishSea$Reader" "told" "LWishSea$Shore;").before args s = true := hts _ (List.mem_of_getElem? (i := 1) rfl)
  have w_1 : (Cond.fieldLink RX2 22 "WishSea$Reader" "text" "[I").before args s = true := hts _ (List.mem_of_getElem? (i := 2) rfl)
  have w_2 : (Cond.methodLink RX2 49 Lib.Math.min.name).before args s = true := hts _ (List.mem_of_getElem? (i := 3) rfl)
  have w_3 : (Cond.static Lib.Math.min.name).before args s = true := hts _ (List.mem_of_getElem? (i := 4) rfl)
  have w_4 : (Cond.initialized "java/lang/Math").before args s = true := hts _ (List.mem_of_getElem? (i := 5) rfl)
  have w_5 : (Cond.code Lib.Math.min.name Lib.Math.min.code 2 (some .int)).before args s = true := hts _ (List.mem_of_getElem? (i := 6) rfl)
  have w_6 : (Cond.fieldLink RX2 55 "WishSea$Reader" "length" "I").before args s = true := hts _ (List.mem_of_getElem? (i := 7) rfl)
  have w_7 : (Cond.fieldLink RX2 57 "WishSea$Reader" "position" "I").before args s = true := hts _ (List.mem_of_getElem? (i := 8) rfl)
  have w_8 : (Cond.fieldLink RX2 15 "WishSea$Reader" "token" "I").before args s = true := hts _ (List.mem_of_getElem? (i := 9) rfl)
  have w_9 : (Cond.fieldLink RX2 60 "WishSea$Reader" "opened" "I").before args s = true := hts _ (List.mem_of_getElem? (i := 10) rfl)
  have w_10 : (Cond.fieldLink RX2 63 "WishSea$Reader" "fault" "I").before args s = true := hts _ (List.mem_of_getElem? (i := 11) rfl)
  have w_11 : (Cond.fieldLink RX2 19 "WishSea$Reader" "place" "I").before args s = true := hts _ (List.mem_of_getElem? (i := 12) rfl)
  have hinX2 : ∀ w ∈ u_ws RX2 TX2 11, w ∈ wsX2_begin := fun _ h => List.mem_cons_of_mem _ (List.mem_append_left _ (List.mem_append_right _ h))
  refine lv_aload_n hx hb dX2_begin_0 rfl (lv_at hl 0 rfl) ?_
  refine lv_aload_n hx hb dX2_begin_1 rfl (lv_at hl 2 rfl) ?_
  refine k_put (D := (dC, dI)) (ci := 2) (v := .ref (p0 14)) (C := RX2) (T := TX2) (N := 11) (ws' := [((p0 27), .inr (2, [.ref (p0 0), .ref (p0 64), .ref (p0 14), .int 0, .int 0, .int 0, .int 256, .int 0, .int 0, .int 0, .int (-1)])), ((p0 14), .inr (5, [.ref (p0 15), .ref (p0 16), .ref (p0 17), .ref (p0 18), .ref (p0 19), .ref (p0 20), .ref (p0 21), .ref (p0 22), .ref (p0 23), .ref (p0 24), .ref (p0 25), .ref (p0 26), .int 0, .int 0, .int 0, .int 0, .int 0, .int 100, .int 0, .int 0])), ((p0 24), .inl (cI, 3, .inl (fun _ => 0))), ((p0 25), .inl (cI, 3, .inl (fun _ => 0))), ((p0 0), .inl (cI, 1600, .inl (fun _ => 0)))]) hx hb hts hinX2 tyX2 tyX2_ok nmX2 hown hK hP hD hS 0 rfl rfl 2 (by decide) w_0 rfl rfl rfl rfl (Nat.le_of_ble_eq_true rfl) rfl dX2_begin_2 (fun H locs hP hD hS => ?_)
  refine lv_aload_n hx hb dX2_begin_5 rfl (lv_at hl 0 rfl) ?_
  refine k_get (D := (dC, dI)) (ci := 2) (v := .ref (p0 14)) (C := RX2) (T := TX2) (N := 11) hx hb hts hinX2 hown hK hP 0 rfl rfl 2 (by decide) w_0 rfl rfl dX2_begin_6 ?_
  refine k_cv (wc := [((p0 14), .inr (5, [.ref (p0 15), .ref (p0 16), .ref (p0 17), .ref (p0 18), .ref (p0 19), .ref (p0 20), .ref (p0 21), .ref (p0 22), .ref (p0 23), .ref (p0 24), .ref (p0 25), .ref (p0 26), .int 0, .int 0, .int 0, .int 0, .int 0, .int 100, .int 0, .int 0])), ((p0 24), .inl (cI, 3, .inl (fun _ => 0))), ((p0 25), .inl (cI, 3, .inl (fun _ => 0)))]) (wr := [((p0 27), .inr (2, [.ref (p0 0), .ref (p0 64), .ref (p0 14), .int 0, .int 0, .int 0, .int 256, .int 0, .int 0, .int 0, .int (-1)])), ((p0 0), .inl (cI, 1600, .inl (fun _ => 0)))]) (fun hPc hDc hFc => va_runV (As := []) (rest := []) ⟨hx, hb, hml, hown, hts⟩ (c_X5_clear_v0 l dC dI cI cJ cZ cM p0 H.size) (cwV 0 hts gX2_begin_X5_clear rfl rfl rfl (by decide +kernel) ⟨(Nat.le_of_ble_eq_true rfl), (Nat.le_of_ble_eq_true rfl)⟩) (k_pV hPc hDc hK hN hC hS hFc hP (q0 := 1) (ci := 5) rfl rfl) rfl rfl hl.1 rfl (lv_room (Nat.le_of_ble_eq_true rfl)) dX2_begin_9 ⟨(Nat.le_of_ble_eq_true rfl), (Nat.le_of_ble_eq_true rfl)⟩) hP hD hS hA [1, 2, 3] [0, 4] rfl rfl rfl rfl (by decide) (fun _ => rfl) 0 0 rfl rfl (fun u_2 H locs hw hP hD hS => ?_)
  have hP : va_P (dC, dI) vwCl [((p0 27), .inr (2, [.ref (p0 0), .ref (p0 64), .ref (p0 14), .int 0, .int 0, .int 0, .int 256, .int 0, .int 0, .int 0, .int (-1)])), ((p0 0), .inl (cI, 1600, .inl (fun _ => 0))), ((p0 14), .inr (5, [.ref (p0 15), .ref (p0 16), .ref (p0 17), .ref (p0 18), .ref (p0 19), .ref (p0 20), .ref (p0 21), .ref (p0 22), .ref (p0 23), .ref (p0 24), .ref (p0 25), .ref (p0 26), .int 0, .int 0, .int 0, .int 0, .int 0, .int 100, .int 0, .int 0])), ((p0 24), .inl (cI, 3, .inl (fun _ => 0))), ((p0 25), .inl (cI, 3, .inl (fun _ => 0)))] H := hP
  have hD : va_D A [((p0 27), .inr (2, [.ref (p0 0), .ref (p0 64), .ref (p0 14), .int 0, .int 0, .int 0, .int 256, .int 0, .int 0, .int 0, .int (-1)])), ((p0 0), .inl (cI, 1600, .inl (fun _ => 0))), ((p0 14), .inr (5, [.ref (p0 15), .ref (p0 16), .ref (p0 17), .ref (p0 18), .ref (p0 19), .ref (p0 20), .ref (p0 21), .ref (p0 22), .ref (p0 23), .ref (p0 24), .ref (p0 25), .ref (p0 26), .int 0, .int 0, .int 0, .int 0, .int 0, .int 100, .int 0, .int 0])), ((p0 24), .inl (cI, 3, .inl (fun _ => 0))), ((p0 25), .inl (cI, 3, .inl (fun _ => 0)))] := hD
  refine lv_aload_n hx hb dX2_begin_12 rfl (lv_at hl 0 rfl) ?_
  refine lv_iload_n hx hb dX2_begin_13 rfl (lv_at hl 1 rfl) ?_
  refine lv_aload_n hx hb dX2_begin_14 rfl (lv_at hl 0 rfl) ?_
  refine k_get (D := (dC, dI)) (ci := 2) (v := .ref (p0 0)) (C := RX2) (T := TX2) (N := 11) hx hb hts hinX2 hown hK hP 0 rfl rfl 0 (by decide) w_1 rfl rfl dX2_begin_15 ?_
  refine va_alen (v := 1600) hx hb hK hP 1 0 rfl rfl rfl dX2_begin_18 ?_
  refine va_mmin hx hb (hml.trans hl.1.symm) hown w_2 w_3 w_4 w_5 (Nat.le_of_ble_eq_true rfl) (Nat.le_of_ble_eq_true rfl) (Nat.le_of_ble_eq_true rfl) (Nat.le_of_ble_eq_true rfl) dX2_begin_19 ?_
  refine k_int (v := 0) (by decide +kernel) ?_
  refine k_put (D := (dC, dI)) (ci := 2) (v := .int 0) (C := RX2) (T := TX2) (N := 11) (ws' := [((p0 27), .inr (2, [.ref (p0 0), .ref (p0 64), .ref (p0 14), .int 0, .int 0, .int 0, .int 256, .int 0, .int 0, .int 0, .int (-1)])), ((p0 0), .inl (cI, 1600, .inl (fun _ => 0))), ((p0 14), .inr (5, [.ref (p0 15), .ref (p0 16), .ref (p0 17), .ref (p0 18), .ref (p0 19), .ref (p0 20), .ref (p0 21), .ref (p0 22), .ref (p0 23), .ref (p0 24), .ref (p0 25), .ref (p0 26), .int 0, .int 0, .int 0, .int 0, .int 0, .int 100, .int 0, .int 0])), ((p0 24), .inl (cI, 3, .inl (fun _ => 0))), ((p0 25), .inl (cI, 3, .inl (fun _ => 0)))]) hx hb hts hinX2 tyX2 tyX2_ok nmX2 hown hK hP hD hS 0 rfl rfl 3 (by decide) w_6 rfl rfl rfl rfl (Nat.le_of_ble_eq_true rfl) rfl dX2_begin_22 (fun H locs hP hD hS => ?_)
  refine lv_aload_n hx hb dX2_begin_25 rfl (lv_at hl 0 rfl) ?_
  refine lv_iconst (v := 0) hx hb dX2_begin_26 (by decide +kernel) ?_
  refine k_put (D := (dC, dI)) (ci := 2) (v := .int 0) (C := RX2) (T := TX2) (N := 11) (ws' := [((p0 27), .inr (2, [.ref (p0 0), .ref (p0 64), .ref (p0 14), .int 0, .int 0, .int 0, .int 256, .int 0, .int 0, .int 0, .int (-1)])), ((p0 0), .inl (cI, 1600, .inl (fun _ => 0))), ((p0 14), .inr (5, [.ref (p0 15), .ref (p0 16), .ref (p0 17), .ref (p0 18), .ref (p0 19), .ref (p0 20), .ref (p0 21), .ref (p0 22), .ref (p0 23), .ref (p0 24), .ref (p0 25), .ref (p0 26), .int 0, .int 0, .int 0, .int 0, .int 0, .int 100, .int 0, .int 0])), ((p0 24), .inl (cI, 3, .inl (fun _ => 0))), ((p0 25), .inl (cI, 3, .inl (fun _ => 0)))]) hx hb hts hinX2 tyX2 tyX2_ok nmX2 hown hK hP hD hS 0 rfl rfl 4 (by decide) w_7 rfl rfl rfl rfl (Nat.le_of_ble_eq_true rfl) rfl dX2_begin_27 (fun H locs hP hD hS => ?_)
  refine lv_aload_n hx hb dX2_begin_30 rfl (lv_at hl 0 rfl) ?_
  refine lv_sipush (v := 256) hx hb dX2_begin_31 (by decide +kernel) ?_
  refine k_put (D := (dC, dI)) (ci := 2) (v := .int 256) (C := RX2) (T := TX2) (N := 11) (ws' := [((p0 27), .inr (2, [.ref (p0 0), .ref (p0 64), .ref (p0 14), .int 0, .int 0, .int 0, .int 256, .int 0, .int 0, .int 0, .int (-1)])), ((p0 0), .inl (cI, 1600, .inl (fun _ => 0))), ((p0 14), .inr (5, [.ref (p0 15), .ref (p0 16), .ref (p0 17), .ref (p0 18), .ref (p0 19), .ref (p0 20), .ref (p0 21), .ref (p0 22), .ref (p0 23), .ref (p0 24), .ref (p0 25), .ref (p0 26), .int 0, .int 0, .int 0, .int 0, .int 0, .int 100, .int 0, .int 0])), ((p0 24), .inl (cI, 3, .inl (fun _ => 0))), ((p0 25), .inl (cI, 3, .inl (fun _ => 0)))]) hx hb hts hinX2 tyX2 tyX2_ok nmX2 hown hK hP hD hS 0 rfl rfl 6 (by decide) w_8 rfl rfl rfl rfl (Nat.le_of_ble_eq_true rfl) rfl dX2_begin_34 (fun H locs hP hD hS => ?_)
  refine lv_aload_n hx hb dX2_begin_37 rfl (lv_at hl 0 rfl) ?_
  refine lv_iconst (v := 0) hx hb dX2_begin_38 (by decide +kernel) ?_
  refine k_put (D := (dC, dI)) (ci := 2) (v := .int 0) (C := RX2) (T := TX2) (N := 11) (ws' := [((p0 27), .inr (2, [.ref (p0 0), .ref (p0 64), .ref (p0 14), .int 0, .int 0, .int 0, .int 256, .int 0, .int 0, .int 0, .int (-1)])), ((p0 0), .inl (cI, 1600, .inl (fun _ => 0))), ((p0 14), .inr (5, [.ref (p0 15), .ref (p0 16), .ref (p0 17), .ref (p0 18), .ref (p0 19), .ref (p0 20), .ref (p0 21), .ref (p0 22), .ref (p0 23), .ref (p0 24), .ref (p0 25), .ref (p0 26), .int 0, .int 0, .int 0, .int 0, .int 0, .int 100, .int 0, .int 0])), ((p0 24), .inl (cI, 3, .inl (fun _ => 0))), ((p0 25), .inl (cI, 3, .inl (fun _ => 0)))]) hx hb hts hinX2 tyX2 tyX2_ok nmX2 hown hK hP hD hS 0 rfl rfl 8 (by decide) w_9 rfl rfl rfl rfl (Nat.le_of_ble_eq_true rfl) rfl dX2_begin_39 (fun H locs hP hD hS => ?_)
  refine lv_aload_n hx hb dX2_begin_42 rfl (lv_at hl 0 rfl) ?_
  refine lv_iconst (v := 0) hx hb dX2_begin_43 (by decide +kernel) ?_
  refine k_put (D := (dC, dI)) (ci := 2) (v := .int 0) (C := RX2) (T := TX2) (N := 11) (ws' := [((p0 27), .inr (2, [.ref (p0 0), .ref (p0 64), .ref (p0 14), .int 0, .int 0, .int 0, .int 256, .int 0, .int 0, .int 0, .int (-1)])), ((p0 0), .inl (cI, 1600, .inl (fun _ => 0))), ((p0 14), .inr (5, [.ref (p0 15), .ref (p0 16), .ref (p0 17), .ref (p0 18), .ref (p0 19), .ref (p0 20), .ref (p0 21), .ref (p0 22), .ref (p0 23), .ref (p0 24), .ref (p0 25), .ref (p0 26), .int 0, .int 0, .int 0, .int 0, .int 0, .int 100, .int 0, .int 0])), ((p0 24), .inl (cI, 3, .inl (fun _ => 0))), ((p0 25), .inl (cI, 3, .inl (fun _ => 0)))]) hx hb hts hinX2 tyX2 tyX2_ok nmX2 hown hK hP hD hS 0 rfl rfl 9 (by decide) w_10 rfl rfl rfl rfl (Nat.le_of_ble_eq_true rfl) rfl dX2_begin_44 (fun H locs hP hD hS => ?_)
  refine lv_aload_n hx hb dX2_begin_47 rfl (lv_at hl 0 rfl) ?_
  refine lv_iconst (v := (-1)) hx hb dX2_begin_48 (by decide +kernel) ?_
  refine k_put (D := (dC, dI)) (ci := 2) (v := .int (-1)) (C := RX2) (T := TX2) (N := 11) (ws' := [((p0 27), .inr (2, [.ref (p0 0), .ref (p0 64), .ref (p0 14), .int 0, .int 0, .int 0, .int 256, .int 0, .int 0, .int 0, .int (-1)])), ((p0 0), .inl (cI, 1600, .inl (fun _ => 0))), ((p0 14), .inr (5, [.ref (p0 15), .ref (p0 16), .ref (p0 17), .ref (p0 18), .ref (p0 19), .ref (p0 20), .ref (p0 21), .ref (p0 22), .ref (p0 23), .ref (p0 24), .ref (p0 25), .ref (p0 26), .int 0, .int 0, .int 0, .int 0, .int 0, .int 100, .int 0, .int 0])), ((p0 24), .inl (cI, 3, .inl (fun _ => 0))), ((p0 25), .inl (cI, 3, .inl (fun _ => 0)))]) hx hb hts hinX2 tyX2 tyX2_ok nmX2 hown hK hP hD hS 0 rfl rfl 10 (by decide) w_11 rfl rfl rfl rfl (Nat.le_of_ble_eq_true rfl) rfl dX2_begin_49 (fun H locs hP hD hS => ?_)
  refine lv_aload_n hx hb dX2_begin_52 rfl (lv_at hl 0 rfl) ?_
  refine k_cv (wc := [((p0 27), .inr (2, [.ref (p0 0), .ref (p0 64), .ref (p0 14), .int 0, .int 0, .int 0, .int 256, .int 0, .int 0, .int 0, .int (-1)]))]) (wr := [((p0 0), .inl (cI, 1600, .inl (fun _ => 0))), ((p0 14), .inr (5, [.ref (p0 15), .ref (p0 16), .ref (p0 17), .ref (p0 18), .ref (p0 19), .ref (p0 20), .ref (p0 21), .ref (p0 22), .ref (p0 23), .ref (p0 24), .ref (p0 25), .ref (p0 26), .int 0, .int 0, .int 0, .int 0, .int 0, .int 100, .int 0, .int 0])), ((p0 24), .inl (cI, 3, .inl (fun _ => 0))), ((p0 25), .inl (cI, 3, .inl (fun _ => 0)))]) (fun hPc hDc hFc => va_runV (As := []) (rest := []) ⟨hx, hb, hml, hown, hts⟩ (c_X2_step_v0 l dC dI cI cJ cZ cM p0 H.size) (cwV 0 hts gX2_begin_X2_step rfl rfl rfl (by decide +kernel) ⟨(Nat.le_of_ble_eq_true rfl), (Nat.le_of_ble_eq_true rfl)⟩) (k_pV hPc hDc hK hN hC hS hFc hP (q0 := 0) (ci := 2) rfl rfl) rfl rfl hl.1 rfl (lv_room (Nat.le_of_ble_eq_true rfl)) dX2_begin_53 ⟨(Nat.le_of_ble_eq_true rfl), (Nat.le_of_ble_eq_true rfl)⟩) hP hD hS hA [0] [1, 2, 3, 4] rfl rfl rfl rfl (by decide) (fun _ => rfl) 0 0 rfl rfl (fun u_4 H locs hw hP hD hS => ?_)
  have hP : va_P (dC, dI) vwCl [((p0 0), .inl (cI, 1600, .inl (fun _ => 0))), ((p0 14), .inr (5, [.ref (p0 15), .ref (p0 16), .ref (p0 17), .ref (p0 18), .ref (p0 19), .ref (p0 20), .ref (p0 21), .ref (p0 22), .ref (p0 23), .ref (p0 24), .ref (p0 25), .ref (p0 26), .int 0, .int 0, .int 0, .int 0, .int 0, .int 100, .int 0, .int 0])), ((p0 24), .inl (cI, 3, .inl (fun _ => 0))), ((p0 25), .inl (cI, 3, .inl (fun _ => 0))), ((p0 27), .inr (2, [.ref (p0 0), .ref (p0 64), .ref (p0 14), .int 0, .int 0, .int 0, .int 256, .int 0, .int 0, .int 0, .int (-1)]))] H := hP
  have hD : va_D A [((p0 0), .inl (cI, 1600, .inl (fun _ => 0))), ((p0 14), .inr (5, [.ref (p0 15), .ref (p0 16), .ref (p0 17), .ref (p0 18), .ref (p0 19), .ref (p0 20), .ref (p0 21), .ref (p0 22), .ref (p0 23), .ref (p0 24), .ref (p0 25), .ref (p0 26), .int 0, .int 0, .int 0, .int 0, .int 0, .int 100, .int 0, .int 0])), ((p0 24), .inl (cI, 3, .inl (fun _ => 0))), ((p0 25), .inl (cI, 3, .inl (fun _ => 0))), ((p0 27), .inr (2, [.ref (p0 0), .ref (p0 64), .ref (p0 14), .int 0, .int 0, .int 0, .int 256, .int 0, .int 0, .int 0, .int (-1)]))] := hD
  exact k_rv B hP hD hS dX2_begin_56 () [4, 1, 2, 3, 0] rfl rfl (Nat.le_of_ble_eq_true rfl) (Nat.le_of_ble_eq_true rfl) trivial
