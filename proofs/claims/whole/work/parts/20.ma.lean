set_option maxHeartbeats 4000000 in
set_option maxRecDepth 100000 in
theorem c_X7_put_v0 (l : Launch) (dC : Nat → ClassId) (dI : Nat → Nat → Nat) (cI cJ cZ cM : ClassId) (p0 : Nat) (p1 : Int32) (p2 : Nat → Nat)   : k_Mv l yX7_put wsX7_put ({ frames := 1, cells := 0, slots := 0, locals := 40 }) (dC, dI) vwCl (tyy cI cJ cZ cM) [(p0, .inr (7, oM p2 i7 j7)), ((p2 0), .inl (cI, 1800, .inl (fun _ => 0)))] [.ref p0, .int p1] 0 0 (fun (u9 : Unit) => [(p0, .inr (7, oM p2 (upd i7 1 4) j7)), ((p2 0), .inl (cI, 1800, .inl (upd (upd (upd (upd (fun _ => 0) 0 ((p1 >>> (24 &&& 31)) &&& 255)) 1 ((p1 >>> (16 &&& 31)) &&& 255)) 2 ((p1 >>> (8 &&& 31)) &&& 255)) 3 ((p1 >>> (0 &&& 31)) &&& 255))))]) (fun (u9 : Unit) => True) := by
  refine fun sz => k_enter (cc := cX7_put) (maxL := 3) (ret := none) (Qc := fun A => va_Qv (fun (u9 : Unit) => True) (fun u => k_B (dC, dI) vwCl (tyy cI cJ cZ cM) A ((fun (u9 : Unit) => [(p0, .inr (7, oM p2 (upd i7 1 4) j7)), ((p2 0), .inl (cI, 1800, .inl (upd (upd (upd (upd (fun _ => 0) 0 ((p1 >>> (24 &&& 31)) &&& 255)) 1 ((p1 >>> (16 &&& 31)) &&& 255)) 2 ((p1 >>> (8 &&& 31)) &&& 255)) 3 ((p1 >>> (0 &&& 31)) &&& 255))))]) u)) A) sz (by decide +kernel) rfl (Nat.le_of_ble_eq_true rfl) (fun p e s m args below meth c A ls H B hP hD hS hl => ?_)
  obtain ⟨hx, hb, hml, hown, hts, hr, hlk, hnm, hK, hA, hN⟩ := id B
  have hown : s.vm.findClass RX7 = some m.cls := hown
  have hl : lv_has ls 3 [(0, .ref p0), (1, .int p1)] := hl
  have w_0 : (Cond.fieldLink RX7 7 "WishSeaModel" "tape" "[I").before args s = true := hts _ (List.mem_of_getElem? (i := 1) rfl)
  have w_1 : (Cond.fieldLink RX7 13 "WishSeaModel" "taped" "I").before args s = true := hts _ (List.mem_of_getElem? (i := 2) rfl)
  have hinX7 : ∀ w ∈ u_ws RX7 TX7 92, w ∈ wsX7_put := fun _ h => List.mem_cons_of_mem _ (List.mem_append_right _ h)
  refine lv_bipush (v := 24) hx hb dX7_put_0 (by decide +kernel) ?_
  refine lv_istore_n (lv' := [(2, .int 24), (0, .ref p0), (1, .int p1)]) hx hb dX7_put_2 rfl hl (by decide) rfl (fun ls hl => ?_)
  refine lv_iload_n hx hb dX7_put_3 rfl (lv_at hl 0 rfl) ?_
  refine lv_if_lt (tgt := 39) hx hb dX7_put_4 (by decide) (fun q9 => absurd q9 (by decide +kernel)) (fun _ => ?_)
  refine lv_aload_n hx hb dX7_put_7 rfl (lv_at hl 1 rfl) ?_
  refine k_get (D := (dC, dI)) (ci := 7) (v := .ref (p2 0)) (C := RX7) (T := TX7) (N := 92) hx hb hts hinX7 hown hK hP 0 rfl rfl 0 (by decide) w_0 rfl rfl dX7_put_8 ?_
  refine lv_aload_n hx hb dX7_put_11 rfl (lv_at hl 1 rfl) ?_
  refine k_get (D := (dC, dI)) (ci := 7) (v := .int 0) (C := RX7) (T := TX7) (N := 92) hx hb hts hinX7 hown hK hP 0 rfl rfl 1 (by decide) w_1 rfl rfl dX7_put_12 ?_
  refine lv_iload_n hx hb dX7_put_15 rfl (lv_at hl 2 rfl) ?_
  refine lv_iload_n hx hb dX7_put_16 rfl (lv_at hl 0 rfl) ?_
  refine lv_ishr hx hb dX7_put_17 ?_
  refine lv_sipush (v := 255) hx hb dX7_put_18 (by decide +kernel) ?_
  refine lv_iand hx hb dX7_put_21 ?_
  refine k_iast (g := (upd (fun _ => 0) 0 ((p1 >>> (24 &&& 31)) &&& 255))) (ws' := [(p0, .inr (7, oM p2 i7 j7)), ((p2 0), .inl (cI, 1800, .inl (upd (fun _ => 0) 0 ((p1 >>> (24 &&& 31)) &&& 255))))]) hx hb hK hP hD hS 1 0 0 rfl rfl rfl (Nat.le_of_ble_eq_true rfl) (Nat.le_of_ble_eq_true rfl) rfl rfl dX7_put_22 (fun H locs hP hD hS => ?_)
  refine lv_aload_n hx hb dX7_put_23 rfl (lv_at hl 1 rfl) ?_
  refine lv_dup hx hb dX7_put_24 rfl ?_
  refine k_get (D := (dC, dI)) (ci := 7) (v := .int 0) (C := RX7) (T := TX7) (N := 92) hx hb hts hinX7 hown hK hP 0 rfl rfl 1 (by decide) w_1 rfl rfl dX7_put_25 ?_
  refine lv_iconst (v := 1) hx hb dX7_put_28 (by decide +kernel) ?_
  refine lv_iadd hx hb dX7_put_29 ?_
  refine k_int (v := 1) (by decide +kernel) ?_
  refine k_put (D := (dC, dI)) (ci := 7) (v := .int 1) (C := RX7) (T := TX7) (N := 92) (ws' := [(p0, .inr (7, oM p2 (upd i7 1 1) j7)), ((p2 0), .inl (cI, 1800, .inl (upd (fun _ => 0) 0 ((p1 >>> (24 &&& 31)) &&& 255))))]) hx hb hts hinX7 tyX7 tyX7_ok nmX7 hown hK hP hD hS 0 rfl rfl 1 (by decide) w_1 rfl rfl rfl rfl (Nat.le_of_ble_eq_true rfl) rfl dX7_put_30 (fun H locs hP hD hS => ?_)
  refine lv_iinc (v := 16) (lv' := [(2, .int 16), (0, .ref p0), (1, .int p1)]) hx hb dX7_put_33 hl (k := 0) rfl (by decide +kernel) (by decide) rfl (fun ls hl => ?_)
  refine lv_goto (tgt := 3) hx hb dX7_put_36 (by decide) ?_
  refine lv_iload_n hx hb dX7_put_3 rfl (lv_at hl 0 rfl) ?_
  refine lv_if_lt (tgt := 39) hx hb dX7_put_4 (by decide) (fun q9 => absurd q9 (by decide +kernel)) (fun _ => ?_)
  refine lv_aload_n hx hb dX7_put_7 rfl (lv_at hl 1 rfl) ?_
  refine k_get (D := (dC, dI)) (ci := 7) (v := .ref (p2 0)) (C := RX7) (T := TX7) (N := 92) hx hb hts hinX7 hown hK hP 0 rfl rfl 0 (by decide) w_0 rfl rfl dX7_put_8 ?_
  refine lv_aload_n hx hb dX7_put_11 rfl (lv_at hl 1 rfl) ?_
  refine k_get (D := (dC, dI)) (ci := 7) (v := .int 1) (C := RX7) (T := TX7) (N := 92) hx hb hts hinX7 hown hK hP 0 rfl rfl 1 (by decide) w_1 rfl rfl dX7_put_12 ?_
  refine lv_iload_n hx hb dX7_put_15 rfl (lv_at hl 2 rfl) ?_
  refine lv_iload_n hx hb dX7_put_16 rfl (lv_at hl 0 rfl) ?_
  refine lv_ishr hx hb dX7_put_17 ?_
  refine lv_sipush (v := 255) hx hb dX7_put_18 (by decide +kernel) ?_
  refine lv_iand hx hb dX7_put_21 ?_
  refine k_iast (g := (upd (upd (fun _ => 0) 0 ((p1 >>> (24 &&& 31)) &&& 255)) 1 ((p1 >>> (16 &&& 31)) &&& 255))) (ws' := [(p0, .inr (7, oM p2 (upd i7 1 1) j7)), ((p2 0), .inl (cI, 1800, .inl (upd (upd (fun _ => 0) 0 ((p1 >>> (24 &&& 31)) &&& 255)) 1 ((p1 >>> (16 &&& 31)) &&& 255))))]) hx hb hK hP hD hS 1 0 1 rfl rfl rfl (Nat.le_of_ble_eq_true rfl) (Nat.le_of_ble_eq_true rfl) rfl rfl dX7_put_22 (fun H locs hP hD hS => ?_)
  refine lv_aload_n hx hb dX7_put_23 rfl (lv_at hl 1 rfl) ?_
  refine lv_dup hx hb dX7_put_24 rfl ?_
  refine k_get (D := (dC, dI)) (ci := 7) (v := .int 1) (C := RX7) (T := TX7) (N := 92) hx hb hts hinX7 hown hK hP 0 rfl rfl 1 (by decide) w_1 rfl rfl dX7_put_25 ?_
  refine lv_iconst (v := 1) hx hb dX7_put_28 (by decide +kernel) ?_
  refine lv_iadd hx hb dX7_put_29 ?_
  refine k_int (v := 2) (by decide +kernel) ?_
  refine k_put (D := (dC, dI)) (ci := 7) (v := .int 2) (C := RX7) (T := TX7) (N := 92) (ws' := [(p0, .inr (7, oM p2 (upd i7 1 2) j7)), ((p2 0), .inl (cI, 1800, .inl (upd (upd (fun _ => 0) 0 ((p1 >>> (24 &&& 31)) &&& 255)) 1 ((p1 >>> (16 &&& 31)) &&& 255))))]) hx hb hts hinX7 tyX7 tyX7_ok nmX7 hown hK hP hD hS 0 rfl rfl 1 (by decide) w_1 rfl rfl rfl rfl (Nat.le_of_ble_eq_true rfl) rfl dX7_put_30 (fun H locs hP hD hS => ?_)
  refine lv_iinc (v := 8) (lv' := [(2, .int 8), (0, .ref p0), (1, .int p1)]) hx hb dX7_put_33 hl (k := 0) rfl (by decide +kernel) (by decide) rfl (fun ls hl => ?_)
  refine lv_goto (tgt := 3) hx hb dX7_put_36 (by decide) ?_
  refine lv_iload_n hx hb dX7_put_3 rfl (lv_at hl 0 rfl) ?_
  refine lv_if_lt (tgt := 39) hx hb dX7_put_4 (by decide) (fun q9 => absurd q9 (by decide +kernel)) (fun _ => ?_)
  refine lv_aload_n hx hb dX7_put_7 rfl (lv_at hl 1 rfl) ?_
  refine k_get (D := (dC, dI)) (ci := 7) (v := .ref (p2 0)) (C := RX7) (T := TX7) (N := 92) hx hb hts hinX7 hown hK hP 0 rfl rfl 0 (by decide) w_0 rfl rfl dX7_put_8 ?_
  refine lv_aload_n hx hb dX7_put_11 rfl (lv_at hl 1 rfl) ?_
  refine k_get (D := (dC, dI)) (ci := 7) (v := .int 2) (C := RX7) (T := TX7) (N := 92) hx hb hts hinX7 hown hK hP 0 rfl rfl 1 (by decide) w_1 rfl rfl dX7_put_12 ?_
  refine lv_iload_n hx hb dX7_put_15 rfl (lv_at hl 2 rfl) ?_
  refine lv_iload_n hx hb dX7_put_16 rfl (lv_at hl 0 rfl) ?_
  refine lv_ishr hx hb dX7_put_17 ?_
  refine lv_sipush (v := 255) hx hb dX7_put_18 (by decide +kernel) ?_
  refine lv_iand hx hb dX7_put_21 ?_
  refine k_iast (g := (upd (upd (upd (fun _ => 0) 0 ((p1 >>> (24 &&& 31)) &&& 255)) 1 ((p1 >>> (16 &&& 31)) &&& 255)) 2 ((p1 >>> (8 &&& 31)) &&& 255))) (ws' := [(p0, .inr (7, oM p2 (upd i7 1 2) j7)), ((p2 0), .inl (cI, 1800, .inl (upd (upd (upd (fun _ => 0) 0 ((p1 >>> (24 &&& 31)) &&& 255)) 1 ((p1 >>> (16 &&& 31)) &&& 255)) 2 ((p1 >>> (8 &&& 31)) &&& 255))))]) hx hb hK hP hD hS 1 0 2 rfl rfl rfl (Nat.le_of_ble_eq_true rfl) (Nat.le_of_ble_eq_true rfl) rfl rfl dX7_put_22 (fun H locs hP hD hS => ?_)
  refine lv_aload_n hx hb dX7_put_23 rfl (lv_at hl 1 rfl) ?_
  refine lv_dup hx hb dX7_put_24 rfl ?_
  refine k_get (D := (dC, dI)) (ci := 7) (v := .int 2) (C := RX7) (T := TX7) (N := 92) hx hb hts hinX7 hown hK hP 0 rfl rfl 1 (by decide) w_1 rfl rfl dX7_put_25 ?_
  refine lv_iconst (v := 1) hx hb dX7_put_28 (by decide +kernel) ?_
  refine lv_iadd hx hb dX7_put_29 ?_
  refine k_int (v := 3) (by decide +kernel) ?_
  refine k_put (D := (dC, dI)) (ci := 7) (v := .int 3) (C := RX7) (T := TX7) (N := 92) (ws' := [(p0, .inr (7, oM p2 (upd i7 1 3) j7)), ((p2 0), .inl (cI, 1800, .inl (upd (upd (upd (fun _ => 0) 0 ((p1 >>> (24 &&& 31)) &&& 255)) 1 ((p1 >>> (16 &&& 31)) &&& 255)) 2 ((p1 >>> (8 &&& 31)) &&& 255))))]) hx hb hts hinX7 tyX7 tyX7_ok nmX7 hown hK hP hD hS 0 rfl rfl 1 (by decide) w_1 rfl rfl rfl rfl (Nat.le_of_ble_eq_true rfl) rfl dX7_put_30 (fun H locs hP hD hS => ?_)
  refine lv_iinc (v := 0) (lv' := [(2, .int 0), (0, .ref p0), (1, .int p1)]) hx hb dX7_put_33 hl (k := 0) rfl (by decide +kernel) (by decide) rfl (fun ls hl => ?_)
  refine lv_goto (tgt := 3) hx hb dX7_put_36 (by decide) ?_
  refine lv_iload_n hx hb dX7_put_3 rfl (lv_at hl 0 rfl) ?_
  refine lv_if_lt (tgt := 39) hx hb dX7_put_4 (by decide) (fun q9 => absurd q9 (by decide +kernel)) (fun _ => ?_)
  refine lv_aload_n hx hb dX7_put_7 rfl (lv_at hl 1 rfl) ?_
  refine k_get (D := (dC, dI)) (ci := 7) (v := .ref (p2 0)) (C := RX7) (T := TX7) (N := 92) hx hb hts hinX7 hown hK hP 0 rfl rfl 0 (by decide) w_0 rfl rfl dX7_put_8 ?_
  refine lv_aload_n hx hb dX7_put_11 rfl (lv_at hl 1 rfl) ?_
  refine k_get (D := (dC, dI)) (ci := 7) (v := .int 3) (C := RX7) (T := TX7) (N := 92) hx hb hts hinX7 hown hK hP 0 rfl rfl 1 (by decide) w_1 rfl rfl dX7_put_12 ?_
  refine lv_iload_n hx hb dX7_put_15 rfl (lv_at hl 2 rfl) ?_
  refine lv_iload_n hx hb dX7_put_16 rfl (lv_at hl 0 rfl) ?_
  refine lv_ishr hx hb dX7_put_17 ?_
  refine lv_sipush (v := 255) hx hb dX7_put_18 (by decide +kernel) ?_
  refine lv_iand hx hb dX7_put_21 ?_
  refine k_iast (g := (upd (upd (upd (upd (fun _ => 0) 0 ((p1 >>> (24 &&& 31)) &&& 255)) 1 ((p1 >>> (16 &&& 31)) &&& 255)) 2 ((p1 >>> (8 &&& 31)) &&& 255)) 3 ((p1 >>> (0 &&& 31)) &&& 255))) (ws' := [(p0, .inr (7, oM p2 (upd i7 1 3) j7)), ((p2 0), .inl (cI, 1800, .inl (upd (upd (upd (upd (fun _ => 0) 0 ((p1 >>> (24 &&& 31)) &&& 255)) 1 ((p1 >>> (16 &&& 31)) &&& 255)) 2 ((p1 >>> (8 &&& 31)) &&& 255)) 3 ((p1 >>> (0 &&& 31)) &&& 255))))]) hx hb hK hP hD hS 1 0 3 rfl rfl rfl (Nat.le_of_ble_eq_true rfl) (Nat.le_of_ble_eq_true rfl) rfl rfl dX7_put_22 (fun H locs hP hD hS => ?_)
  refine lv_aload_n hx hb dX7_put_23 rfl (lv_at hl 1 rfl) ?_
  refine lv_dup hx hb dX7_put_24 rfl ?_
  refine k_get (D := (dC, dI)) (ci := 7) (v := .int 3) (C := RX7) (T := TX7) (N := 92) hx hb hts hinX7 hown hK hP 0 rfl rfl 1 (by decide) w_1 rfl rfl dX7_put_25 ?_
  refine lv_iconst (v := 1) hx hb dX7_put_28 (by decide +kernel) ?_
  refine lv_iadd hx hb dX7_put_29 ?_
  refine k_int (v := 4) (by decide +kernel) ?_
  refine k_put (D := (dC, dI)) (ci := 7) (v := .int 4) (C := RX7) (T := TX7) (N := 92) (ws' := [(p0, .inr (7, oM p2 (upd i7 1 4) j7)), ((p2 0), .inl (cI, 1800, .inl (upd (upd (upd (upd (fun _ => 0) 0 ((p1 >>> (24 &&& 31)) &&& 255)) 1 ((p1 >>> (16 &&& 31)) &&& 255)) 2 ((p1 >>> (8 &&& 31)) &&& 255)) 3 ((p1 >>> (0 &&& 31)) &&& 255))))]) hx hb hts hinX7 tyX7 tyX7_ok nmX7 hown hK hP hD hS 0 rfl rfl 1 (by decide) w_1 rfl rfl rfl rfl (Nat.le_of_ble_eq_true rfl) rfl dX7_put_30 (fun H locs hP hD hS => ?_)
  refine lv_iinc (v := (-8)) (lv' := [(2, .int (-8)), (0, .ref p0), (1, .int p1)]) hx hb dX7_put_33 hl (k := 0) rfl (by decide +kernel) (by decide) rfl (fun ls hl => ?_)
  refine lv_goto (tgt := 3) hx hb dX7_put_36 (by decide) ?_
  refine lv_iload_n hx hb dX7_put_3 rfl (lv_at hl 0 rfl) ?_
  refine lv_if_lt (tgt := 39) hx hb dX7_put_4 (by decide) (fun _ => ?_) (fun q9 => absurd q9 (by decide +kernel))
  exact k_rv B hP hD hS dX7_put_39 () [0, 1] rfl rfl (Nat.le_of_ble_eq_true rfl) (Nat.le_of_ble_eq_true rfl) trivial
set_option maxHeartbeats 4000000 in
set_option maxRecDepth 100000 in
theorem c_X7_put_v1 (l : Launch) (dC : Nat → ClassId) (dI : Nat → Nat → Nat) (cI cJ cZ cM : ClassId) (p0 : Nat) (p1 : Int32) (p2 : Nat → Nat) (p3 : Int32)   : k_Mv l yX7_put wsX7_put ({ frames := 1, cells := 0, slots := 0, locals := 40 }) (dC, dI) vwCl (tyy cI cJ cZ cM) [(p0, .inr (7, oM p2 (upd i7 1 4) j7)), ((p2 0), .inl (cI, 1800, .inl (upd (upd (upd (upd (fun _ => 0) 0 ((p3 >>> (24 &&& 31)) &&& 255)) 1 ((p3 >>> (16 &&& 31)) &&& 255)) 2 ((p3 >>> (8 &&& 31)) &&& 255)) 3 ((p3 >>> (0 &&& 31)) &&& 255))))] [.ref p0, .int p1] 0 0 (fun (u9 : Unit) => [(p0, .inr (7, oM p2 (upd i7 1 8) j7)), ((p2 0), .inl (cI, 1800, .inl (upd (upd (upd (upd (upd (upd (upd (upd (fun _ => 0) 0 ((p3 >>> (24 &&& 31)) &&& 255)) 1 ((p3 >>> (16 &&& 31)) &&& 255)) 2 ((p3 >>> (8 &&& 31)) &&& 255)) 3 ((p3 >>> (0 &&& 31)) &&& 255)) 4 ((p1 >>> (24 &&& 31)) &&& 255)) 5 ((p1 >>> (16 &&& 31)) &&& 255)) 6 ((p1 >>> (8 &&& 31)) &&& 255)) 7 ((p1 >>> (0 &&& 31)) &&& 255))))]) (fun (u9 : Unit) => True) := by
  refine fun sz => k_enter (cc := cX7_put) (maxL := 3) (ret := none) (Qc := fun A => va_Qv (fun (u9 : Unit) => True) (fun u => k_B (dC, dI) vwCl (tyy cI cJ cZ cM) A ((fun (u9 : Unit) => [(p0, .inr (7, oM p2 (upd i7 1 8) j7)), ((p2 0), .inl (cI, 1800, .inl (upd (upd (upd (upd (upd (upd (upd (upd (fun _ => 0) 0 ((p3 >>> (24 &&& 31)) &&& 255)) 1 ((p3 >>> (16 &&& 31)) &&& 255)) 2 ((p3 >>> (8 &&& 31)) &&& 255)) 3 ((p3 >>> (0 &&& 31)) &&& 255)) 4 ((p1 >>> (24 &&& 31)) &&& 255)) 5 ((p1 >>> (16 &&& 31)) &&& 255)) 6 ((p1 >>> (8 &&& 31)) &&& 255)) 7 ((p1 >>> (0 &&& 31)) &&& 255))))]) u)) A) sz (by decide +kernel) rfl (Nat.le_of_ble_eq_true rfl) (fun p e s m args below meth c A ls H B hP hD hS hl => ?_)
  obtain ⟨hx, hb, hml, hown, hts, hr, hlk, hnm, hK, hA, hN⟩ := id B
  have hown : s.vm.findClass RX7 = some m.cls := hown
  have hl : lv_has ls 3 [(0, .ref p0), (1, .int p1)] := hl
  have w_0 : (Cond.fieldLink RX7 7 "WishSeaModel" "tape" "[I").before args s = true := hts _ (List.mem_of_getElem? (i := 1) rfl)
  have w_1 : (Cond.fieldLink RX7 13 "WishSeaModel" "taped" "I").before args s = true := hts _ (List.mem_of_getElem? (i := 2) rfl)
  have hinX7 : ∀ w ∈ u_ws RX7 TX7 92, w ∈ wsX7_put := fun _ h => List.mem_cons_of_mem _ (List.mem_append_right _ h)
  refine lv_bipush (v := 24) hx hb dX7_put_0 (by decide +kernel) ?_
  refine lv_istore_n (lv' := [(2, .int 24), (0, .ref p0), (1, .int p1)]) hx hb dX7_put_2 rfl hl (by decide) rfl (fun ls hl => ?_)
  refine lv_iload_n hx hb dX7_put_3 rfl (lv_at hl 0 rfl) ?_
  refine lv_if_lt (tgt := 39) hx hb dX7_put_4 (by decide) (fun q9 => absurd q9 (by decide +kernel)) (fun _ => ?_)
  refine lv_aload_n hx hb dX7_put_7 rfl (lv_at hl 1 rfl) ?_
  refine k_get (D := (dC, dI)) (ci := 7) (v := .ref (p2 0)) (C := RX7) (T := TX7) (N := 92) hx hb hts hinX7 hown hK hP 0 rfl rfl 0 (by decide) w_0 rfl rfl dX7_put_8 ?_
  refine lv_aload_n hx hb dX7_put_11 rfl (lv_at hl 1 rfl) ?_
  refine k_get (D := (dC, dI)) (ci := 7) (v := .int 4) (C := RX7) (T := TX7) (N := 92) hx hb hts hinX7 hown hK hP 0 rfl rfl 1 (by decide) w_1 rfl rfl dX7_put_12 ?_
  refine lv_iload_n hx hb dX7_put_15 rfl (lv_at hl 2 rfl) ?_
  refine lv_iload_n hx hb dX7_put_16 rfl (lv_at hl 0 rfl) ?_
  refine lv_ishr hx hb dX7_put_17 ?_
  refine lv_sipush (v := 255) hx hb dX7_put_18 (by decide +kernel) ?_
  refine lv_iand hx hb dX7_put_21 ?_
  refine k_iast (g := (upd (upd (upd (upd (upd (fun _ => 0) 0 ((p3 >>> (24 &&& 31)) &&& 255)) 1 ((p3 >>> (16 &&& 31)) &&& 255)) 2 ((p3 >>> (8 &&& 31)) &&& 255)) 3 ((p3 >>> (0 &&& 31)) &&& 255)) 4 ((p1 >>> (24 &&& 31)) &&& 255))) (ws' := [(p0, .inr (7, oM p2 (upd i7 1 4) j7)), ((p2 0), .inl (cI, 1800, .inl (upd (upd (upd (upd (upd (fun _ => 0) 0 ((p3 >>> (24 &&& 31)) &&& 255)) 1 ((p3 >>> (16 &&& 31)) &&& 255)) 2 ((p3 >>> (8 &&& 31)) &&& 255)) 3 ((p3 >>> (0 &&& 31)) &&& 255)) 4 ((p1 >>> (24 &&& 31)) &&& 255))))]) hx hb hK hP hD hS 1 0 4 rfl rfl rfl (Nat.le_of_ble_eq_true rfl) (Nat.le_of_ble_eq_true rfl) rfl rfl dX7_put_22 (fun H locs hP hD hS => ?_)
  refine lv_aload_n hx hb dX7_put_23 rfl (lv_at hl 1 rfl) ?_
  refine lv_dup hx hb dX7_put_24 rfl ?_
  refine k_get (D := (dC, dI)) (ci := 7) (v := .int 4) (C := RX7) (T := TX7) (N := 92) hx hb hts hinX7 hown hK hP 0 rfl rfl 1 (by decide) w_1 rfl rfl dX7_put_25 ?_
  refine lv_iconst (v := 1) hx hb dX7_put_28 (by decide +kernel) ?_
  refine lv_iadd hx hb dX7_put_29 ?_
  refine k_int (v := 5) (by decide +kernel) ?_
  refine k_put (D := (dC, dI)) (ci := 7) (v := .int 5) (C := RX7) (T := TX7) (N := 92) (ws' := [(p0, .inr (7, oM p2 (upd i7 1 5) j7)), ((p2 0), .inl (cI, 1800, .inl (upd (upd (upd (upd (upd (fun _ => 0) 0 ((p3 >>> (24 &&& 31)) &&& 255)) 1 ((p3 >>> (16 &&& 31)) &&& 255)) 2 ((p3 >>> (8 &&& 31)) &&& 255)) 3 ((p3 >>> (0 &&& 31)) &&& 255)) 4 ((p1 >>> (24 &&& 31)) &&& 255))))]) hx hb hts hinX7 tyX7 tyX7_ok nmX7 hown hK hP hD hS 0 rfl rfl 1 (by decide) w_1 rfl rfl rfl rfl (Nat.le_of_ble_eq_true rfl) rfl dX7_put_30 (fun H locs hP hD hS => ?_)
  refine lv_iinc (v := 16) (lv' := [(2, .int 16), (0, .ref p0), (1, .int p1)]) hx hb dX7_put_33 hl (k := 0) rfl (by decide +kernel) (by decide) rfl (fun ls hl => ?_)
  refine lv_goto (tgt := 3) hx hb dX7_put_36 (by decide) ?_
  refine lv_iload_n hx hb dX7_put_3 rfl (lv_at hl 0 rfl) ?_
  refine lv_if_lt (tgt := 39) hx hb dX7_put_4 (by decide) (fun q9 => absurd q9 (by decide +kernel)) (fun _ => ?_)
  refine lv_aload_n hx hb dX7_put_7 rfl (lv_at hl 1 rfl) ?_
  refine k_get (D := (dC, dI)) (ci := 7) (v := .ref (p2 0)) (C := RX7) (T := TX7) (N := 92) hx hb hts hinX7 hown hK hP 0 rfl rfl 0 (by decide) w_0 rfl rfl dX7_put_8 ?_
  refine lv_aload_n hx hb dX7_put_11 rfl (lv_at hl 1 rfl) ?_
  refine k_get (D := (dC, dI)) (ci := 7) (v := .int 5) (C := RX7) (T := TX7) (N := 92) hx hb hts hinX7 hown hK hP 0 rfl rfl 1 (by decide) w_1 rfl rfl dX7_put_12 ?_
  refine lv_iload_n hx hb dX7_put_15 rfl (lv_at hl 2 rfl) ?_
  refine lv_iload_n hx hb dX7_put_16 rfl (lv_at hl 0 rfl) ?_
  refine lv_ishr hx hb dX7_put_17 ?_
  refine lv_sipush (v := 255) hx hb dX7_put_18 (by decide +kernel) ?_
  refine lv_iand hx hb dX7_put_21 ?_
  refine k_iast (g := (upd (upd (upd (upd (upd (upd (fun _ => 0) 0 ((p3 >>> (24 &&& 31)) &&& 255)) 1 ((p3 >>> (16 &&& 31)) &&& 255)) 2 ((p3 >>> (8 &&& 31)) &&& 255)) 3 ((p3 >>> (0 &&& 31)) &&& 255)) 4 ((p1 >>> (24 &&& 31)) &&& 255)) 5 ((p1 >>> (16 &&& 31)) &&& 255))) (ws' := [(p0, .inr (7, oM p2 (upd i7 1 5) j7)), ((p2 0), .inl (cI, 1800, .inl (upd (upd (upd (upd (upd (upd (fun _ => 0) 0 ((p3 >>> (24 &&& 31)) &&& 255)) 1 ((p3 >>> (16 &&& 31)) &&& 255)) 2 ((p3 >>> (8 &&& 31)) &&& 255)) 3 ((p3 >>> (0 &&& 31)) &&& 255)) 4 ((p1 >>> (24 &&& 31)) &&& 255)) 5 ((p1 >>> (16 &&& 31)) &&& 255))))]) hx hb hK hP hD hS 1 0 5 rfl rfl rfl (Nat.le_of_ble_eq_true rfl) (Nat.le_of_ble_eq_true rfl) rfl rfl dX7_put_22 (fun H locs hP hD hS => ?_)
  refine lv_aload_n hx hb dX7_put_23 rfl (lv_at hl 1 rfl) ?_
  refine lv_dup hx hb dX7_put_24 rfl ?_
  refine k_get (D := (dC, dI)) (ci := 7) (v := .int 5) (C := RX7) (T := TX7) (N := 92) hx hb hts hinX7 hown hK hP 0 rfl rfl 1 (by decide) w_1 rfl rfl dX7_put_25 ?_
  refine lv_iconst (v := 1) hx hb dX7_put_28 (by decide +kernel) ?_
  refine lv_iadd hx hb dX7_put_29 ?_
  refine k_int (v := 6) (by decide +kernel) ?_
  refine k_put (D := (dC, dI)) (ci := 7) (v := .int 6) (C := RX7) (T := TX7) (N := 92) (ws' := [(p0, .inr (7, oM p2 (upd i7 1 6) j7)), ((p2 0), .inl (cI, 1800, .inl (upd (upd (upd (upd (upd (upd (fun _ => 0) 0 ((p3 >>> (24 &&& 31)) &&& 255)) 1 ((p3 >>> (16 &&& 31)) &&& 255)) 2 ((p3 >>> (8 &&& 31)) &&& 255)) 3 ((p3 >>> (0 &&& 31)) &&& 255)) 4 ((p1 >>> (24 &&& 31)) &&& 255)) 5 ((p1 >>> (16 &&& 31)) &&& 255))))]) hx hb hts hinX7 tyX7 tyX7_ok nmX7 hown hK hP hD hS 0 rfl rfl 1 (by decide) w_1 rfl rfl rfl rfl (Nat.le_of_ble_eq_true rfl) rfl dX7_put_30 (fun H locs hP hD hS => ?_)
  refine lv_iinc (v := 8) (lv' := [(2, .int 8), (0, .ref p0), (1, .int p1)]) hx hb dX7_put_33 hl (k := 0) rfl (by decide +kernel) (by decide) rfl (fun ls hl => ?_)
  refine lv_goto (tgt := 3) hx hb dX7_put_36 (by decide) ?_
  refine lv_iload_n hx hb dX7_put_3 rfl (lv_at hl 0 rfl) ?_
  refine lv_if_lt (tgt := 39) hx hb dX7_put_4 (by decide) (fun q9 => absurd q9 (by decide +kernel)) (fun _ => ?_)
  refine lv_aload_n hx hb dX7_put_7 rfl (lv_at hl 1 rfl) ?_
  refine k_get (D := (dC, dI)) (ci := 7) (v := .ref (p2 0)) (C := RX7) (T := TX7) (N := 92) hx hb hts hinX7 hown hK hP 0 rfl rfl 0 (by decide) w_0 rfl rfl dX7_put_8 ?_
  refine lv_aload_n hx hb dX7_put_11 rfl (lv_at hl 1 rfl) ?_
  refine k_get (D := (dC, dI)) (ci := 7) (v := .int 6) (C := RX7) (T := TX7) (N := 92) hx hb hts hinX7 hown hK hP 0 rfl rfl 1 (by decide) w_1 rfl rfl dX7_put_12 ?_
  refine lv_iload_n hx hb dX7_put_15 rfl (lv_at hl 2 rfl) ?_
  refine lv_iload_n hx hb dX7_put_16 rfl (lv_at hl 0 rfl) ?_
  refine lv_ishr hx hb dX7_put_17 ?_
  refine lv_sipush (v := 255) hx hb dX7_put_18 (by decide +kernel) ?_
  refine lv_iand hx hb dX7_put_21 ?_
  refine k_iast (g := (upd (upd (upd (upd (upd (upd (upd (fun _ => 0) 0 ((p3 >>> (24 &&& 31)) &&& 255)) 1 ((p3 >>> (16 &&& 31)) &&& 255)) 2 ((p3 >>> (8 &&& 31)) &&& 255)) 3 ((p3 >>> (0 &&& 31)) &&& 255)) 4 ((p1 >>> (24 &&& 31)) &&& 255)) 5 ((p1 >>> (16 &&& 31)) &&& 255)) 6 ((p1 >>> (8 &&& 31)) &&& 255))) (ws' := [(p0, .inr (7, oM p2 (upd i7 1 6) j7)), ((p2 0), .inl (cI, 1800, .inl (upd (upd (upd (upd (upd (upd (upd (fun _ => 0) 0 ((p3 >>> (24 &&& 31)) &&& 255)) 1 ((p3 >>> (16 &&& 31)) &&& 255)) 2 ((p3 >>> (8 &&& 31)) &&& 255)) 3 ((p3 >>> (0 &&& 31)) &&& 255)) 4 ((p1 >>> (24 &&& 31)) &&& 255)) 5 ((p1 >>> (16 &&& 31)) &&& 255)) 6 ((p1 >>> (8 &&& 31)) &&& 255))))]) hx hb hK hP hD hS 1 0 6 rfl rfl rfl (Nat.le_of_ble_eq_true rfl) (Nat.le_of_ble_eq_true rfl) rfl rfl dX7_put_22 (fun H locs hP hD hS => ?_)
  refine lv_aload_n hx hb dX7_put_23 rfl (lv_at hl 1 rfl) ?_
  refine lv_dup hx hb dX7_put_24 rfl ?_
  refine k_get (D := (dC, dI)) (ci := 7) (v := .int 6) (C := RX7) (T := TX7) (N := 92) hx hb hts hinX7 hown hK hP 0 rfl rfl 1 (by decide) w_1 rfl rfl dX7_put_25 ?_
  refine lv_iconst (v := 1) hx hb dX7_put_28 (by decide +kernel) ?_
  refine lv_iadd hx hb dX7_put_29 ?_
  refine k_int (v := 7) (by decide +kernel) ?_
  refine k_put (D := (dC, dI)) (ci := 7) (v := .int 7) (C := RX7) (T := TX7) (N := 92) (ws' := [(p0, .inr (7, oM p2 (upd i7 1 7) j7)), ((p2 0), .inl (cI, 1800, .inl (upd (upd (upd (upd (upd (upd (upd (fun _ => 0) 0 ((p3 >>> (24 &&& 31)) &&& 255)) 1 ((p3 >>> (16 &&& 31)) &&& 255)) 2 ((p3 >>> (8 &&& 31)) &&& 255)) 3 ((p3 >>> (0 &&& 31)) &&& 255)) 4 ((p1 >>> (24 &&& 31)) &&& 255)) 5 ((p1 >>> (16 &&& 31)) &&& 255)) 6 ((p1 >>> (8 &&& 31)) &&& 255))))]) hx hb hts hinX7 tyX7 tyX7_ok nmX7 hown hK hP hD hS 0 rfl rfl 1 (by decide) w_1 rfl rfl rfl rfl (Nat.le_of_ble_eq_true rfl) rfl dX7_put_30 (fun H locs hP hD hS => ?_)
  refine lv_iinc (v := 0) (lv' := [(2, .int 0), (0, .ref p0), (1, .int p1)]) hx hb dX7_put_33 hl (k := 0) rfl (by decide +kernel) (by decide) rfl (fun ls hl => ?_)
  refine lv_goto (tgt := 3) hx hb dX7_put_36 (by decide) ?_
  refine lv_iload_n hx hb dX7_put_3 rfl (lv_at hl 0 rfl) ?_
  refine lv_if_lt (tgt := 39) hx hb dX7_put_4 (by decide) (fun q9 => absurd q9 (by decide +kernel)) (fun _ => ?_)
  refine lv_aload_n hx hb dX7_put_7 rfl (lv_at hl 1 rfl) ?_
  refine k_get (D := (dC, dI)) (ci := 7) (v := .ref (p2 0)) (C := RX7) (T := TX7) (N := 92) hx hb hts hinX7 hown hK hP 0 rfl rfl 0 (by decide) w_0 rfl rfl dX7_put_8 ?_
  refine lv_aload_n hx hb dX7_put_11 rfl (lv_at hl 1 rfl) ?_
  refine k_get (D := (dC, dI)) (ci := 7) (v := .int 7) (C := RX7) (T := TX7) (N := 92) hx hb hts hinX7 hown hK hP 0 rfl rfl 1 (by decide) w_1 rfl rfl dX7_put_12 ?_
  refine lv_iload_n hx hb dX7_put_15 rfl (lv_at hl 2 rfl) ?_
  refine lv_iload_n hx hb dX7_put_16 rfl (lv_at hl 0 rfl) ?_
  refine lv_ishr hx hb dX7_put_17 ?_
  refine lv_sipush (v := 255) hx hb dX7_put_18 (by decide +kernel) ?_
  refine lv_iand hx hb dX7_put_21 ?_
  refine k_iast (g := (upd (upd (upd (upd (upd (upd (upd (upd (fun _ => 0) 0 ((p3 >>> (24 &&& 31)) &&& 255)) 1 ((p3 >>> (16 &&& 31)) &&& 255)) 2 ((p3 >>> (8 &&& 31)) &&& 255)) 3 ((p3 >>> (0 &&& 31)) &&& 255)) 4 ((p1 >>> (24 &&& 31)) &&& 255)) 5 ((p1 >>> (16 &&& 31)) &&& 255)) 6 ((p1 >>> (8 &&& 31)) &&& 255)) 7 ((p1 >>> (0 &&& 31)) &&& 255))) (ws' := [(p0, .inr (7, oM p2 (upd i7 1 7) j7)), ((p2 0), .inl (cI, 1800, .inl (upd (upd (upd (upd (upd (upd (upd (upd (fun _ => 0) 0 ((p3 >>> (24 &&& 31)) &&& 255)) 1 ((p3 >>> (16 &&& 31)) &&& 255)) 2 ((p3 >>> (8 &&& 31)) &&& 255)) 3 ((p3 >>> (0 &&& 31)) &&& 255)) 4 ((p1 >>> (24 &&& 31)) &&& 255)) 5 ((p1 >>> (16 &&& 31)) &&& 255)) 6 ((p1 >>> (8 &&& 31)) &&& 255)) 7 ((p1 >>> (0 &&& 31)) &&& 255))))]) hx hb hK hP hD hS 1 0 7 rfl rfl rfl (Nat.le_of_ble_eq_true rfl) (Nat.le_of_ble_eq_true rfl) rfl rfl dX7_put_22 (fun H locs hP hD hS => ?_)
  refine lv_aload_n hx hb dX7_put_23 rfl (lv_at hl 1 rfl) ?_
  refine lv_dup hx hb dX7_put_24 rfl ?_
  refine k_get (D := (dC, dI)) (ci := 7) (v := .int 7) (C := RX7) (T := TX7) (N := 92) hx hb hts hinX7 hown hK hP 0 rfl rfl 1 (by decide) w_1 rfl rfl dX7_put_25 ?_
  refine lv_iconst (v := 1) hx hb dX7_put_28 (by decide +kernel) ?_
  refine lv_iadd hx hb dX7_put_29 ?_
  refine k_int (v := 8) (by decide +kernel) ?_
  refine k_put (D := (dC, dI)) (ci := 7) (v := .int 8) (C := RX7) (T := TX7) (N := 92) (ws' := [(p0, .inr (7, oM p2 (upd i7 1 8) j7)), ((p2 0), .inl (cI, 1800, .inl (upd (upd (upd (upd (upd (upd (upd (upd (fun _ => 0) 0 ((p3 >>> (24 &&& 31)) &&& 255)) 1 ((p3 >>> (16 &&& 31)) &&& 255)) 2 ((p3 >>> (8 &&& 31)) &&& 255)) 3 ((p3 >>> (0 &&& 31)) &&& 255)) 4 ((p1 >>> (24 &&& 31)) &&& 255)) 5 ((p1 >>> (16 &&& 31)) &&& 255)) 6 ((p1 >>> (8 &&& 31)) &&& 255)) 7 ((p1 >>> (0 &&& 31)) &&& 255))))]) hx hb hts hinX7 tyX7 tyX7_ok nmX7 hown hK hP hD hS 0 rfl rfl 1 (by decide) w_1 rfl rfl rfl rfl (Nat.le_of_ble_eq_true rfl) rfl dX7_put_30 (fun H locs hP hD hS => ?_)
  refine lv_iinc (v := (-8)) (lv' := [(2, .int (-8)), (0, .ref p0), (1, .int p1)]) hx hb dX7_put_33 hl (k := 0) rfl (by decide +kernel) (by decide) rfl (fun ls hl => ?_)
  refine lv_goto (tgt := 3) hx hb dX7_put_36 (by decide) ?_
  refine lv_iload_n hx hb dX7_put_3 rfl (lv_at hl 0 rfl) ?_
  refine lv_if_lt (tgt := 39) hx hb dX7_put_4 (by decide) (fun _ => ?_) (fun q9 => absurd q9 (by decide +kernel))
  exact k_rv B hP hD hS dX7_put_39 () [0, 1] rfl rfl (Nat.le_of_ble_eq_true rfl) (Nat.le_of_ble_eq_true rfl) trivial
set_option maxHeartbeats 4000000 in
set_option maxRecDepth 100000 in
theorem c_X7_put_v2 (l : Launch) (dC : Nat → ClassId) (dI : Nat → Nat → Nat) (cI cJ cZ cM : ClassId) (p0 : Nat) (p1 : Int32) (p2 : Nat → Nat) (p3 : Int32) (p4 : Int32)   : k_Mv l yX7_put wsX7_put ({ frames := 1, cells := 0, slots := 0, locals := 40 }) (dC, dI) vwCl (tyy cI cJ cZ cM) [(p0, .inr (7, oM p2 (upd i7 1 8) j7)), ((p2 0), .inl (cI, 1800, .inl (upd (upd (upd (upd (upd (upd (upd (upd (fun _ => 0) 0 ((p3 >>> (24 &&& 31)) &&& 255)) 1 ((p3 >>> (16 &&& 31)) &&& 255)) 2 ((p3 >>> (8 &&& 31)) &&& 255)) 3 ((p3 >>> (0 &&& 31)) &&& 255)) 4 ((p4 >>> (24 &&& 31)) &&& 255)) 5 ((p4 >>> (16 &&& 31)) &&& 255)) 6 ((p4 >>> (8 &&& 31)) &&& 255)) 7 ((p4 >>> (0 &&& 31)) &&& 255))))] [.ref p0, .int p1] 0 0 (fun (u9 : Unit) => [(p0, .inr (7, oM p2 (upd i7 1 12) j7)), ((p2 0), .inl (cI, 1800, .inl (upd (upd (upd (upd (upd (upd (upd (upd (upd (upd (upd (upd (fun _ => 0) 0 ((p3 >>> (24 &&& 31)) &&& 255)) 1 ((p3 >>> (16 &&& 31)) &&& 255)) 2 ((p3 >>> (8 &&& 31)) &&& 255)) 3 ((p3 >>> (0 &&& 31)) &&& 255)) 4 ((p4 >>> (24 &&& 31)) &&& 255)) 5 ((p4 >>> (16 &&& 31)) &&& 255)) 6 ((p4 >>> (8 &&& 31)) &&& 255)) 7 ((p4 >>> (0 &&& 31)) &&& 255)) 8 ((p1 >>> (24 &&& 31)) &&& 255)) 9 ((p1 >>> (16 &&& 31)) &&& 255)) 10 ((p1 >>> (8 &&& 31)) &&& 255)) 11 ((p1 >>> (0 &&& 31)) &&& 255))))]) (fun (u9 : Unit) => True) := by
  refine fun sz => k_enter (cc := cX7_put) (maxL := 3) (ret := none) (Qc := fun A => va_Qv (fun (u9 : Unit) => True) (fun u => k_B (dC, dI) vwCl (tyy cI cJ cZ cM) A ((fun (u9 : Unit) => [(p0, .inr (7, oM p2 (upd i7 1 12) j7)), ((p2 0), .inl (cI, 1800, .inl (upd (upd (upd (upd (upd (upd (upd (upd (upd (upd (upd (upd (fun _ => 0) 0 ((p3 >>> (24 &&& 31)) &&& 255)) 1 ((p3 >>> (16 &&& 31)) &&& 255)) 2 ((p3 >>> (8 &&& 31)) &&& 255)) 3 ((p3 >>> (0 &&& 31)) &&& 255)) 4 ((p4 >>> (24 &&& 31)) &&& 255)) 5 ((p4 >>> (16 &&& 31)) &&& 255)) 6 ((p4 >>> (8 &&& 31)) &&& 255)) 7 ((p4 >>> (0 &&& 31)) &&& 255)) 8 ((p1 >>> (24 &&& 31)) &&& 255)) 9 ((p1 >>> (16 &&& 31)) &&& 255)) 10 ((p1 >>> (8 &&& 31)) &&& 255)) 11 ((p1 >>> (0 &&& 31)) &&& 255))))]) u)) A) sz (by decide +kernel) rfl (Nat.le_of_ble_eq_true rfl) (fun p e s m args below meth c A ls H B hP hD hS hl => ?_)
  obtain ⟨hx, hb, hml, hown, hts, hr, hlk, hnm, hK, hA, hN⟩ := id B
  have hown : s.vm.findClass RX7 = some m.cls := hown
  have hl : lv_has ls 3 [(0, .ref p0), (1, .int p1)] := hl
  have w_0 : (Cond.fieldLink RX7 7 "WishSeaModel" "tape" "[I").before args s = true := hts _ (List.mem_of_getElem? (i := 1) rfl)
  have w_1 : (Cond.fieldLink RX7 13 "WishSeaModel" "taped" "I").before args s = true := hts _ (List.mem_of_getElem? (i := 2) rfl)
  have hinX7 : ∀ w ∈ u_ws RX7 TX7 92, w ∈ wsX7_put := fun _ h => List.mem_cons_of_mem _ (List.mem_append_right _ h)
  refine lv_bipush (v := 24) hx hb dX7_put_0 (by decide +kernel) ?_
  refine lv_istore_n (lv' := [(2, .int 24), (0, .ref p0), (1, .int p1)]) hx hb dX7_put_2 rfl hl (by decide) rfl (fun ls hl => ?_)
  refine lv_iload_n hx hb dX7_put_3 rfl (lv_at hl 0 rfl) ?_
  refine lv_if_lt (tgt := 39) hx hb dX7_put_4 (by decide) (fun q9 => absurd q9 (by decide +kernel)) (fun _ => ?_)
  refine lv_aload_n hx hb dX7_put_7 rfl (lv_at hl 1 rfl) ?_
  refine k_get (D := (dC, dI)) (ci := 7) (v := .ref (p2 0)) (C := RX7) (T := TX7) (N := 92) hx hb hts hinX7 hown hK hP 0 rfl rfl 0 (by decide) w_0 rfl rfl dX7_put_8 ?_
  refine lv_aload_n hx hb dX7_put_11 rfl (lv_at hl 1 rfl) ?_
  refine k_get (D := (dC, dI)) (ci := 7) (v := .int 8) (C := RX7) (T := TX7) (N := 92) hx hb hts hinX7 hown hK hP 0 rfl rfl 1 (by decide) w_1 rfl rfl dX7_put_12 ?_
  refine lv_iload_n hx hb dX7_put_15 rfl (lv_at hl 2 rfl) ?_
  refine lv_iload_n hx hb dX7_put_16 rfl (lv_at hl 0 rfl) ?_
  refine lv_ishr hx hb dX7_put_17 ?_
  refine lv_sipush (v := 255) hx hb dX7_put_18 (by decide +kernel) ?_
  refine lv_iand hx hb dX7_put_21 ?_
  refine k_iast (g := (upd (upd (upd (upd (upd (upd (upd (upd (upd (fun _ => 0) 0 ((p3 >>> (24 &&& 31)) &&& 255)) 1 ((p3 >>> (16 &&& 31)) &&& 255)) 2 ((p3 >>> (8 &&& 31)) &&& 255)) 3 ((p3 >>> (0 &&& 31)) &&& 255)) 4 ((p4 >>> (24 &&& 31)) &&& 255)) 5 ((p4 >>> (16 &&& 31)) &&& 255)) 6 ((p4 >>> (8 &&& 31)) &&& 255)) 7 ((p4 >>> (0 &&& 31)) &&& 255)) 8 ((p1 >>> (24 &&& 31)) &&& 255))) (ws' := [(p0, .inr (7, oM p2 (upd i7 1 8) j7)), ((p2 0), .inl (cI, 1800, .inl (upd (upd (upd (upd (upd (upd (upd (upd (upd (fun _ => 0) 0 ((p3 >>> (24 &&& 31)) &&& 255)) 1 ((p3 >>> (16 &&& 31)) &&& 255)) 2 ((p3 >>> (8 &&& 31)) &&& 255)) 3 ((p3 >>> (0 &&& 31)) &&& 255)) 4 ((p4 >>> (24 &&& 31)) &&& 255)) 5 ((p4 >>> (16 &&& 31)) &&& 255)) 6 ((p4 >>> (8 &&& 31)) &&& 255)) 7 ((p4 >>> (0 &&& 31)) &&& 255)) 8 ((p1 >>> (24 &&& 31)) &&& 255))))]) hx hb hK hP hD hS 1 0 8 rfl rfl rfl (Nat.le_of_ble_eq_true rfl) (Nat.le_of_ble_eq_true rfl) rfl rfl dX7_put_22 (fun H locs hP hD hS => ?_)
  refine lv_aload_n hx hb dX7_put_23 rfl (lv_at hl 1 rfl) ?_
  refine lv_dup hx hb dX7_put_24 rfl ?_
  refine k_get (D := (dC, dI)) (ci := 7) (v := .int 8) (C := RX7) (T := TX7) (N := 92) hx hb hts hinX7 hown hK hP 0 rfl rfl 1 (by decide) w_1 rfl rfl dX7_put_25 ?_
  refine lv_iconst (v := 1) hx hb dX7_put_28 (by decide +kernel) ?_
  refine lv_iadd hx hb dX7_put_29 ?_
  refine k_int (v := 9) (by decide +kernel) ?_
  refine k_put (D := (dC, dI)) (ci := 7) (v := .int 9) (C := RX7) (T := TX7) (N := 92) (ws' := [(p0, .inr (7, oM p2 (upd i7 1 9) j7)), ((p2 0), .inl (cI, 1800, .inl (upd (upd (upd (upd (upd (upd (upd (upd (upd (fun _ => 0) 0 ((p3 >>> (24 &&& 31)) &&& 255)) 1 ((p3 >>> (16 &&& 31)) &&& 255)) 2 ((p3 >>> (8 &&& 31)) &&& 255)) 3 ((p3 >>> (0 &&& 31)) &&& 255)) 4 ((p4 >>> (24 &&& 31)) &&& 255)) 5 ((p4 >>> (16 &&& 31)) &&& 255)) 6 ((p4 >>> (8 &&& 31)) &&& 255)) 7 ((p4 >>> (0 &&& 31)) &&& 255)) 8 ((p1 >>> (24 &&& 31)) &&& 255))))]) hx hb hts hinX7 tyX7 tyX7_ok nmX7 hown hK hP hD hS 0 rfl rfl 1 (by decide) w_1 rfl rfl rfl rfl (Nat.le_of_ble_eq_true rfl) rfl dX7_put_30 (fun H locs hP hD hS => ?_)
  refine lv_iinc (v := 16) (lv' := [(2, .int 16), (0, .ref p0), (1, .int p1)]) hx hb dX7_put_33 hl (k := 0) rfl (by decide +kernel) (by decide) rfl (fun ls hl => ?_)
  refine lv_goto (tgt := 3) hx hb dX7_put_36 (by decide) ?_
  refine lv_iload_n hx hb dX7_put_3 rfl (lv_at hl 0 rfl) ?_
  refine lv_if_lt (tgt := 39) hx hb dX7_put_4 (by decide) (fun q9 => absurd q9 (by decide +kernel)) (fun _ => ?_)
  refine lv_aload_n hx hb dX7_put_7 rfl (lv_at hl 1 rfl) ?_
  refine k_get (D := (dC, dI)) (ci := 7) (v := .ref (p2 0)) (C := RX7) (T := TX7) (N := 92) hx hb hts hinX7 hown hK hP 0 rfl rfl 0 (by decide) w_0 rfl rfl dX7_put_8 ?_
  refine lv_aload_n hx hb dX7_put_11 rfl (lv_at hl 1 rfl) ?_
  refine k_get (D := (dC, dI)) (ci := 7) (v := .int 9) (C := RX7) (T := TX7) (N := 92) hx hb hts hinX7 hown hK hP 0 rfl rfl 1 (by decide) w_1 rfl rfl dX7_put_12 ?_
  refine lv_iload_n hx hb dX7_put_15 rfl (lv_at hl 2 rfl) ?_
  refine lv_iload_n hx hb dX7_put_16 rfl (lv_at hl 0 rfl) ?_
  refine lv_ishr hx hb dX7_put_17 ?_
  refine lv_sipush (v := 255) hx hb dX7_put_18 (by decide +kernel) ?_
  refine lv_iand hx hb dX7_put_21 ?_
  refine k_iast (g := (upd (upd (upd (upd (upd (upd (upd (upd (upd (upd (fun _ => 0) 0 ((p3 >>> (24 &&& 31)) &&& 255)) 1 ((p3 >>> (16 &&& 31)) &&& 255)) 2 ((p3 >>> (8 &&& 31)) &&& 255)) 3 ((p3 >>> (0 &&& 31)) &&& 255)) 4 ((p4 >>> (24 &&& 31)) &&& 255)) 5 ((p4 >>> (16 &&& 31)) &&& 255)) 6 ((p4 >>> (8 &&& 31)) &&& 255)) 7 ((p4 >>> (0 &&& 31)) &&& 255)) 8 ((p1 >>> (24 &&& 31)) &&& 255)) 9 ((p1 >>> (16 &&& 31)) &&& 255))) (ws' := [(p0, .inr (7, oM p2 (upd i7 1 9) j7)), ((p2 0), .inl (cI, 1800, .inl (upd (upd (upd (upd (upd (upd (upd (upd (upd (upd (fun _ => 0) 0 ((p3 >>> (24 &&& 31)) &&& 255)) 1 ((p3 >>> (16 &&& 31)) &&& 255)) 2 ((p3 >>> (8 &&& 31)) &&& 255)) 3 ((p3 >>> (0 &&& 31)) &&& 255)) 4 ((p4 >>> (24 &&& 31)) &&& 255)) 5 ((p4 >>> (16 &&& 31)) &&& 255)) 6 ((p4 >>> (8 &&& 31)) &&& 255)) 7 ((p4 >>> (0 &&& 31)) &&& 255)) 8 ((p1 >>> (24 &&& 31)) &&& 255)) 9 ((p1 >>> (16 &&& 31)) &&& 255))))]) hx hb hK hP hD hS 1 0 9 rfl rfl rfl (Nat.le_of_ble_eq_true rfl) (Nat.le_of_ble_eq_true rfl) rfl rfl dX7_put_22 (fun H locs hP hD hS => ?_)
  refine lv_aload_n hx hb dX7_put_23 rfl (lv_at hl 1 rfl) ?_
  refine lv_dup hx hb dX7_put_24 rfl ?_
  refine k_get (D := (dC, dI)) (ci := 7) (v := .int 9) (C := RX7) (T := TX7) (N := 92) hx hb hts hinX7 hown hK hP 0 rfl rfl 1 (by decide) w_1 rfl rfl dX7_put_25 ?_
  refine lv_iconst (v := 1) hx hb dX7_put_28 (by decide +kernel) ?_
  refine lv_iadd hx hb dX7_put_29 ?_
  refine k_int (v := 10) (by decide +kernel) ?_
  refine k_put (D := (dC, dI)) (ci := 7) (v := .int 10) (C := RX7) (T := TX7) (N := 92) (ws' := [(p0, .inr (7, oM p2 (upd i7 1 10) j7)), ((p2 0), .inl (cI, 1800, .inl (upd (upd (upd (upd (upd (upd (upd (upd (upd (upd (fun _ => 0) 0 ((p3 >>> (24 &&& 31)) &&& 255)) 1 ((p3 >>> (16 &&& 31)) &&& 255)) 2 ((p3 >>> (8 &&& 31)) &&& 255)) 3 ((p3 >>> (0 &&& 31)) &&& 255)) 4 ((p4 >>> (24 &&& 31)) &&& 255)) 5 ((p4 >>> (16 &&& 31)) &&& 255)) 6 ((p4 >>> (8 &&& 31)) &&& 255)) 7 ((p4 >>> (0 &&& 31)) &&& 255)) 8 ((p1 >>> (24 &&& 31)) &&& 255)) 9 ((p1 >>> (16 &&& 31)) &&& 255))))]) hx hb hts hinX7 tyX7 tyX7_ok nmX7 hown hK hP hD hS 0 rfl rfl 1 (by decide) w_1 rfl rfl rfl rfl (Nat.le_of_ble_eq_true rfl) rfl dX7_put_30 (fun H locs hP hD hS => ?_)
  refine lv_iinc (v := 8) (lv' := [(2, .int 8), (0, .ref p0), (1, .int p1)]) hx hb dX7_put_33 hl (k := 0) rfl (by decide +kernel) (by decide) rfl (fun ls hl => ?_)
  refine lv_goto (tgt := 3) hx hb dX7_put_36 (by decide) ?_
  refine lv_iload_n hx hb dX7_put_3 rfl (lv_at hl 0 rfl) ?_
  refine lv_if_lt (tgt := 39) hx hb dX7_put_4 (by decide) (fun q9 => absurd q9 (by decide +kernel)) (fun _ => ?_)
  refine lv_aload_n hx hb dX7_put_7 rfl (lv_at hl 1 rfl) ?_
  refine k_get (D := (dC, dI)) (ci := 7) (v := .ref (p2 0)) (C := RX7) (T := TX7) (N := 92) hx hb hts hinX7 hown hK hP 0 rfl rfl 0 (by decide) w_0 rfl rfl dX7_put_8 ?_
  refine lv_aload_n hx hb dX7_put_11 rfl (lv_at hl 1 rfl) ?_
  refine k_get (D := (dC, dI)) (ci := 7) (v := .int 10) (C := RX7) (T := TX7) (N := 92) hx hb hts hinX7 hown hK hP 0 rfl rfl 1 (by decide) w_1 rfl rfl dX7_put_12 ?_
  refine lv_iload_n hx hb dX7_put_15 rfl (lv_at hl 2 rfl) ?_
  refine lv_iload_n hx hb dX7_put_16 rfl (lv_at hl 0 rfl) ?_
  refine lv_ishr hx hb dX7_put_17 ?_
  refine lv_sipush (v := 255) hx hb dX7_put_18 (by decide +kernel) ?_
  refine lv_iand hx hb dX7_put_21 ?_
  refine k_iast (g := (upd (upd (upd (upd (upd (upd (upd (upd (upd (upd (upd (fun _ => 0) 0 ((p3 >>> (24 &&& 31)) &&& 255)) 1 ((p3 >>> (16 &&& 31)) &&& 255)) 2 ((p3 >>> (8 &&& 31)) &&& 255)) 3 ((p3 >>> (0 &&& 31)) &&& 255)) 4 ((p4 >>> (24 &&& 31)) &&& 255)) 5 ((p4 >>> (16 &&& 31)) &&& 255)) 6 ((p4 >>> (8 &&& 31)) &&& 255)) 7 ((p4 >>> (0 &&& 31)) &&& 255)) 8 ((p1 >>> (24 &&& 31)) &&& 255)) 9 ((p1 >>> (16 &&& 31)) &&& 255)) 10 ((p1 >>> (8 &&& 31)) &&& 255))) (ws' := [(p0, .inr (7, oM p2 (upd i7 1 10) j7)), ((p2 0), .inl (cI, 1800, .inl (upd (upd (upd (upd (upd (upd (upd (upd (upd (upd (upd (fun _ => 0) 0 ((p3 >>> (24 &&& 31)) &&& 255)) 1 ((p3 >>> (16 &&& 31)) &&& 255)) 2 ((p3 >>> (8 &&& 31)) &&& 255)) 3 ((p3 >>> (0 &&& 31)) &&& 255)) 4 ((p4 >>> (24 &&& 31)) &&& 255)) 5 ((p4 >>> (16 &&& 31)) &&& 255)) 6 ((p4 >>> (8 &&& 31)) &&& 255)) 7 ((p4 >>> (0 &&& 31)) &&& 255)) 8 ((p1 >>> (24 &&& 31)) &&& 255)) 9 ((p1 >>> (16 &&& 31)) &&& 255)) 10 ((p1 >>> (8 &&& 31)) &&& 255))))]) hx hb hK hP hD hS 1 0 10 rfl rfl rfl (Nat.le_of_ble_eq_true rfl) (Nat.le_of_ble_eq_true rfl) rfl rfl dX7_put_22 (fun H locs hP hD hS => ?_)
  refine lv_aload_n hx hb dX7_put_23 rfl (lv_at hl 1 rfl) ?_
  refine lv_dup hx hb dX7_put_24 rfl ?_
  refine k_get (D := (dC, dI)) (ci := 7) (v := .int 10) (C := RX7) (T := TX7) (N := 92) hx hb hts hinX7 hown hK hP 0 rfl rfl 1 (by decide) w_1 rfl rfl dX7_put_25 ?_
  refine lv_iconst (v := 1) hx hb dX7_put_28 (by decide +kernel) ?_
  refine lv_iadd hx hb dX7_put_29 ?_
  refine k_int (v := 11) (by decide +kernel) ?_
  refine k_put (D := (dC, dI)) (ci := 7) (v := .int 11) (C := RX7) (T := TX7) (N := 92) (ws' := [(p0, .inr (7, oM p2 (upd i7 1 11) j7)), ((p2 0), .inl (cI, 1800, .inl (upd (upd (upd (upd (upd (upd (upd (upd (upd (upd (upd (fun _ => 0) 0 ((p3 >>> (24 &&& 31)) &&& 255)) 1 ((p3 >>> (16 &&& 31)) &&& 255)) 2 ((p3 >>> (8 &&& 31)) &&& 255)) 3 ((p3 >>> (0 &&& 31)) &&& 255)) 4 ((p4 >>> (24 &&& 31)) &&& 255)) 5 ((p4 >>> (16 &&& 31)) &&& 255)) 6 ((p4 >>> (8 &&& 31)) &&& 255)) 7 ((p4 >>> (0 &&& 31)) &&& 255)) 8 ((p1 >>> (24 &&& 31)) &&& 255)) 9 ((p1 >>> (16 &&& 31)) &&& 255)) 10 ((p1 >>> (8 &&& 31)) &&& 255))))]) hx hb hts hinX7 tyX7 tyX7_ok nmX7 hown hK hP hD hS 0 rfl rfl 1 (by decide) w_1 rfl rfl rfl rfl (Nat.le_of_ble_eq_true rfl) rfl dX7_put_30 (fun H locs hP hD hS => ?_)
  refine lv_iinc (v := 0) (lv' := [(2, .int 0), (0, .ref p0), (1, .int p1)]) hx hb dX7_put_33 hl (k := 0) rfl (by decide +kernel) (by decide) rfl (fun ls hl => ?_)
  refine lv_goto (tgt := 3) hx hb dX7_put_36 (by decide) ?_
  refine lv_iload_n hx hb dX7_put_3 rfl (lv_at hl 0 rfl) ?_
  refine lv_if_lt (tgt := 39) hx hb dX7_put_4 (by decide) (fun q9 => absurd q9 (by decide +kernel)) (fun _ => ?_)
  refine lv_aload_n hx hb dX7_put_7 rfl (lv_at hl 1 rfl) ?_
  refine k_get (D := (dC, dI)) (ci := 7) (v := .ref (p2 0)) (C := RX7) (T := TX7) (N := 92) hx hb hts hinX7 hown hK hP 0 rfl rfl 0 (by decide) w_0 rfl rfl dX7_put_8 ?_
  refine lv_aload_n hx hb dX7_put_11 rfl (lv_at hl 1 rfl) ?_
  refine k_get (D := (dC, dI)) (ci := 7) (v := .int 11) (C := RX7) (T := TX7) (N := 92) hx hb hts hinX7 hown hK hP 0 rfl rfl 1 (by decide) w_1 rfl rfl dX7_put_12 ?_
  refine lv_iload_n hx hb dX7_put_15 rfl (lv_at hl 2 rfl) ?_
  refine lv_iload_n hx hb dX7_put_16 rfl (lv_at hl 0 rfl) ?_
  refine lv_ishr hx hb dX7_put_17 ?_
  refine lv_sipush (v := 255) hx hb dX7_put_18 (by decide +kernel) ?_
  refine lv_iand hx hb dX7_put_21 ?_
  refine k_iast (g := (upd (upd (upd (upd (upd (upd (upd (upd (upd (upd (upd (upd (fun _ => 0) 0 ((p3 >>> (24 &&& 31)) &&& 255)) 1 ((p3 >>> (16 &&& 31)) &&& 255)) 2 ((p3 >>> (8 &&& 31)) &&& 255)) 3 ((p3 >>> (0 &&& 31)) &&& 255)) 4 ((p4 >>> (24 &&& 31)) &&& 255)) 5 ((p4 >>> (16 &&& 31)) &&& 255)) 6 ((p4 >>> (8 &&& 31)) &&& 255)) 7 ((p4 >>> (0 &&& 31)) &&& 255)) 8 ((p1 >>> (24 &&& 31)) &&& 255)) 9 ((p1 >>> (16 &&& 31)) &&& 255)) 10 ((p1 >>> (8 &&& 31)) &&& 255)) 11 ((p1 >>> (0 &&& 31)) &&& 255))) (ws' := [(p0, .inr (7, oM p2 (upd i7 1 11) j7)), ((p2 0), .inl (cI, 1800, .inl (upd (upd (upd (upd (upd (upd (upd (upd (upd (upd (upd (upd (fun _ => 0) 0 ((p3 >>> (24 &&& 31)) &&& 255)) 1 ((p3 >>> (16 &&& 31)) &&& 255)) 2 ((p3 >>> (8 &&& 31)) &&& 255)) 3 ((p3 >>> (0 &&& 31)) &&& 255)) 4 ((p4 >>> (24 &&& 31)) &&& 255)) 5 ((p4 >>> (16 &&& 31)) &&& 255)) 6 ((p4 >>> (8 &&& 31)) &&& 255)) 7 ((p4 >>> (0 &&& 31)) &&& 255)) 8 ((p1 >>> (24 &&& 31)) &&& 255)) 9 ((p1 >>> (16 &&& 31)) &&& 255)) 10 ((p1 >>> (8 &&& 31)) &&& 255)) 11 ((p1 >>> (0 &&& 31)) &&& 255))))]) hx hb hK hP hD hS 1 0 11 rfl rfl rfl (Nat.le_of_ble_eq_true rfl) (Nat.le_of_ble_eq_true rfl) rfl rfl dX7_put_22 (fun H locs hP hD hS => ?_)
  refine lv_aload_n hx hb dX7_put_23 rfl (lv_at hl 1 rfl) ?_
  refine lv_dup hx hb dX7_put_24 rfl ?_
  refine k_get (D := (dC, dI)) (ci := 7) (v := .int 11) (C := RX7) (T := TX7) (N := 92) hx hb hts hinX7 hown hK hP 0 rfl rfl 1 (by decide) w_1 rfl rfl dX7_put_25 ?_
  refine lv_iconst (v := 1) hx hb dX7_put_28 (by decide +kernel) ?_
  refine lv_iadd hx hb dX7_put_29 ?_
  refine k_int (v := 12) (by decide +kernel) ?_
  refine k_put (D := (dC, dI)) (ci := 7) (v := .int 12) (C := RX7) (T := TX7) (N := 92) (ws' := [(p0, .inr (7, oM p2 (upd i7 1 12) j7)), ((p2 0), .inl (cI, 1800, .inl (upd (upd (upd (upd (upd (upd (upd (upd (upd (upd (upd (upd (fun _ => 0) 0 ((p3 >>> (24 &&& 31)) &&& 255)) 1 ((p3 >>> (16 &&& 31)) &&& 255)) 2 ((p3 >>> (8 &&& 31)) &&& 255)) 3 ((p3 >>> (0 &&& 31)) &&& 255)) 4 ((p4 >>> (24 &&& 31)) &&& 255)) 5 ((p4 >>> (16 &&& 31)) &&& 255)) 6 ((p4 >>> (8 &&& 31)) &&& 255)) 7 ((p4 >>> (0 &&& 31)) &&& 255)) 8 ((p1 >>> (24 &&& 31)) &&& 255)) 9 ((p1 >>> (16 &&& 31)) &&& 255)) 10 ((p1 >>> (8 &&& 31)) &&& 255)) 11 ((p1 >>> (0 &&& 31)) &&& 255))))]) hx hb hts hinX7 tyX7 tyX7_ok nmX7 hown hK hP hD hS 0 rfl rfl 1 (by decide) w_1 rfl rfl rfl rfl (Nat.le_of_ble_eq_true rfl) rfl dX7_put_30 (fun H locs hP hD hS => ?_)
  refine lv_iinc (v := (-8)) (lv' := [(2, .int (-8)), (0, .ref p0), (1, .int p1)]) hx hb dX7_put_33 hl (k := 0) rfl (by decide +kernel) (by decide) rfl (fun ls hl => ?_)
  refine lv_goto (tgt := 3) hx hb dX7_put_36 (by decide) ?_
  refine lv_iload_n hx hb dX7_put_3 rfl (lv_at hl 0 rfl) ?_
  refine lv_if_lt (tgt := 39) hx hb dX7_put_4 (by decide) (fun _ => ?_) (fun q9 => absurd q9 (by decide +kernel))
  exact k_rv B hP hD hS dX7_put_39 () [0, 1] rfl rfl (Nat.le_of_ble_eq_true rfl) (Nat.le_of_ble_eq_true rfl) trivial
set_option maxHeartbeats 4000000 in
set_option maxRecDepth 100000 in
theorem c_X7_put_v3 (l : Launch) (dC : Nat → ClassId) (dI : Nat → Nat → Nat) (cI cJ cZ cM : ClassId) (p0 : Nat) (p1 : Int32) (p2 : Nat → Nat) (p3 : Int32) (p4 : Int32) (p5 : Int32)   : k_Mv l yX7_put wsX7_put ({ frames := 1, cells := 0, slots := 0, locals := 40 }) (dC, dI) vwCl (tyy cI cJ cZ cM) [(p0, .inr (7, oM p2 (upd i7 1 12) j7)), ((p2 0), .inl (cI, 1800, .inl (upd (upd (upd (upd (upd (upd (upd (upd (upd (upd (upd (upd (fun _ => 0) 0 ((p3 >>> (24 &&& 31)) &&& 255)) 1 ((p3 >>> (16 &&& 31)) &&& 255)) 2 ((p3 >>> (8 &&& 31)) &&& 255)) 3 ((p3 >>> (0 &&& 31)) &&& 255)) 4 ((p4 >>> (24 &&& 31)) &&& 255)) 5 ((p4 >>> (16 &&& 31)) &&& 255)) 6 ((p4 >>> (8 &&& 31)) &&& 255)) 7 ((p4 >>> (0 &&& 31)) &&& 255)) 8 ((p5 >>> (24 &&& 31)) &&& 255)) 9 ((p5 >>> (16 &&& 31)) &&& 255)) 10 ((p5 >>> (8 &&& 31)) &&& 255)) 11 ((p5 >>> (0 &&& 31)) &&& 255))))] [.ref p0, .int p1] 0 0 (fun (u9 : Unit) => [(p0, .inr (7, oM p2 (upd i7 1 16) j7)), ((p2 0), .inl (cI, 1800, .inl (upd (upd (upd (upd (upd (upd (upd (upd (upd (upd (upd (upd (upd (upd (upd (upd (fun _ => 0) 0 ((p3 >>> (24 &&& 31)) &&& 255)) 1 ((p3 >>> (16 &&& 31)) &&& 255)) 2 ((p3 >>> (8 &&& 31)) &&& 255)) 3 ((p3 >>> (0 &&& 31)) &&& 255)) 4 ((p4 >>> (24 &&& 31)) &&& 255)) 5 ((p4 >>> (16 &&& 31)) &&& 255)) 6 ((p4 >>> (8 &&& 31)) &&& 255)) 7 ((p4 >>> (0 &&& 31)) &&& 255)) 8 ((p5 >>> (24 &&& 31)) &&& 255)) 9 ((p5 >>> (16 &&& 31)) &&& 255)) 10 ((p5 >>> (8 &&& 31)) &&& 255)) 11 ((p5 >>> (0 &&& 31)) &&& 255)) 12 ((p1 >>> (24 &&& 31)) &&& 255)) 13 ((p1 >>> (16 &&& 31)) &&& 255)) 14 ((p1 >>> (8 &&& 31)) &&& 255)) 15 ((p1 >>> (0 &&& 31)) &&& 255))))]) (fun (u9 : Unit) => True) := by
  refine fun sz => k_enter (cc := cX7_put) (maxL := 3) (ret := none) (Qc := fun A => va_Qv (fun (u9 : Unit) => True) (fun u => k_B (dC, dI) vwCl (tyy cI cJ cZ cM) A ((fun (u9 : Unit) => [(p0, .inr (7, oM p2 (upd i7 1 16) j7)), ((p2 0), .inl (cI, 1800, .inl (upd (upd (upd (upd (upd (upd (upd (upd (upd (upd (upd (upd (upd (upd (upd (upd (fun _ => 0) 0 ((p3 >>> (24 &&& 31)) &&& 255)) 1 ((p3 >>> (16 &&& 31)) &&& 255)) 2 ((p3 >>> (8 &&& 31)) &&& 255)) 3 ((p3 >>> (0 &&& 31)) &&& 255)) 4 ((p4 >>> (24 &&& 31)) &&& 255)) 5 ((p4 >>> (16 &&& 31)) &&& 255)) 6 ((p4 >>> (8 &&& 31)) &&& 255)) 7 ((p4 >>> (0 &&& 31)) &&& 255)) 8 ((p5 >>> (24 &&& 31)) &&& 255)) 9 ((p5 >>> (16 &&& 31)) &&& 255)) 10 ((p5 >>> (8 &&& 31)) &&& 255)) 11 ((p5 >>> (0 &&& 31)) &&& 255)) 12 ((p1 >>> (24 &&& 31)) &&& 255)) 13 ((p1 >>> (16 &&& 31)) &&& 255)) 14 ((p1 >>> (8 &&& 31)) &&& 255)) 15 ((p1 >>> (0 &&& 31)) &&& 255))))]) u)) A) sz (by decide +kernel) rfl (Nat.le_of_ble_eq_true rfl) (fun p e s m args below meth c A ls H B hP hD hS hl => ?_)
  obtain ⟨hx, hb, hml, hown, hts, hr, hlk, hnm, hK, hA, hN⟩ := id B
  have hown : s.vm.findClass RX7 = some m.cls := hown
  have hl : lv_has ls 3 [(0, .ref p0), (1, .int p1)] := hl
  have w_0 : (Cond.fieldLink RX7 7 "WishSeaModel" "tape" "[I").before args s = true := hts _ (List.mem_of_getElem? (i := 1) rfl)
  have w_1 : (Cond.fieldLink RX7 13 "WishSeaModel" "taped" "I").before args s = true := hts _ (List.mem_of_getElem? (i := 2) rfl)
  have hinX7 : ∀ w ∈ u_ws RX7 TX7 92, w ∈ wsX7_put := fun _ h => List.mem_cons_of_mem _ (List.mem_append_right _ h)
  refine lv_bipush (v := 24) hx hb dX7_put_0 (by decide +kernel) ?_
  refine lv_istore_n (lv' := [(2, .int 24), (0, .ref p0), (1, .int p1)]) hx hb dX7_put_2 rfl hl (by decide) rfl (fun ls hl => ?_)
  refine lv_iload_n hx hb dX7_put_3 rfl (lv_at hl 0 rfl) ?_
  refine lv_if_lt (tgt := 39) hx hb dX7_put_4 (by decide) (fun q9 => absurd q9 (by decide +kernel)) (fun _ => ?_)
  refine lv_aload_n hx hb dX7_put_7 rfl (lv_at hl 1 rfl) ?_
  refine k_get (D := (dC, dI)) (ci := 7) (v := .ref (p2 0)) (C := RX7) (T := TX7) (N := 92) hx hb hts hinX7 hown hK hP 0 rfl rfl 0 (by decide) w_0 rfl rfl dX7_put_8 ?_
  refine lv_aload_n hx hb dX7_put_11 rfl (lv_at hl 1 rfl) ?_
  refine k_get (D := (dC, dI)) (ci := 7) (v := .int 12) (C := RX7) (T := TX7) (N := 92) hx hb hts hinX7 hown hK hP 0 rfl rfl 1 (by decide) w_1 rfl rfl dX7_put_12 ?_
  refine lv_iload_n hx hb dX7_put_15 rfl (lv_at hl 2 rfl) ?_
  refine lv_iload_n hx hb dX7_put_16 rfl (lv_at hl 0 rfl) ?_
  refine lv_ishr hx hb dX7_put_17 ?_
  refine lv_sipush (v := 255) hx hb dX7_put_18 (by decide +kernel) ?_
  refine lv_iand hx hb dX7_put_21 ?_
  refine k_iast (g := (upd (upd (upd (upd (upd (upd (upd (upd (upd (upd (upd (upd (upd (fun _ => 0) 0 ((p3 >>> (24 &&& 31)) &&& 255)) 1 ((p3 >>> (16 &&& 31)) &&& 255)) 2 ((p3 >>> (8 &&& 31)) &&& 255)) 3 ((p3 >>> (0 &&& 31)) &&& 255)) 4 ((p4 >>> (24 &&& 31)) &&& 255)) 5 ((p4 >>> (16 &&& 31)) &&& 255)) 6 ((p4 >>> (8 &&& 31)) &&& 255)) 7 ((p4 >>> (0 &&& 31)) &&& 255)) 8 ((p5 >>> (24 &&& 31)) &&& 255)) 9 ((p5 >>> (16 &&& 31)) &&& 255)) 10 ((p5 >>> (8 &&& 31)) &&& 255)) 11 ((p5 >>> (0 &&& 31)) &&& 255)) 12 ((p1 >>> (24 &&& 31)) &&& 255))) (ws' := [(p0, .inr (7, oM p2 (upd i7 1 12) j7)), ((p2 0), .inl (cI, 1800, .inl (upd (upd (upd (upd (upd (upd (upd (upd (upd (upd (upd (upd (upd (fun _ => 0) 0 ((p3 >>> (24 &&& 31)) &&& 255)) 1 ((p3 >>> (16 &&& 31)) &&& 255)) 2 ((p3 >>> (8 &&& 31)) &&& 255)) 3 ((p3 >>> (0 &&& 31)) &&& 255)) 4 ((p4 >>> (24 &&& 31)) &&& 255)) 5 ((p4 >>> (16 &&& 31)) &&& 255)) 6 ((p4 >>> (8 &&& 31)) &&& 255)) 7 ((p4 >>> (0 &&& 31)) &&& 255)) 8 ((p5 >>> (24 &&& 31)) &&& 255)) 9 ((p5 >>> (16 &&& 31)) &&& 255)) 10 ((p5 >>> (8 &&& 31)) &&& 255)) 11 ((p5 >>> (0 &&& 31)) &&& 255)) 12 ((p1 >>> (24 &&& 31)) &&& 255))))]) hx hb hK hP hD hS 1 0 12 rfl rfl rfl (Nat.le_of_ble_eq_true rfl) (Nat.le_of_ble_eq_true rfl) rfl rfl dX7_put_22 (fun H locs hP hD hS => ?_)
  refine lv_aload_n hx hb dX7_put_23 rfl (lv_at hl 1 rfl) ?_
  refine lv_dup hx hb dX7_put_24 rfl ?_
  refine k_get (D := (dC, dI)) (ci := 7) (v := .int 12) (C := RX7) (T := TX7) (N := 92) hx hb hts hinX7 hown hK hP 0 rfl rfl 1 (by decide) w_1 rfl rfl dX7_put_25 ?_
  refine lv_iconst (v := 1) hx hb dX7_put_28 (by decide +kernel) ?_
  refine lv_iadd hx hb dX7_put_29 ?_
  refine k_int (v := 13) (by decide +kernel) ?_
  refine k_put (D := (dC, dI)) (ci := 7) (v := .int 13) (C := RX7) (T := TX7) (N := 92) (ws' := [(p0, .inr (7, oM p2 (upd i7 1 13) j7)), ((p2 0), .inl (cI, 1800, .inl (upd (upd (upd (upd (upd (upd (upd (upd (upd (upd (upd (upd (upd (fun _ => 0) 0 ((p3 >>> (24 &&& 31)) &&& 255)) 1 ((p3 >>> (16 &&& 31)) &&& 255)) 2 ((p3 >>> (8 &&& 31)) &&& 255)) 3 ((p3 >>> (0 &&& 31)) &&& 255)) 4 ((p4 >>> (24 &&& 31)) &&& 255)) 5 ((p4 >>> (16 &&& 31)) &&& 255)) 6 ((p4 >>> (8 &&& 31)) &&& 255)) 7 ((p4 >>> (0 &&& 31)) &&& 255)) 8 ((p5 >>> (24 &&& 31)) &&& 255)) 9 ((p5 >>> (16 &&& 31)) &&& 255)) 10 ((p5 >>> (8 &&& 31)) &&& 255)) 11 ((p5 >>> (0 &&& 31)) &&& 255)) 12 ((p1 >>> (24 &&& 31)) &&& 255))))]) hx hb hts hinX7 tyX7 tyX7_ok nmX7 hown hK hP hD hS 0 rfl rfl 1 (by decide) w_1 rfl rfl rfl rfl (Nat.le_of_ble_eq_true rfl) rfl dX7_put_30 (fun H locs hP hD hS => ?_)
  refine lv_iinc (v := 16) (lv' := [(2, .int 16), (0, .ref p0), (1, .int p1)]) hx hb dX7_put_33 hl (k := 0) rfl (by decide +kernel) (by decide) rfl (fun ls hl => ?_)
  refine lv_goto (tgt := 3) hx hb dX7_put_36 (by decide) ?_
  refine lv_iload_n hx hb dX7_put_3 rfl (lv_at hl 0 rfl) ?_
  refine lv_if_lt (tgt := 39) hx hb dX7_put_4 (by decide) (fun q9 => absurd q9 (by decide +kernel)) (fun _ => ?_)
  refine lv_aload_n hx hb dX7_put_7 rfl (lv_at hl 1 rfl) ?_
  refine k_get (D := (dC, dI)) (ci := 7) (v := .ref (p2 0)) (C := RX7) (T := TX7) (N := 92) hx hb hts hinX7 hown hK hP 0 rfl rfl 0 (by decide) w_0 rfl rfl dX7_put_8 ?_
  refine lv_aload_n hx hb dX7_put_11 rfl (lv_at hl 1 rfl) ?_
  refine k_get (D := (dC, dI)) (ci := 7) (v := .int 13) (C := RX7) (T := TX7) (N := 92) hx hb hts hinX7 hown hK hP 0 rfl rfl 1 (by decide) w_1 rfl rfl dX7_put_12 ?_
  refine lv_iload_n hx hb dX7_put_15 rfl (lv_at hl 2 rfl) ?_
  refine lv_iload_n hx hb dX7_put_16 rfl (lv_at hl 0 rfl) ?_
  refine lv_ishr hx hb dX7_put_17 ?_
  refine lv_sipush (v := 255) hx hb dX7_put_18 (by decide +kernel) ?_
  refine lv_iand hx hb dX7_put_21 ?_
  refine k_iast (g := (upd (upd (upd (upd (upd (upd (upd (upd (upd (upd (upd (upd (upd (upd (fun _ => 0) 0 ((p3 >>> (24 &&& 31)) &&& 255)) 1 ((p3 >>> (16 &&& 31)) &&& 255)) 2 ((p3 >>> (8 &&& 31)) &&& 255)) 3 ((p3 >>> (0 &&& 31)) &&& 255)) 4 ((p4 >>> (24 &&& 31)) &&& 255)) 5 ((p4 >>> (16 &&& 31)) &&& 255)) 6 ((p4 >>> (8 &&& 31)) &&& 255)) 7 ((p4 >>> (0 &&& 31)) &&& 255)) 8 ((p5 >>> (24 &&& 31)) &&& 255)) 9 ((p5 >>> (16 &&& 31)) &&& 255)) 10 ((p5 >>> (8 &&& 31)) &&& 255)) 11 ((p5 >>> (0 &&& 31)) &&& 255)) 12 ((p1 >>> (24 &&& 31)) &&& 255)) 13 ((p1 >>> (16 &&& 31)) &&& 255))) (ws' := [(p0, .inr (7, oM p2 (upd i7 1 13) j7)), ((p2 0), .inl (cI, 1800, .inl (upd (upd (upd (upd (upd (upd (upd (upd (upd (upd (upd (upd (upd (upd (fun _ => 0) 0 ((p3 >>> (24 &&& 31)) &&& 255)) 1 ((p3 >>> (16 &&& 31)) &&& 255)) 2 ((p3 >>> (8 &&& 31)) &&& 255)) 3 ((p3 >>> (0 &&& 31)) &&& 255)) 4 ((p4 >>> (24 &&& 31)) &&& 255)) 5 ((p4 >>> (16 &&& 31)) &&& 255)) 6 ((p4 >>> (8 &&& 31)) &&& 255)) 7 ((p4 >>> (0 &&& 31)) &&& 255)) 8 ((p5 >>> (24 &&& 31)) &&& 255)) 9 ((p5 >>> (16 &&& 31)) &&& 255)) 10 ((p5 >>> (8 &&& 31)) &&& 255)) 11 ((p5 >>> (0 &&& 31)) &&& 255)) 12 ((p1 >>> (24 &&& 31)) &&& 255)) 13 ((p1 >>> (16 &&& 31)) &&& 255))))]) hx hb hK hP hD hS 1 0 13 rfl rfl rfl (Nat.le_of_ble_eq_true rfl) (Nat.le_of_ble_eq_true rfl) rfl rfl dX7_put_22 (fun H locs hP hD hS => ?_)
  refine lv_aload_n hx hb dX7_put_23 rfl (lv_at hl 1 rfl) ?_
  refine lv_dup hx hb dX7_put_24 rfl ?_
  refine k_get (D := (dC, dI)) (ci := 7) (v := .int 13) (C := RX7) (T := TX7) (N := 92) hx hb hts hinX7 hown hK hP 0 rfl rfl 1 (by decide) w_1 rfl rfl dX7_put_25 ?_
  refine lv_iconst (v := 1) hx hb dX7_put_28 (by decide +kernel) ?_
  refine lv_iadd hx hb dX7_put_29 ?_
  refine k_int (v := 14) (by decide +kernel) ?_
  refine k_put (D := (dC, dI)) (ci := 7) (v := .int 14) (C := RX7) (T := TX7) (N := 92) (ws' := [(p0, .inr (7, oM p2 (upd i7 1 14) j7)), ((p2 0), .inl (cI, 1800, .inl (upd (upd (upd (upd (upd (upd (upd (upd (upd (upd (upd (upd (upd (upd (fun _ => 0) 0 ((p3 >>> (24 &&& 31)) &&& 255)) 1 ((p3 >>> (16 &&& 31)) &&& 255)) 2 ((p3 >>> (8 &&& 31)) &&& 255)) 3 ((p3 >>> (0 &&& 31)) &&& 255)) 4 ((p4 >>> (24 &&& 31)) &&& 255)) 5 ((p4 >>> (16 &&& 31)) &&& 255)) 6 ((p4 >>> (8 &&& 31)) &&& 255)) 7 ((p4 >>> (0 &&& 31)) &&& 255)) 8 ((p5 >>> (24 &&& 31)) &&& 255)) 9 ((p5 >>> (16 &&& 31)) &&& 255)) 10 ((p5 >>> (8 &&& 31)) &&& 255)) 11 ((p5 >>> (0 &&& 31)) &&& 255)) 12 ((p1 >>> (24 &&& 31)) &&& 255)) 13 ((p1 >>> (16 &&& 31)) &&& 255))))]) hx hb hts hinX7 tyX7 tyX7_ok nmX7 hown hK hP hD hS 0 rfl rfl 1 (by decide) w_1 rfl rfl rfl rfl (Nat.le_of_ble_eq_true rfl) rfl dX7_put_30 (fun H locs hP hD hS => ?_)
  refine lv_iinc (v := 8) (lv' := [(2, .int 8), (0, .ref p0), (1, .int p1)]) hx hb dX7_put_33 hl (k := 0) rfl (by decide +kernel) (by decide) rfl (fun ls hl => ?_)
  refine lv_goto (tgt := 3) hx hb dX7_put_36 (by decide) ?_
  refine lv_iload_n hx hb dX7_put_3 rfl (lv_at hl 0 rfl) ?_
  refine lv_if_lt (tgt := 39) hx hb dX7_put_4 (by decide) (fun q9 => absurd q9 (by decide +kernel)) (fun _ => ?_)
  refine lv_aload_n hx hb dX7_put_7 rfl (lv_at hl 1 rfl) ?_
  refine k_get (D := (dC, dI)) (ci := 7) (v := .ref (p2 0)) (C := RX7) (T := TX7) (N := 92) hx hb hts hinX7 hown hK hP 0 rfl rfl 0 (by decide) w_0 rfl rfl dX7_put_8 ?_
  refine lv_aload_n hx hb dX7_put_11 rfl (lv_at hl 1 rfl) ?_
  refine k_get (D := (dC, dI)) (ci := 7) (v := .int 14) (C := RX7) (T := TX7) (N := 92) hx hb hts hinX7 hown hK hP 0 rfl rfl 1 (by decide) w_1 rfl rfl dX7_put_12 ?_
  refine lv_iload_n hx hb dX7_put_15 rfl (lv_at hl 2 rfl) ?_
  refine lv_iload_n hx hb dX7_put_16 rfl (lv_at hl 0 rfl) ?_
  refine lv_ishr hx hb dX7_put_17 ?_
  refine lv_sipush (v := 255) hx hb dX7_put_18 (by decide +kernel) ?_
  refine lv_iand hx hb dX7_put_21 ?_
  refine k_iast (g := (upd (upd (upd (upd (upd (upd (upd (upd (upd (upd (upd (upd (upd (upd (upd (fun _ => 0) 0 ((p3 >>> (24 &&& 31)) &&& 255)) 1 ((p3 >>> (16 &&& 31)) &&& 255)) 2 ((p3 >>> (8 &&& 31)) &&& 255)) 3 ((p3 >>> (0 &&& 31)) &&& 255)) 4 ((p4 >>> (24 &&& 31)) &&& 255)) 5 ((p4 >>> (16 &&& 31)) &&& 255)) 6 ((p4 >>> (8 &&& 31)) &&& 255)) 7 ((p4 >>> (0 &&& 31)) &&& 255)) 8 ((p5 >>> (24 &&& 31)) &&& 255)) 9 ((p5 >>> (16 &&& 31)) &&& 255)) 10 ((p5 >>> (8 &&& 31)) &&& 255)) 11 ((p5 >>> (0 &&& 31)) &&& 255)) 12 ((p1 >>> (24 &&& 31)) &&& 255)) 13 ((p1 >>> (16 &&& 31)) &&& 255)) 14 ((p1 >>> (8 &&& 31)) &&& 255))) (ws' := [(p0, .inr (7, oM p2 (upd i7 1 14) j7)), ((p2 0), .inl (cI, 1800, .inl (upd (upd (upd (upd (upd (upd (upd (upd (upd (upd (upd (upd (upd (upd (upd (fun _ => 0) 0 ((p3 >>> (24 &&& 31)) &&& 255)) 1 ((p3 >>> (16 &&& 31)) &&& 255)) 2 ((p3 >>> (8 &&& 31)) &&& 255)) 3 ((p3 >>> (0 &&& 31)) &&& 255)) 4 ((p4 >>> (24 &&& 31)) &&& 255)) 5 ((p4 >>> (16 &&& 31)) &&& 255)) 6 ((p4 >>> (8 &&& 31)) &&& 255)) 7 ((p4 >>> (0 &&& 31)) &&& 255)) 8 ((p5 >>> (24 &&& 31)) &&& 255)) 9 ((p5 >>> (16 &&& 31)) &&& 255)) 10 ((p5 >>> (8 &&& 31)) &&& 255)) 11 ((p5 >>> (0 &&& 31)) &&& 255)) 12 ((p1 >>> (24 &&& 31)) &&& 255)) 13 ((p1 >>> (16 &&& 31)) &&& 255)) 14 ((p1 >>> (8 &&& 31)) &&& 255))))]) hx hb hK hP hD hS 1 0 14 rfl rfl rfl (Nat.le_of_ble_eq_true rfl) (Nat.le_of_ble_eq_true rfl) rfl rfl dX7_put_22 (fun H locs hP hD hS => ?_)
  refine lv_aload_n hx hb dX7_put_23 rfl (lv_at hl 1 rfl) ?_
  refine lv_dup hx hb dX7_put_24 rfl ?_
  refine k_get (D := (dC, dI)) (ci := 7) (v := .int 14) (C := RX7) (T := TX7) (N := 92) hx hb hts hinX7 hown hK hP 0 rfl rfl 1 (by decide) w_1 rfl rfl dX7_put_25 ?_
  refine lv_iconst (v := 1) hx hb dX7_put_28 (by decide +kernel) ?_
  refine lv_iadd hx hb dX7_put_29 ?_
  refine k_int (v := 15) (by decide +kernel) ?_
  refine k_put (D := (dC, dI)) (ci := 7) (v := .int 15) (C := RX7) (T := TX7) (N := 92) (ws' := [(p0, .inr (7, oM p2 (upd i7 1 15) j7)), ((p2 0), .inl (cI, 1800, .inl (upd (upd (upd (upd (upd (upd (upd (upd (upd (upd (upd (upd (upd (upd (upd (fun _ => 0) 0 ((p3 >>> (24 &&& 31)) &&& 255)) 1 ((p3 >>> (16 &&& 31)) &&& 255)) 2 ((p3 >>> (8 &&& 31)) &&& 255)) 3 ((p3 >>> (0 &&& 31)) &&& 255)) 4 ((p4 >>> (24 &&& 31)) &&& 255)) 5 ((p4 >>> (16 &&& 31)) &&& 255)) 6 ((p4 >>> (8 &&& 31)) &&& 255)) 7 ((p4 >>> (0 &&& 31)) &&& 255)) 8 ((p5 >>> (24 &&& 31)) &&& 255)) 9 ((p5 >>> (16 &&& 31)) &&& 255)) 10 ((p5 >>> (8 &&& 31)) &&& 255)) 11 ((p5 >>> (0 &&& 31)) &&& 255)) 12 ((p1 >>> (24 &&& 31)) &&& 255)) 13 ((p1 >>> (16 &&& 31)) &&& 255)) 14 ((p1 >>> (8 &&& 31)) &&& 255))))]) hx hb hts hinX7 tyX7 tyX7_ok nmX7 hown hK hP hD hS 0 rfl rfl 1 (by decide) w_1 rfl rfl rfl rfl (Nat.le_of_ble_eq_true rfl) rfl dX7_put_30 (fun H locs hP hD hS => ?_)
  refine lv_iinc (v := 0) (lv' := [(2, .int 0), (0, .ref p0), (1, .int p1)]) hx hb dX7_put_33 hl (k := 0) rfl (by decide +kernel) (by decide) rfl (fun ls hl => ?_)
  refine lv_goto (tgt := 3) hx hb dX7_put_36 (by decide) ?_
  refine lv_iload_n hx hb dX7_put_3 rfl (lv_at hl 0 rfl) ?_
  refine lv_if_lt (tgt := 39) hx hb dX7_put_4 (by decide) (fun q9 => absurd q9 (by decide +kernel)) (fun _ => ?_)
  refine lv_aload_n hx hb dX7_put_7 rfl (lv_at hl 1 rfl) ?_
  refine k_get (D := (dC, dI)) (ci := 7) (v := .ref (p2 0)) (C := RX7) (T := TX7) (N := 92) hx hb hts hinX7 hown hK hP 0 rfl rfl 0 (by decide) w_0 rfl rfl dX7_put_8 ?_
  refine lv_aload_n hx hb dX7_put_11 rfl (lv_at hl 1 rfl) ?_
  refine k_get (D := (dC, dI)) (ci := 7) (v := .int 15) (C := RX7) (T := TX7) (N := 92) hx hb hts hinX7 hown hK hP 0 rfl rfl 1 (by decide) w_1 rfl rfl dX7_put_12 ?_
  refine lv_iload_n hx hb dX7_put_15 rfl (lv_at hl 2 rfl) ?_
  refine lv_iload_n hx hb dX7_put_16 rfl (lv_at hl 0 rfl) ?_
  refine lv_ishr hx hb dX7_put_17 ?_
  refine lv_sipush (v := 255) hx hb dX7_put_18 (by decide +kernel) ?_
  refine lv_iand hx hb dX7_put_21 ?_
  refine k_iast (g := (upd (upd (upd (upd (upd (upd (upd (upd (upd (upd (upd (upd (upd (upd (upd (upd (fun _ => 0) 0 ((p3 >>> (24 &&& 31)) &&& 255)) 1 ((p3 >>> (16 &&& 31)) &&& 255)) 2 ((p3 >>> (8 &&& 31)) &&& 255)) 3 ((p3 >>> (0 &&& 31)) &&& 255)) 4 ((p4 >>> (24 &&& 31)) &&& 255)) 5 ((p4 >>> (16 &&& 31)) &&& 255)) 6 ((p4 >>> (8 &&& 31)) &&& 255)) 7 ((p4 >>> (0 &&& 31)) &&& 255)) 8 ((p5 >>> (24 &&& 31)) &&& 255)) 9 ((p5 >>> (16 &&& 31)) &&& 255)) 10 ((p5 >>> (8 &&& 31)) &&& 255)) 11 ((p5 >>> (0 &&& 31)) &&& 255)) 12 ((p1 >>> (24 &&& 31)) &&& 255)) 13 ((p1 >>> (16 &&& 31)) &&& 255)) 14 ((p1 >>> (8 &&& 31)) &&& 255)) 15 ((p1 >>> (0 &&& 31)) &&& 255))) (ws' := [(p0, .inr (7, oM p2 (upd i7 1 15) j7)), ((p2 0), .inl (cI, 1800, .inl (upd (upd (upd (upd (upd (upd (upd (upd (upd (upd (upd (upd (upd (upd (upd (upd (fun _ => 0) 0 ((p3 >>> (24 &&& 31)) &&& 255)) 1 ((p3 >>> (16 &&& 31)) &&& 255)) 2 ((p3 >>> (8 &&& 31)) &&& 255)) 3 ((p3 >>> (0 &&& 31)) &&& 255)) 4 ((p4 >>> (24 &&& 31)) &&& 255)) 5 ((p4 >>> (16 &&& 31)) &&& 255)) 6 ((p4 >>> (8 &&& 31)) &&& 255)) 7 ((p4 >>> (0 &&& 31)) &&& 255)) 8 ((p5 >>> (24 &&& 31)) &&& 255)) 9 ((p5 >>> (16 &&& 31)) &&& 255)) 10 ((p5 >>> (8 &&& 31)) &&& 255)) 11 ((p5 >>> (0 &&& 31)) &&& 255)) 12 ((p1 >>> (24 &&& 31)) &&& 255)) 13 ((p1 >>> (16 &&& 31)) &&& 255)) 14 ((p1 >>> (8 &&& 31)) &&& 255)) 15 ((p1 >>> (0 &&& 31)) &&& 255))))]) hx hb hK hP hD hS 1 0 15 rfl rfl rfl (Nat.le_of_ble_eq_true rfl) (Nat.le_of_ble_eq_true rfl) rfl rfl dX7_put_22 (fun H locs hP hD hS => ?_)
  refine lv_aload_n hx hb dX7_put_23 rfl (lv_at hl 1 rfl) ?_
  refine lv_dup hx hb dX7_put_24 rfl ?_
  refine k_get (D := (dC, dI)) (ci := 7) (v := .int 15) (C := RX7) (T := TX7) (N := 92) hx hb hts hinX7 hown hK hP 0 rfl rfl 1 (by decide) w_1 rfl rfl dX7_put_25 ?_
  refine lv_iconst (v := 1) hx hb dX7_put_28 (by decide +kernel) ?_
  refine lv_iadd hx hb dX7_put_29 ?_
  refine k_int (v := 16) (by decide +kernel) ?_
  refine k_put (D := (dC, dI)) (ci := 7) (v := .int 16) (C := RX7) (T := TX7) (N := 92) (ws' := [(p0, .inr (7, oM p2 (upd i7 1 16) j7)), ((p2 0), .inl (cI, 1800, .inl (upd (upd (upd (upd (upd (upd (upd (upd (upd (upd (upd (upd (upd (upd (upd (upd (fun _ => 0) 0 ((p3 >>> (24 &&& 31)) &&& 255)) 1 ((p3 >>> (16 &&& 31)) &&& 255)) 2 ((p3 >>> (8 &&& 31)) &&& 255)) 3 ((p3 >>> (0 &&& 31)) &&& 255)) 4 ((p4 >>> (24 &&& 31)) &&& 255)) 5 ((p4 >>> (16 &&& 31)) &&& 255)) 6 ((p4 >>> (8 &&& 31)) &&& 255)) 7 ((p4 >>> (0 &&& 31)) &&& 255)) 8 ((p5 >>> (24 &&& 31)) &&& 255)) 9 ((p5 >>> (16 &&& 31)) &&& 255)) 10 ((p5 >>> (8 &&& 31)) &&& 255)) 11 ((p5 >>> (0 &&& 31)) &&& 255)) 12 ((p1 >>> (24 &&& 31)) &&& 255)) 13 ((p1 >>> (16 &&& 31)) &&& 255)) 14 ((p1 >>> (8 &&& 31)) &&& 255)) 15 ((p1 >>> (0 &&& 31)) &&& 255))))]) hx hb hts hinX7 tyX7 tyX7_ok nmX7 hown hK hP hD hS 0 rfl rfl 1 (by decide) w_1 rfl rfl rfl rfl (Nat.le_of_ble_eq_true rfl) rfl dX7_put_30 (fun H locs hP hD hS => ?_)
  refine lv_iinc (v := (-8)) (lv' := [(2, .int (-8)), (0, .ref p0), (1, .int p1)]) hx hb dX7_put_33 hl (k := 0) rfl (by decide +kernel) (by decide) rfl (fun ls hl => ?_)
  refine lv_goto (tgt := 3) hx hb dX7_put_36 (by decide) ?_
  refine lv_iload_n hx hb dX7_put_3 rfl (lv_at hl 0 rfl) ?_
  refine lv_if_lt (tgt := 39) hx hb dX7_put_4 (by decide) (fun _ => ?_) (fun q9 => absurd q9 (by decide +kernel))
  exact k_rv B hP hD hS dX7_put_39 () [0, 1] rfl rfl (Nat.le_of_ble_eq_true rfl) (Nat.le_of_ble_eq_true rfl) trivial
set_option maxHeartbeats 4000000 in
set_option maxRecDepth 100000 in
theorem c_X7_put_v4 (l : Launch) (dC : Nat → ClassId) (dI : Nat → Nat → Nat) (cI cJ cZ cM : ClassId) (p0 : Nat) (p1 : Int32) (p2 : Nat → Nat) (p3 : Int32) (p4 : Int32) (p5 : Int32) (p6 : Int32)   : k_Mv l yX7_put wsX7_put ({ frames := 1, cells := 0, slots := 0, locals := 40 }) (dC, dI) vwCl (tyy cI cJ cZ cM) [(p0, .inr (7, oM p2 (upd i7 1 16) j7)), ((p2 0), .inl (cI, 1800, .inl (upd (upd (upd (upd (upd (upd (upd (upd (upd (upd (upd (upd (upd (upd (upd (upd (fun _ => 0) 0 ((p3 >>> (24 &&& 31)) &&& 255)) 1 ((p3 >>> (16 &&& 31)) &&& 255)) 2 ((p3 >>> (8 &&& 31)) &&& 255)) 3 ((p3 >>> (0 &&& 31)) &&& 255)) 4 ((p4 >>> (24 &&& 31)) &&& 255)) 5 ((p4 >>> (16 &&& 31)) &&& 255)) 6 ((p4 >>> (8 &&& 31)) &&& 255)) 7 ((p4 >>> (0 &&& 31)) &&& 255)) 8 ((p5 >>> (24 &&& 31)) &&& 255)) 9 ((p5 >>> (16 &&& 31)) &&& 255)) 10 ((p5 >>> (8 &&& 31)) &&& 255)) 11 ((p5 >>> (0 &&& 31)) &&& 255)) 12 ((p6 >>> (24 &&& 31)) &&& 255)) 13 ((p6 >>> (16 &&& 31)) &&& 255)) 14 ((p6 >>> (8 &&& 31)) &&& 255)) 15 ((p6 >>> (0 &&& 31)) &&& 255))))] [.ref p0, .int p1] 0 0 (fun (u9 : Unit) => [(p0, .inr (7, oM p2 (upd i7 1 20) j7)), ((p2 0), .inl (cI, 1800, .inl (upd (upd (upd (upd (upd (upd (upd (upd (upd (upd (upd (upd (upd (upd (upd (upd (upd (upd (upd (upd (fun _ => 0) 0 ((p3 >>> (24 &&& 31)) &&& 255)) 1 ((p3 >>> (16 &&& 31)) &&& 255)) 2 ((p3 >>> (8 &&& 31)) &&& 255)) 3 ((p3 >>> (0 &&& 31)) &&& 255)) 4 ((p4 >>> (24 &&& 31)) &&& 255)) 5 ((p4 >>> (16 &&& 31)) &&& 255)) 6 ((p4 >>> (8 &&& 31)) &&& 255)) 7 ((p4 >>> (0 &&& 31)) &&& 255)) 8 ((p5 >>> (24 &&& 31)) &&& 255)) 9 ((p5 >>> (16 &&& 31)) &&& 255)) 10 ((p5 >>> (8 &&& 31)) &&& 255)) 11 ((p5 >>> (0 &&& 31)) &&& 255)) 12 ((p6 >>> (24 &&& 31)) &&& 255)) 13 ((p6 >>> (16 &&& 31)) &&& 255)) 14 ((p6 >>> (8 &&& 31)) &&& 255)) 15 ((p6 >>> (0 &&& 31)) &&& 255)) 16 ((p1 >>> (24 &&& 31)) &&& 255)) 17 ((p1 >>> (16 &&& 31)) &&& 255)) 18 ((p1 >>> (8 &&& 31)) &&& 255)) 19 ((p1 >>> (0 &&& 31)) &&& 255))))]) (fun (u9 : Unit) => True) := by
  refine fun sz => k_enter (cc := cX7_put) (maxL := 3) (ret := none) (Qc := fun A => va_Qv (fun (u9 : Unit) => True) (fun u => k_B (dC, dI) vwCl (tyy cI cJ cZ cM) A ((fun (u9 : Unit) => [(p0, .inr (7, oM p2 (upd i7 1 20) j7)), ((p2 0), .inl (cI, 1800, .inl (upd (upd (upd (upd (upd (upd (upd (upd (upd (upd (upd (upd (upd (upd (upd (upd (upd (upd (upd (upd (fun _ => 0) 0 ((p3 >>> (24 &&& 31)) &&& 255)) 1 ((p3 >>> (16 &&& 31)) &&& 255)) 2 ((p3 >>> (8 &&& 31)) &&& 255)) 3 ((p3 >>> (0 &&& 31)) &&& 255)) 4 ((p4 >>> (24 &&& 31)) &&& 255)) 5 ((p4 >>> (16 &&& 31)) &&& 255)) 6 ((p4 >>> (8 &&& 31)) &&& 255)) 7 ((p4 >>> (0 &&& 31)) &&& 255)) 8 ((p5 >>> (24 &&& 31)) &&& 255)) 9 ((p5 >>> (16 &&& 31)) &&& 255)) 10 ((p5 >>> (8 &&& 31)) &&& 255)) 11 ((p5 >>> (0 &&& 31)) &&& 255)) 12 ((p6 >>> (24 &&& 31)) &&& 255)) 13 ((p6 >>> (16 &&& 31)) &&& 255)) 14 ((p6 >>> (8 &&& 31)) &&& 255)) 15 ((p6 >>> (0 &&& 31)) &&& 255)) 16 ((p1 >>> (24 &&& 31)) &&& 255)) 17 ((p1 >>> (16 &&& 31)) &&& 255)) 18 ((p1 >>> (8 &&& 31)) &&& 255)) 19 ((p1 >>> (0 &&& 31)) &&& 255))))]) u)) A) sz (by decide +kernel) rfl (Nat.le_of_ble_eq_true rfl) (fun p e s m args below meth c A ls H B hP hD hS hl => ?_)
  obtain ⟨hx, hb, hml, hown, hts, hr, hlk, hnm, hK, hA, hN⟩ := id B
  have hown : s.vm.findClass RX7 = some m.cls := hown
  have hl : lv_has ls 3 [(0, .ref p0), (1, .int p1)] := hl
  have w_0 : (Cond.fieldLink RX7 7 "WishSeaModel" "tape" "[I").before args s = true := hts _ (List.mem_of_getElem? (i := 1) rfl)
  have w_1 : (Cond.fieldLink RX7 13 "WishSeaModel" "taped" "I").before args s = true := hts _ (List.mem_of_getElem? (i := 2) rfl)
  have hinX7 : ∀ w ∈ u_ws RX7 TX7 92, w ∈ wsX7_put := fun _ h => List.mem_cons_of_mem _ (List.mem_append_right _ h)
  refine lv_bipush (v := 24) hx hb dX7_put_0 (by decide +kernel) ?_
  refine lv_istore_n (lv' := [(2, .int 24), (0, .ref p0), (1, .int p1)]) hx hb dX7_put_2 rfl hl (by decide) rfl (fun ls hl => ?_)
  refine lv_iload_n hx hb dX7_put_3 rfl (lv_at hl 0 rfl) ?_
  refine lv_if_lt (tgt := 39) hx hb dX7_put_4 (by decide) (fun q9 => absurd q9 (by decide +kernel)) (fun _ => ?_)
  refine lv_aload_n hx hb dX7_put_7 rfl (lv_at hl 1 rfl) ?_
  refine k_get (D := (dC, dI)) (ci := 7) (v := .ref (p2 0)) (C := RX7) (T := TX7) (N := 92) hx hb hts hinX7 hown hK hP 0 rfl rfl 0 (by decide) w_0 rfl rfl dX7_put_8 ?_
  refine lv_aload_n hx hb dX7_put_11 rfl (lv_at hl 1 rfl) ?_
  refine k_get (D := (dC, dI)) (ci := 7) (v := .int 16) (C := RX7) (T := TX7) (N := 92) hx hb hts hinX7 hown hK hP 0 rfl rfl 1 (by decide) w_1 rfl rfl dX7_put_12 ?_
  refine lv_iload_n hx hb dX7_put_15 rfl (lv_at hl 2 rfl) ?_
  refine lv_iload_n hx hb dX7_put_16 rfl (lv_at hl 0 rfl) ?_
  refine lv_ishr hx hb dX7_put_17 ?_
  refine lv_sipush (v := 255) hx hb dX7_put_18 (by decide +kernel) ?_
  refine lv_iand hx hb dX7_put_21 ?_
  refine k_iast (g := (upd (upd (upd (upd (upd (upd (upd (upd (upd (upd (upd (upd (upd (upd (upd (upd (upd (fun _ => 0) 0 ((p3 >>> (24 &&& 31)) &&& 255)) 1 ((p3 >>> (16 &&& 31)) &&& 255)) 2 ((p3 >>> (8 &&& 31)) &&& 255)) 3 ((p3 >>> (0 &&& 31)) &&& 255)) 4 ((p4 >>> (24 &&& 31)) &&& 255)) 5 ((p4 >>> (16 &&& 31)) &&& 255)) 6 ((p4 >>> (8 &&& 31)) &&& 255)) 7 ((p4 >>> (0 &&& 31)) &&& 255)) 8 ((p5 >>> (24 &&& 31)) &&& 255)) 9 ((p5 >>> (16 &&& 31)) &&& 255)) 10 ((p5 >>> (8 &&& 31)) &&& 255)) 11 ((p5 >>> (0 &&& 31)) &&& 255)) 12 ((p6 >>> (24 &&& 31)) &&& 255)) 13 ((p6 >>> (16 &&& 31)) &&& 255)) 14 ((p6 >>> (8 &&& 31)) &&& 255)) 15 ((p6 >>> (0 &&& 31)) &&& 255)) 16 ((p1 >>> (24 &&& 31)) &&& 255))) (ws' := [(p0, .inr (7, oM p2 (upd i7 1 16) j7)), ((p2 0), .inl (cI, 1800, .inl (upd (upd (upd (upd (upd (upd (upd (upd (upd (upd (upd (upd (upd (upd (upd (upd (upd (fun _ => 0) 0 ((p3 >>> (24 &&& 31)) &&& 255)) 1 ((p3 >>> (16 &&& 31)) &&& 255)) 2 ((p3 >>> (8 &&& 31)) &&& 255)) 3 ((p3 >>> (0 &&& 31)) &&& 255)) 4 ((p4 >>> (24 &&& 31)) &&& 255)) 5 ((p4 >>> (16 &&& 31)) &&& 255)) 6 ((p4 >>> (8 &&& 31)) &&& 255)) 7 ((p4 >>> (0 &&& 31)) &&& 255)) 8 ((p5 >>> (24 &&& 31)) &&& 255)) 9 ((p5 >>> (16 &&& 31)) &&& 255)) 10 ((p5 >>> (8 &&& 31)) &&& 255)) 11 ((p5 >>> (0 &&& 31)) &&& 255)) 12 ((p6 >>> (24 &&& 31)) &&& 255)) 13 ((p6 >>> (16 &&& 31)) &&& 255)) 14 ((p6 >>> (8 &&& 31)) &&& 255)) 15 ((p6 >>> (0 &&& 31)) &&& 255)) 16 ((p1 >>> (24 &&& 31)) &&& 255))))]) hx hb hK hP hD hS 1 0 16 rfl rfl rfl (Nat.le_of_ble_eq_true rfl) (Nat.le_of_ble_eq_true rfl) rfl rfl dX7_put_22 (fun H locs hP hD hS => ?_)
  refine lv_aload_n hx hb dX7_put_23 rfl (lv_at hl 1 rfl) ?_
  refine lv_dup hx hb dX7_put_24 rfl ?_
  refine k_get (D := (dC, dI)) (ci := 7) (v := .int 16) (C := RX7) (T := TX7) (N := 92) hx hb hts hinX7 hown hK hP 0 rfl rfl 1 (by decide) w_1 rfl rfl dX7_put_25 ?_
  refine lv_iconst (v := 1) hx hb dX7_put_28 (by decide +kernel) ?_
  refine lv_iadd hx hb dX7_put_29 ?_
  refine k_int (v := 17) (by decide +kernel) ?_
  refine k_put (D := (dC, dI)) (ci := 7) (v := .int 17) (C := RX7) (T := TX7) (N := 92) (ws' := [(p0, .inr (7, oM p2 (upd i7 1 17) j7)), ((p2 0), .inl (cI, 1800, .inl (upd (upd (upd (upd (upd (upd (upd (upd (upd (upd (upd (upd (upd (upd (upd (upd (upd (fun _ => 0) 0 ((p3 >>> (24 &&& 31)) &&& 255)) 1 ((p3 >>> (16 &&& 31)) &&& 255)) 2 ((p3 >>> (8 &&& 31)) &&& 255)) 3 ((p3 >>> (0 &&& 31)) &&& 255)) 4 ((p4 >>> (24 &&& 31)) &&& 255)) 5 ((p4 >>> (16 &&& 31)) &&& 255)) 6 ((p4 >>> (8 &&& 31)) &&& 255)) 7 ((p4 >>> (0 &&& 31)) &&& 255)) 8 ((p5 >>> (24 &&& 31)) &&& 255)) 9 ((p5 >>> (16 &&& 31)) &&& 255)) 10 ((p5 >>> (8 &&& 31)) &&& 255)) 11 ((p5 >>> (0 &&& 31)) &&& 255)) 12 ((p6 >>> (24 &&& 31)) &&& 255)) 13 ((p6 >>> (16 &&& 31)) &&& 255)) 14 ((p6 >>> (8 &&& 31)) &&& 255)) 15 ((p6 >>> (0 &&& 31)) &&& 255)) 16 ((p1 >>> (24 &&& 31)) &&& 255))))]) hx hb hts hinX7 tyX7 tyX7_ok nmX7 hown hK hP hD hS 0 rfl rfl 1 (by decide) w_1 rfl rfl rfl rfl (Nat.le_of_ble_eq_true rfl) rfl dX7_put_30 (fun H locs hP hD hS => ?_)
  refine lv_iinc (v := 16) (lv' := [(2, .int 16), (0, .ref p0), (1, .int p1)]) hx hb dX7_put_33 hl (k := 0) rfl (by decide +kernel) (by decide) rfl (fun ls hl => ?_)
  refine lv_goto (tgt := 3) hx hb dX7_put_36 (by decide) ?_
  refine lv_iload_n hx hb dX7_put_3 rfl (lv_at hl 0 rfl) ?_
  refine lv_if_lt (tgt := 39) hx hb dX7_put_4 (by decide) (fun q9 => absurd q9 (by decide +kernel)) (fun _ => ?_)
  refine lv_aload_n hx hb dX7_put_7 rfl (lv_at hl 1 rfl) ?_
  refine k_get (D := (dC, dI)) (ci := 7) (v := .ref (p2 0)) (C := RX7) (T := TX7) (N := 92) hx hb hts hinX7 hown hK hP 0 rfl rfl 0 (by decide) w_0 rfl rfl dX7_put_8 ?_
  refine lv_aload_n hx hb dX7_put_11 rfl (lv_at hl 1 rfl) ?_
  refine k_get (D := (dC, dI)) (ci := 7) (v := .int 17) (C := RX7) (T := TX7) (N := 92) hx hb hts hinX7 hown hK hP 0 rfl rfl 1 (by decide) w_1 rfl rfl dX7_put_12 ?_
  refine lv_iload_n hx hb dX7_put_15 rfl (lv_at hl 2 rfl) ?_
  refine lv_iload_n hx hb dX7_put_16 rfl (lv_at hl 0 rfl) ?_
  refine lv_ishr hx hb dX7_put_17 ?_
  refine lv_sipush (v := 255) hx hb dX7_put_18 (by decide +kernel) ?_
  refine lv_iand hx hb dX7_put_21 ?_
  refine k_iast (g := (upd (upd (upd (upd (upd (upd (upd (upd (upd (upd (upd (upd (upd (upd (upd (upd (upd (upd (fun _ => 0) 0 ((p3 >>> (24 &&& 31)) &&& 255)) 1 ((p3 >>> (16 &&& 31)) &&& 255)) 2 ((p3 >>> (8 &&& 31)) &&& 255)) 3 ((p3 >>> (0 &&& 31)) &&& 255)) 4 ((p4 >>> (24 &&& 31)) &&& 255)) 5 ((p4 >>> (16 &&& 31)) &&& 255)) 6 ((p4 >>> (8 &&& 31)) &&& 255)) 7 ((p4 >>> (0 &&& 31)) &&& 255)) 8 ((p5 >>> (24 &&& 31)) &&& 255)) 9 ((p5 >>> (16 &&& 31)) &&& 255)) 10 ((p5 >>> (8 &&& 31)) &&& 255)) 11 ((p5 >>> (0 &&& 31)) &&& 255)) 12 ((p6 >>> (24 &&& 31)) &&& 255)) 13 ((p6 >>> (16 &&& 31)) &&& 255)) 14 ((p6 >>> (8 &&& 31)) &&& 255)) 15 ((p6 >>> (0 &&& 31)) &&& 255)) 16 ((p1 >>> (24 &&& 31)) &&& 255)) 17 ((p1 >>> (16 &&& 31)) &&& 255))) (ws' := [(p0, .inr (7, oM p2 (upd i7 1 17) j7)), ((p2 0), .inl (cI, 1800, .inl (upd (upd (upd (upd (upd (upd (upd (upd (upd (upd (upd (upd (upd (upd (upd (upd (upd (upd (fun _ => 0) 0 ((p3 >>> (24 &&& 31)) &&& 255)) 1 ((p3 >>> (16 &&& 31)) &&& 255)) 2 ((p3 >>> (8 &&& 31)) &&& 255)) 3 ((p3 >>> (0 &&& 31)) &&& 255)) 4 ((p4 >>> (24 &&& 31)) &&& 255)) 5 ((p4 >>> (16 &&& 31)) &&& 255)) 6 ((p4 >>> (8 &&& 31)) &&& 255)) 7 ((p4 >>> (0 &&& 31)) &&& 255)) 8 ((p5 >>> (24 &&& 31)) &&& 255)) 9 ((p5 >>> (16 &&& 31)) &&& 255)) 10 ((p5 >>> (8 &&& 31)) &&& 255)) 11 ((p5 >>> (0 &&& 31)) &&& 255)) 12 ((p6 >>> (24 &&& 31)) &&& 255)) 13 ((p6 >>> (16 &&& 31)) &&& 255)) 14 ((p6 >>> (8 &&& 31)) &&& 255)) 15 ((p6 >>> (0 &&& 31)) &&& 255)) 16 ((p1 >>> (24 &&& 31)) &&& 255)) 17 ((p1 >>> (16 &&& 31)) &&& 255))))]) hx hb hK hP hD hS 1 0 17 rfl rfl rfl (Nat.le_of_ble_eq_true rfl) (Nat.le_of_ble_eq_true rfl) rfl rfl dX7_put_22 (fun H locs hP hD hS => ?_)
  refine lv_aload_n hx hb dX7_put_23 rfl (lv_at hl 1 rfl) ?_
  refine lv_dup hx hb dX7_put_24 rfl ?_
  refine k_get (D := (dC, dI)) (ci := 7) (v := .int 17) (C := RX7) (T := TX7) (N := 92) hx hb hts hinX7 hown hK hP 0 rfl rfl 1 (by decide) w_1 rfl rfl dX7_put_25 ?_
  refine lv_iconst (v := 1) hx hb dX7_put_28 (by decide +kernel) ?_
  refine lv_iadd hx hb dX7_put_29 ?_
  refine k_int (v := 18) (by decide +kernel) ?_
  refine k_put (D := (dC, dI)) (ci := 7) (v := .int 18) (C := RX7) (T := TX7) (N := 92) (ws' := [(p0, .inr (7, oM p2 (upd i7 1 18) j7)), ((p2 0), .inl (cI, 1800, .inl (upd (upd (upd (upd (upd (upd (upd (upd (upd (upd (upd (upd (upd (upd (upd (upd (upd (upd (fun _ => 0) 0 ((p3 >>> (24 &&& 31)) &&& 255)) 1 ((p3 >>> (16 &&& 31)) &&& 255)) 2 ((p3 >>> (8 &&& 31)) &&& 255)) 3 ((p3 >>> (0 &&& 31)) &&& 255)) 4 ((p4 >>> (24 &&& 31)) &&& 255)) 5 ((p4 >>> (16 &&& 31)) &&& 255)) 6 ((p4 >>> (8 &&& 31)) &&& 255)) 7 ((p4 >>> (0 &&& 31)) &&& 255)) 8 ((p5 >>> (24 &&& 31)) &&& 255)) 9 ((p5 >>> (16 &&& 31)) &&& 255)) 10 ((p5 >>> (8 &&& 31)) &&& 255)) 11 ((p5 >>> (0 &&& 31)) &&& 255)) 12 ((p6 >>> (24 &&& 31)) &&& 255)) 13 ((p6 >>> (16 &&& 31)) &&& 255)) 14 ((p6 >>> (8 &&& 31)) &&& 255)) 15 ((p6 >>> (0 &&& 31)) &&& 255)) 16 ((p1 >>> (24 &&& 31)) &&& 255)) 17 ((p1 >>> (16 &&& 31)) &&& 255))))]) hx hb hts hinX7 tyX7 tyX7_ok nmX7 hown hK hP hD hS 0 rfl rfl 1 (by decide) w_1 rfl rfl rfl rfl (Nat.le_of_ble_eq_true rfl) rfl dX7_put_30 (fun H locs hP hD hS => ?_)
  refine lv_iinc (v := 8) (lv' := [(2, .int 8), (0, .ref p0), (1, .int p1)]) hx hb dX7_put_33 hl (k := 0) rfl (by decide +kernel) (by decide) rfl (fun ls hl => ?_)
  refine lv_goto (tgt := 3) hx hb dX7_put_36 (by decide) ?_
  refine lv_iload_n hx hb dX7_put_3 rfl (lv_at hl 0 rfl) ?_
  refine lv_if_lt (tgt := 39) hx hb dX7_put_4 (by decide) (fun q9 => absurd q9 (by decide +kernel)) (fun _ => ?_)
  refine lv_aload_n hx hb dX7_put_7 rfl (lv_at hl 1 rfl) ?_
  refine k_get (D := (dC, dI)) (ci := 7) (v := .ref (p2 0)) (C := RX7) (T := TX7) (N := 92) hx hb hts hinX7 hown hK hP 0 rfl rfl 0 (by decide) w_0 rfl rfl dX7_put_8 ?_
  refine lv_aload_n hx hb dX7_put_11 rfl (lv_at hl 1 rfl) ?_
  refine k_get (D := (dC, dI)) (ci := 7) (v := .int 18) (C := RX7) (T := TX7) (N := 92) hx hb hts hinX7 hown hK hP 0 rfl rfl 1 (by decide) w_1 rfl rfl dX7_put_12 ?_
  refine lv_iload_n hx hb dX7_put_15 rfl (lv_at hl 2 rfl) ?_
  refine lv_iload_n hx hb dX7_put_16 rfl (lv_at hl 0 rfl) ?_
  refine lv_ishr hx hb dX7_put_17 ?_
  refine lv_sipush (v := 255) hx hb dX7_put_18 (by decide +kernel) ?_
  refine lv_iand hx hb dX7_put_21 ?_
  refine k_iast (g := (upd (upd (upd (upd (upd (upd (upd (upd (upd (upd (upd (upd (upd (upd (upd (upd (upd (upd (upd (fun _ => 0) 0 ((p3 >>> (24 &&& 31)) &&& 255)) 1 ((p3 >>> (16 &&& 31)) &&& 255)) 2 ((p3 >>> (8 &&& 31)) &&& 255)) 3 ((p3 >>> (0 &&& 31)) &&& 255)) 4 ((p4 >>> (24 &&& 31)) &&& 255)) 5 ((p4 >>> (16 &&& 31)) &&& 255)) 6 ((p4 >>> (8 &&& 31)) &&& 255)) 7 ((p4 >>> (0 &&& 31)) &&& 255)) 8 ((p5 >>> (24 &&& 31)) &&& 255)) 9 ((p5 >>> (16 &&& 31)) &&& 255)) 10 ((p5 >>> (8 &&& 31)) &&& 255)) 11 ((p5 >>> (0 &&& 31)) &&& 255)) 12 ((p6 >>> (24 &&& 31)) &&& 255)) 13 ((p6 >>> (16 &&& 31)) &&& 255)) 14 ((p6 >>> (8 &&& 31)) &&& 255)) 15 ((p6 >>> (0 &&& 31)) &&& 255)) 16 ((p1 >>> (24 &&& 31)) &&& 255)) 17 ((p1 >>> (16 &&& 31)) &&& 255)) 18 ((p1 >>> (8 &&& 31)) &&& 255))) (ws' := [(p0, .inr (7, oM p2 (upd i7 1 18) j7)), ((p2 0), .inl (cI, 1800, .inl (upd (upd (upd (upd (upd (upd (upd (upd (upd (upd (upd (upd (upd (upd (upd (upd (upd (upd (upd (fun _ => 0) 0 ((p3 >>> (24 &&& 31)) &&& 255)) 1 ((p3 >>> (16 &&& 31)) &&& 255)) 2 ((p3 >>> (8 &&& 31)) &&& 255)) 3 ((p3 >>> (0 &&& 31)) &&& 255)) 4 ((p4 >>> (24 &&& 31)) &&& 255)) 5 ((p4 >>> (16 &&& 31)) &&& 255)) 6 ((p4 >>> (8 &&& 31)) &&& 255)) 7 ((p4 >>> (0 &&& 31)) &&& 255)) 8 ((p5 >>> (24 &&& 31)) &&& 255)) 9 ((p5 >>> (16 &&& 31)) &&& 255)) 10 ((p5 >>> (8 &&& 31)) &&& 255)) 11 ((p5 >>> (0 &&& 31)) &&& 255)) 12 ((p6 >>> (24 &&& 31)) &&& 255)) 13 ((p6 >>> (16 &&& 31)) &&& 255)) 14 ((p6 >>> (8 &&& 31)) &&& 255)) 15 ((p6 >>> (0 &&& 31)) &&& 255)) 16 ((p1 >>> (24 &&& 31)) &&& 255)) 17 ((p1 >>> (16 &&& 31)) &&& 255)) 18 ((p1 >>> (8 &&& 31)) &&& 255))))]) hx hb hK hP hD hS 1 0 18 rfl rfl rfl (Nat.le_of_ble_eq_true rfl) (Nat.le_of_ble_eq_true rfl) rfl rfl dX7_put_22 (fun H locs hP hD hS => ?_)
  refine lv_aload_n hx hb dX7_put_23 rfl (lv_at hl 1 rfl) ?_
  refine lv_dup hx hb dX7_put_24 rfl ?_
  refine k_get (D := (dC, dI)) (ci := 7) (v := .int 18) (C := RX7) (T := TX7) (N := 92) hx hb hts hinX7 hown hK hP 0 rfl rfl 1 (by decide) w_1 rfl rfl dX7_put_25 ?_
  refine lv_iconst (v := 1) hx hb dX7_put_28 (by decide +kernel) ?_
  refine lv_iadd hx hb dX7_put_29 ?_
  refine k_int (v := 19) (by decide +kernel) ?_
  refine k_put (D := (dC, dI)) (ci := 7) (v := .int 19) (C := RX7) (T := TX7) (N := 92) (ws' := [(p0, .inr (7, oM p2 (upd i7 1 19) j7)), ((p2 0), .inl (cI, 1800, .inl (upd (upd (upd (upd (upd (upd (upd (upd (upd (upd (upd (upd (upd (upd (upd (upd (upd (upd (upd (fun _ => 0) 0 ((p3 >>> (24 &&& 31)) &&& 255)) 1 ((p3 >>> (16 &&& 31)) &&& 255)) 2 ((p3 >>> (8 &&& 31)) &&& 255)) 3 ((p3 >>> (0 &&& 31)) &&& 255)) 4 ((p4 >>> (24 &&& 31)) &&& 255)) 5 ((p4 >>> (16 &&& 31)) &&& 255)) 6 ((p4 >>> (8 &&& 31)) &&& 255)) 7 ((p4 >>> (0 &&& 31)) &&& 255)) 8 ((p5 >>> (24 &&& 31)) &&& 255)) 9 ((p5 >>> (16 &&& 31)) &&& 255)) 10 ((p5 >>> (8 &&& 31)) &&& 255)) 11 ((p5 >>> (0 &&& 31)) &&& 255)) 12 ((p6 >>> (24 &&& 31)) &&& 255)) 13 ((p6 >>> (16 &&& 31)) &&& 255)) 14 ((p6 >>> (8 &&& 31)) &&& 255)) 15 ((p6 >>> (0 &&& 31)) &&& 255)) 16 ((p1 >>> (24 &&& 31)) &&& 255)) 17 ((p1 >>> (16 &&& 31)) &&& 255)) 18 ((p1 >>> (8 &&& 31)) &&& 255))))]) hx hb hts hinX7 tyX7 tyX7_ok nmX7 hown hK hP hD hS 0 rfl rfl 1 (by decide) w_1 rfl rfl rfl rfl (Nat.le_of_ble_eq_true rfl) rfl dX7_put_30 (fun H locs hP hD hS => ?_)
  refine lv_iinc (v := 0) (lv' := [(2, .int 0), (0, .ref p0), (1, .int p1)]) hx hb dX7_put_33 hl (k := 0) rfl (by decide +kernel) (by decide) rfl (fun ls hl => ?_)
  refine lv_goto (tgt := 3) hx hb dX7_put_36 (by decide) ?_
  refine lv_iload_n hx hb dX7_put_3 rfl (lv_at hl 0 rfl) ?_
  refine lv_if_lt (tgt := 39) hx hb dX7_put_4 (by decide) (fun q9 => absurd q9 (by decide +kernel)) (fun _ => ?_)
  refine lv_aload_n hx hb dX7_put_7 rfl (lv_at hl 1 rfl) ?_
  refine k_get (D := (dC, dI)) (ci := 7) (v := .ref (p2 0)) (C := RX7) (T := TX7) (N := 92) hx hb hts hinX7 hown hK hP 0 rfl rfl 0 (by decide) w_0 rfl rfl dX7_put_8 ?_
  refine lv_aload_n hx hb dX7_put_11 rfl (lv_at hl 1 rfl) ?_
  refine k_get (D := (dC, dI)) (ci := 7) (v := .int 19) (C := RX7) (T := TX7) (N := 92) hx hb hts hinX7 hown hK hP 0 rfl rfl 1 (by decide) w_1 rfl rfl dX7_put_12 ?_
  refine lv_iload_n hx hb dX7_put_15 rfl (lv_at hl 2 rfl) ?_
  refine lv_iload_n hx hb dX7_put_16 rfl (lv_at hl 0 rfl) ?_
  refine lv_ishr hx hb dX7_put_17 ?_
  refine lv_sipush (v := 255) hx hb dX7_put_18 (by decide +kernel) ?_
  refine lv_iand hx hb dX7_put_21 ?_
  refine k_iast (g := (upd (upd (upd (upd (upd (upd (upd (upd (upd (upd (upd (upd (upd (upd (upd (upd (upd (upd (upd (upd (fun _ => 0) 0 ((p3 >>> (24 &&& 31)) &&& 255)) 1 ((p3 >>> (16 &&& 31)) &&& 255)) 2 ((p3 >>> (8 &&& 31)) &&& 255)) 3 ((p3 >>> (0 &&& 31)) &&& 255)) 4 ((p4 >>> (24 &&& 31)) &&& 255)) 5 ((p4 >>> (16 &&& 31)) &&& 255)) 6 ((p4 >>> (8 &&& 31)) &&& 255)) 7 ((p4 >>> (0 &&& 31)) &&& 255)) 8 ((p5 >>> (24 &&& 31)) &&& 255)) 9 ((p5 >>> (16 &&& 31)) &&& 255)) 10 ((p5 >>> (8 &&& 31)) &&& 255)) 11 ((p5 >>> (0 &&& 31)) &&& 255)) 12 ((p6 >>> (24 &&& 31)) &&& 255)) 13 ((p6 >>> (16 &&& 31)) &&& 255)) 14 ((p6 >>> (8 &&& 31)) &&& 255)) 15 ((p6 >>> (0 &&& 31)) &&& 255)) 16 ((p1 >>> (24 &&& 31)) &&& 255)) 17 ((p1 >>> (16 &&& 31)) &&& 255)) 18 ((p1 >>> (8 &&& 31)) &&& 255)) 19 ((p1 >>> (0 &&& 31)) &&& 255))) (ws' := [(p0, .inr (7, oM p2 (upd i7 1 19) j7)), ((p2 0), .inl (cI, 1800, .inl (upd (upd (upd (upd (upd (upd (upd (upd (upd (upd (upd (upd (upd (upd (upd (upd (upd (upd (upd (upd (fun _ => 0) 0 ((p3 >>> (24 &&& 31)) &&& 255)) 1 ((p3 >>> (16 &&& 31)) &&& 255)) 2 ((p3 >>> (8 &&& 31)) &&& 255)) 3 ((p3 >>> (0 &&& 31)) &&& 255)) 4 ((p4 >>> (24 &&& 31)) &&& 255)) 5 ((p4 >>> (16 &&& 31)) &&& 255)) 6 ((p4 >>> (8 &&& 31)) &&& 255)) 7 ((p4 >>> (0 &&& 31)) &&& 255)) 8 ((p5 >>> (24 &&& 31)) &&& 255)) 9 ((p5 >>> (16 &&& 31)) &&& 255)) 10 ((p5 >>> (8 &&& 31)) &&& 255)) 11 ((p5 >>> (0 &&& 31)) &&& 255)) 12 ((p6 >>> (24 &&& 31)) &&& 255)) 13 ((p6 >>> (16 &&& 31)) &&& 255)) 14 ((p6 >>> (8 &&& 31)) &&& 255)) 15 ((p6 >>> (0 &&& 31)) &&& 255)) 16 ((p1 >>> (24 &&& 31)) &&& 255)) 17 ((p1 >>> (16 &&& 31)) &&& 255)) 18 ((p1 >>> (8 &&& 31)) &&& 255)) 19 ((p1 >>> (0 &&& 31)) &&& 255))))]) hx hb hK hP hD hS 1 0 19 rfl rfl rfl (Nat.le_of_ble_eq_true rfl) (Nat.le_of_ble_eq_true rfl) rfl rfl dX7_put_22 (fun H locs hP hD hS => ?_)
  refine lv_aload_n hx hb dX7_put_23 rfl (lv_at hl 1 rfl) ?_
  refine lv_dup hx hb dX7_put_24 rfl ?_
  refine k_get (D := (dC, dI)) (ci := 7) (v := .int 19) (C := RX7) (T := TX7) (N := 92) hx hb hts hinX7 hown hK hP 0 rfl rfl 1 (by decide) w_1 rfl rfl dX7_put_25 ?_
  refine lv_iconst (v := 1) hx hb dX7_put_28 (by decide +kernel) ?_
  refine lv_iadd hx hb dX7_put_29 ?_
  refine k_int (v := 20) (by decide +kernel) ?_
  refine k_put (D := (dC, dI)) (ci := 7) (v := .int 20) (C := RX7) (T := TX7) (N := 92) (ws' := [(p0, .inr (7, oM p2 (upd i7 1 20) j7)), ((p2 0), .inl (cI, 1800, .inl (upd (upd (upd (upd (upd (upd (upd (upd (upd (upd (upd (upd (upd (upd (upd (upd (upd (upd (upd (upd (fun _ => 0) 0 ((p3 >>> (24 &&& 31)) &&& 255)) 1 ((p3 >>> (16 &&& 31)) &&& 255)) 2 ((p3 >>> (8 &&& 31)) &&& 255)) 3 ((p3 >>> (0 &&& 31)) &&& 255)) 4 ((p4 >>> (24 &&& 31)) &&& 255)) 5 ((p4 >>> (16 &&& 31)) &&& 255)) 6 ((p4 >>> (8 &&& 31)) &&& 255)) 7 ((p4 >>> (0 &&& 31)) &&& 255)) 8 ((p5 >>> (24 &&& 31)) &&& 255)) 9 ((p5 >>> (16 &&& 31)) &&& 255)) 10 ((p5 >>> (8 &&& 31)) &&& 255)) 11 ((p5 >>> (0 &&& 31)) &&& 255)) 12 ((p6 >>> (24 &&& 31)) &&& 255)) 13 ((p6 >>> (16 &&& 31)) &&& 255)) 14 ((p6 >>> (8 &&& 31)) &&& 255)) 15 ((p6 >>> (0 &&& 31)) &&& 255)) 16 ((p1 >>> (24 &&& 31)) &&& 255)) 17 ((p1 >>> (16 &&& 31)) &&& 255)) 18 ((p1 >>> (8 &&& 31)) &&& 255)) 19 ((p1 >>> (0 &&& 31)) &&& 255))))]) hx hb hts hinX7 tyX7 tyX7_ok nmX7 hown hK hP hD hS 0 rfl rfl 1 (by decide) w_1 rfl rfl rfl rfl (Nat.le_of_ble_eq_true rfl) rfl dX7_put_30 (fun H locs hP hD hS => ?_)
  refine lv_iinc (v := (-8)) (lv' := [(2, .int (-8)), (0, .ref p0), (1, .int p1)]) hx hb dX7_put_33 hl (k := 0) rfl (by decide +kernel) (by decide) rfl (fun ls hl => ?_)
  refine lv_goto (tgt := 3) hx hb dX7_put_36 (by decide) ?_
  refine lv_iload_n hx hb dX7_put_3 rfl (lv_at hl 0 rfl) ?_
  refine lv_if_lt (tgt := 39) hx hb dX7_put_4 (by decide) (fun _ => ?_) (fun q9 => absurd q9 (by decide +kernel))
  exact k_rv B hP hD hS dX7_put_39 () [0, 1] rfl rfl (Nat.le_of_ble_eq_true rfl) (Nat.le_of_ble_eq_true rfl) trivial
set_option maxHeartbeats 4000000 in
set_option maxRecDepth 100000 in
theorem c_X7_feed_v0 (l : Launch) (dC : Nat → ClassId) (dI : Nat → Nat → Nat) (cI cJ cZ cM : ClassId) (p0 : Nat) (p1 : Int32) (p2 : Int32) (p3 : Int32) (p4 : Int32) (p5 : Int32) (p6 : Nat → Nat)   : k_Mi l yX7_feed wsX7_feed ({ frames := 2, cells := 0, slots := 0, locals := 62 }) (dC, dI) vwCl (tyy cI cJ cZ cM) [(p0, .inr (7, oM p6 i7 j7)), ((p6 0), .inl (cI, 1800, .inl (fun _ => 0)))] [.ref p0, .int p1, .int p2, .int p3, .int p4, .int p5] 0 0 (fun (u9 : Unit) => [(p0, .inr (7, oM p6 (upd i7 1 20) j7)), ((p6 0), .inl (cI, 1800, .inl (upd (upd (upd (upd (upd (upd (upd (upd (upd (upd (upd (upd (upd (upd (upd (upd (upd (upd (upd (upd (fun _ => 0) 0 ((p1 >>> (24 &&& 31)) &&& 255)) 1 ((p1 >>> (16 &&& 31)) &&& 255)) 2 ((p1 >>> (8 &&& 31)) &&& 255)) 3 ((p1 >>> (0 &&& 31)) &&& 255)) 4 ((p2 >>> (24 &&& 31)) &&& 255)) 5 ((p2 >>> (16 &&& 31)) &&& 255)) 6 ((p2 >>> (8 &&& 31)) &&& 255)) 7 ((p2 >>> (0 &&& 31)) &&& 255)) 8 ((p3 >>> (24 &&& 31)) &&& 255)) 9 ((p3 >>> (16 &&& 31)) &&& 255)) 10 ((p3 >>> (8 &&& 31)) &&& 255)) 11 ((p3 >>> (0 &&& 31)) &&& 255)) 12 ((p4 >>> (24 &&& 31)) &&& 255)) 13 ((p4 >>> (16 &&& 31)) &&& 255)) 14 ((p4 >>> (8 &&& 31)) &&& 255)) 15 ((p4 >>> (0 &&& 31)) &&& 255)) 16 ((p5 >>> (24 &&& 31)) &&& 255)) 17 ((p5 >>> (16 &&& 31)) &&& 255)) 18 ((p5 >>> (8 &&& 31)) &&& 255)) 19 ((p5 >>> (0 &&& 31)) &&& 255))))]) (fun (r9 : Int32) (u9 : Unit) => r9 = 20) := by
  refine fun sz => k_enter (cc := cX7_feed) (maxL := 6) (ret := some (.int)) (Qc := fun A => va_Qi (fun (r9 : Int32) (u9 : Unit) => r9 = 20) (fun u => k_B (dC, dI) vwCl (tyy cI cJ cZ cM) A ((fun (u9 : Unit) => [(p0, .inr (7, oM p6 (upd i7 1 20) j7)), ((p6 0), .inl (cI, 1800, .inl (upd (upd (upd (upd (upd (upd (upd (upd (upd (upd (upd (upd (upd (upd (upd (upd (upd (upd (upd (upd (fun _ => 0) 0 ((p1 >>> (24 &&& 31)) &&& 255)) 1 ((p1 >>> (16 &&& 31)) &&& 255)) 2 ((p1 >>> (8 &&& 31)) &&& 255)) 3 ((p1 >>> (0 &&& 31)) &&& 255)) 4 ((p2 >>> (24 &&& 31)) &&& 255)) 5 ((p2 >>> (16 &&& 31)) &&& 255)) 6 ((p2 >>> (8 &&& 31)) &&& 255)) 7 ((p2 >>> (0 &&& 31)) &&& 255)) 8 ((p3 >>> (24 &&& 31)) &&& 255)) 9 ((p3 >>> (16 &&& 31)) &&& 255)) 10 ((p3 >>> (8 &&& 31)) &&& 255)) 11 ((p3 >>> (0 &&& 31)) &&& 255)) 12 ((p4 >>> (24 &&& 31)) &&& 255)) 13 ((p4 >>> (16 &&& 31)) &&& 255)) 14 ((p4 >>> (8 &&& 31)) &&& 255)) 15 ((p4 >>> (0 &&& 31)) &&& 255)) 16 ((p5 >>> (24 &&& 31)) &&& 255)) 17 ((p5 >>> (16 &&& 31)) &&& 255)) 18 ((p5 >>> (8 &&& 31)) &&& 255)) 19 ((p5 >>> (0 &&& 31)) &&& 255))))]) u)) A) sz (by decide +kernel) rfl (Nat.le_of_ble_eq_true rfl) (fun p e s m args below meth c A ls H B hP hD hS hl => ?_)
  obtain ⟨hx, hb, hml, hown, hts, hr, hlk, hnm, hK, hA, hN⟩ := id B
  have hown : s.vm.findClass RX7 = some m.cls := hown
  have hl : lv_has ls 6 [(0, .ref p0), (1, .int p1), (2, .int p2), (3, .int p3), (4, .int p4), (5, .int p5)] := hl
  have w_0 : (Cond.fieldLink RX7 13 "WishSeaModel" "taped" "I").before args s = true := hts _ (List.mem_of_getElem? (i := 1) rfl)
  have hinX7 : ∀ w ∈ u_ws RX7 TX7 92, w ∈ wsX7_feed := fun _ h => List.mem_cons_of_mem _ (List.mem_append_right _ h)
  refine lv_aload_n hx hb dX7_feed_0 rfl (lv_at hl 0 rfl) ?_
  refine k_get (D := (dC, dI)) (ci := 7) (v := .int 0) (C := RX7) (T := TX7) (N := 92) hx hb hts hinX7 hown hK hP 0 rfl rfl 1 (by decide) w_0 rfl rfl dX7_feed_1 ?_
  refine lv_bipush (v := 20) hx hb dX7_feed_4 (by decide +kernel) ?_
  refine lv_iadd hx hb dX7_feed_6 ?_
  refine k_int (v := 20) (by decide +kernel) ?_
  refine lv_sipush (v := 1600) hx hb dX7_feed_7 (by decide +kernel) ?_
  refine lv_icmp_le (tgt := 19) hx hb dX7_feed_10 (by decide) (fun _ => ?_) (fun q9 => absurd q9 (by decide +kernel))
  refine lv_aload_n hx hb dX7_feed_19 rfl (lv_at hl 0 rfl) ?_
  refine lv_iload_n hx hb dX7_feed_20 rfl (lv_at hl 1 rfl) ?_
  refine k_cv (wc := [(p0, .inr (7, oM p6 i7 j7)), ((p6 0), .inl (cI, 1800, .inl (fun _ => 0)))]) (wr := []) (fun hPc hDc => va_runV (As := [.int p1]) (rest := []) ⟨hx, hb, hml, hown, hts⟩ (c_X7_put_v0 l dC dI cI cJ cZ cM p0 p1 p6 H.size) (cwV 1 hts gX7_feed_X7_put rfl rfl rfl (by decide +kernel) ⟨(Nat.le_of_ble_eq_true rfl), (Nat.le_of_ble_eq_true rfl)⟩) (k_pV hPc hDc hK hN hP (q0 := 0) (ci := 7) rfl rfl) rfl rfl hl.1 rfl (lv_room (Nat.le_of_ble_eq_true rfl)) dX7_feed_21 ⟨(Nat.le_of_ble_eq_true rfl), (Nat.le_of_ble_eq_true rfl)⟩) hP hD hS hA [0, 1] [] rfl rfl rfl rfl (by decide) (fun _ => rfl) 0 0 rfl rfl (fun u_2 H locs hw hP hD hS => ?_)
  have hP : va_P (dC, dI) vwCl [(p0, .inr (7, oM p6 (upd i7 1 4) j7)), ((p6 0), .inl (cI, 1800, .inl (upd (upd (upd (upd (fun _ => 0) 0 ((p1 >>> (24 &&& 31)) &&& 255)) 1 ((p1 >>> (16 &&& 31)) &&& 255)) 2 ((p1 >>> (8 &&& 31)) &&& 255)) 3 ((p1 >>> (0 &&& 31)) &&& 255))))] H := hP
  have hD : va_D A [(p0, .inr (7, oM p6 (upd i7 1 4) j7)), ((p6 0), .inl (cI, 1800, .inl (upd (upd (upd (upd (fun _ => 0) 0 ((p1 >>> (24 &&& 31)) &&& 255)) 1 ((p1 >>> (16 &&& 31)) &&& 255)) 2 ((p1 >>> (8 &&& 31)) &&& 255)) 3 ((p1 >>> (0 &&& 31)) &&& 255))))] := hD
  refine lv_aload_n hx hb dX7_feed_24 rfl (lv_at hl 0 rfl) ?_
  refine lv_iload_n hx hb dX7_feed_25 rfl (lv_at hl 2 rfl) ?_
  refine k_cv (wc := [(p0, .inr (7, oM p6 (upd i7 1 4) j7)), ((p6 0), .inl (cI, 1800, .inl (upd (upd (upd (upd (fun _ => 0) 0 ((p1 >>> (24 &&& 31)) &&& 255)) 1 ((p1 >>> (16 &&& 31)) &&& 255)) 2 ((p1 >>> (8 &&& 31)) &&& 255)) 3 ((p1 >>> (0 &&& 31)) &&& 255))))]) (wr := []) (fun hPc hDc => va_runV (As := [.int p2]) (rest := []) ⟨hx, hb, hml, hown, hts⟩ (c_X7_put_v1 l dC dI cI cJ cZ cM p0 p2 p6 p1 H.size) (cwV 1 hts gX7_feed_X7_put rfl rfl rfl (by decide +kernel) ⟨(Nat.le_of_ble_eq_true rfl), (Nat.le_of_ble_eq_true rfl)⟩) (k_pV hPc hDc hK hN hP (q0 := 0) (ci := 7) rfl rfl) rfl rfl hl.1 rfl (lv_room (Nat.le_of_ble_eq_true rfl)) dX7_feed_26 ⟨(Nat.le_of_ble_eq_true rfl), (Nat.le_of_ble_eq_true rfl)⟩) hP hD hS hA [0, 1] [] rfl rfl rfl rfl (by decide) (fun _ => rfl) 0 0 rfl rfl (fun u_4 H locs hw hP hD hS => ?_)
  have hP : va_P (dC, dI) vwCl [(p0, .inr (7, oM p6 (upd i7 1 8) j7)), ((p6 0), .inl (cI, 1800, .inl (upd (upd (upd (upd (upd (upd (upd (upd (fun _ => 0) 0 ((p1 >>> (24 &&& 31)) &&& 255)) 1 ((p1 >>> (16 &&& 31)) &&& 255)) 2 ((p1 >>> (8 &&& 31)) &&& 255)) 3 ((p1 >>> (0 &&& 31)) &&& 255)) 4 ((p2 >>> (24 &&& 31)) &&& 255)) 5 ((p2 >>> (16 &&& 31)) &&& 255)) 6 ((p2 >>> (8 &&& 31)) &&& 255)) 7 ((p2 >>> (0 &&& 31)) &&& 255))))] H := hP
  have hD : va_D A [(p0, .inr (7, oM p6 (upd i7 1 8) j7)), ((p6 0), .inl (cI, 1800, .inl (upd (upd (upd (upd (upd (upd (upd (upd (fun _ => 0) 0 ((p1 >>> (24 &&& 31)) &&& 255)) 1 ((p1 >>> (16 &&& 31)) &&& 255)) 2 ((p1 >>> (8 &&& 31)) &&& 255)) 3 ((p1 >>> (0 &&& 31)) &&& 255)) 4 ((p2 >>> (24 &&& 31)) &&& 255)) 5 ((p2 >>> (16 &&& 31)) &&& 255)) 6 ((p2 >>> (8 &&& 31)) &&& 255)) 7 ((p2 >>> (0 &&& 31)) &&& 255))))] := hD
  refine lv_aload_n hx hb dX7_feed_29 rfl (lv_at hl 0 rfl) ?_
  refine lv_iload_n hx hb dX7_feed_30 rfl (lv_at hl 3 rfl) ?_
  refine k_cv (wc := [(p0, .inr (7, oM p6 (upd i7 1 8) j7)), ((p6 0), .inl (cI, 1800, .inl (upd (upd (upd (upd (upd (upd (upd (upd (fun _ => 0) 0 ((p1 >>> (24 &&& 31)) &&& 255)) 1 ((p1 >>> (16 &&& 31)) &&& 255)) 2 ((p1 >>> (8 &&& 31)) &&& 255)) 3 ((p1 >>> (0 &&& 31)) &&& 255)) 4 ((p2 >>> (24 &&& 31)) &&& 255)) 5 ((p2 >>> (16 &&& 31)) &&& 255)) 6 ((p2 >>> (8 &&& 31)) &&& 255)) 7 ((p2 >>> (0 &&& 31)) &&& 255))))]) (wr := []) (fun hPc hDc => va_runV (As := [.int p3]) (rest := []) ⟨hx, hb, hml, hown, hts⟩ (c_X7_put_v2 l dC dI cI cJ cZ cM p0 p3 p6 p1 p2 H.size) (cwV 1 hts gX7_feed_X7_put rfl rfl rfl (by decide +kernel) ⟨(Nat.le_of_ble_eq_true rfl), (Nat.le_of_ble_eq_true rfl)⟩) (k_pV hPc hDc hK hN hP (q0 := 0) (ci := 7) rfl rfl) rfl rfl hl.1 rfl (lv_room (Nat.le_of_ble_eq_true rfl)) dX7_feed_31 ⟨(Nat.le_of_ble_eq_true rfl), (Nat.le_of_ble_eq_true rfl)⟩) hP hD hS hA [0, 1] [] rfl rfl rfl rfl (by decide) (fun _ => rfl) 0 0 rfl rfl (fun u_6 H locs hw hP hD hS => ?_)
  have hP : va_P (dC, dI) vwCl [(p0, .inr (7, oM p6 (upd i7 1 12) j7)), ((p6 0), .inl (cI, 1800, .inl (upd (upd (upd (upd (upd (upd (upd (upd (upd (upd (upd (upd (fun _ => 0) 0 ((p1 >>> (24 &&& 31)) &&& 255)) 1 ((p1 >>> (16 &&& 31)) &&& 255)) 2 ((p1 >>> (8 &&& 31)) &&& 255)) 3 ((p1 >>> (0 &&& 31)) &&& 255)) 4 ((p2 >>> (24 &&& 31)) &&& 255)) 5 ((p2 >>> (16 &&& 31)) &&& 255)) 6 ((p2 >>> (8 &&& 31)) &&& 255)) 7 ((p2 >>> (0 &&& 31)) &&& 255)) 8 ((p3 >>> (24 &&& 31)) &&& 255)) 9 ((p3 >>> (16 &&& 31)) &&& 255)) 10 ((p3 >>> (8 &&& 31)) &&& 255)) 11 ((p3 >>> (0 &&& 31)) &&& 255))))] H := hP
  have hD : va_D A [(p0, .inr (7, oM p6 (upd i7 1 12) j7)), ((p6 0), .inl (cI, 1800, .inl (upd (upd (upd (upd (upd (upd (upd (upd (upd (upd (upd (upd (fun _ => 0) 0 ((p1 >>> (24 &&& 31)) &&& 255)) 1 ((p1 >>> (16 &&& 31)) &&& 255)) 2 ((p1 >>> (8 &&& 31)) &&& 255)) 3 ((p1 >>> (0 &&& 31)) &&& 255)) 4 ((p2 >>> (24 &&& 31)) &&& 255)) 5 ((p2 >>> (16 &&& 31)) &&& 255)) 6 ((p2 >>> (8 &&& 31)) &&& 255)) 7 ((p2 >>> (0 &&& 31)) &&& 255)) 8 ((p3 >>> (24 &&& 31)) &&& 255)) 9 ((p3 >>> (16 &&& 31)) &&& 255)) 10 ((p3 >>> (8 &&& 31)) &&& 255)) 11 ((p3 >>> (0 &&& 31)) &&& 255))))] := hD
  refine lv_aload_n hx hb dX7_feed_34 rfl (lv_at hl 0 rfl) ?_
  refine lv_iload hx hb dX7_feed_35 (lv_at hl 4 rfl) ?_
  refine k_cv (wc := [(p0, .inr (7, oM p6 (upd i7 1 12) j7)), ((p6 0), .inl (cI, 1800, .inl (upd (upd (upd (upd (upd (upd (upd (upd (upd (upd (upd (upd (fun _ => 0) 0 ((p1 >>> (24 &&& 31)) &&& 255)) 1 ((p1 >>> (16 &&& 31)) &&& 255)) 2 ((p1 >>> (8 &&& 31)) &&& 255)) 3 ((p1 >>> (0 &&& 31)) &&& 255)) 4 ((p2 >>> (24 &&& 31)) &&& 255)) 5 ((p2 >>> (16 &&& 31)) &&& 255)) 6 ((p2 >>> (8 &&& 31)) &&& 255)) 7 ((p2 >>> (0 &&& 31)) &&& 255)) 8 ((p3 >>> (24 &&& 31)) &&& 255)) 9 ((p3 >>> (16 &&& 31)) &&& 255)) 10 ((p3 >>> (8 &&& 31)) &&& 255)) 11 ((p3 >>> (0 &&& 31)) &&& 255))))]) (wr := []) (fun hPc hDc => va_runV (As := [.int p4]) (rest := []) ⟨hx, hb, hml, hown, hts⟩ (c_X7_put_v3 l dC dI cI cJ cZ cM p0 p4 p6 p1 p2 p3 H.size) (cwV 1 hts gX7_feed_X7_put rfl rfl rfl (by decide +kernel) ⟨(Nat.le_of_ble_eq_true rfl), (Nat.le_of_ble_eq_true rfl)⟩) (k_pV hPc hDc hK hN hP (q0 := 0) (ci := 7) rfl rfl) rfl rfl hl.1 rfl (lv_room (Nat.le_of_ble_eq_true rfl)) dX7_feed_37 ⟨(Nat.le_of_ble_eq_true rfl), (Nat.le_of_ble_eq_true rfl)⟩) hP hD hS hA [0, 1] [] rfl rfl rfl rfl (by decide) (fun _ => rfl) 0 0 rfl rfl (fun u_8 H locs hw hP hD hS => ?_)
  have hP : va_P (dC, dI) vwCl [(p0, .inr (7, oM p6 (upd i7 1 16) j7)), ((p6 0), .inl (cI, 1800, .inl (upd (upd (upd (upd (upd (upd (upd (upd (upd (upd (upd (upd (upd (upd (upd (upd (fun _ => 0) 0 ((p1 >>> (24 &&& 31)) &&& 255)) 1 ((p1 >>> (16 &&& 31)) &&& 255)) 2 ((p1 >>> (8 &&& 31)) &&& 255)) 3 ((p1 >>> (0 &&& 31)) &&& 255)) 4 ((p2 >>> (24 &&& 31)) &&& 255)) 5 ((p2 >>> (16 &&& 31)) &&& 255)) 6 ((p2 >>> (8 &&& 31)) &&& 255)) 7 ((p2 >>> (0 &&& 31)) &&& 255)) 8 ((p3 >>> (24 &&& 31)) &&& 255)) 9 ((p3 >>> (16 &&& 31)) &&& 255)) 10 ((p3 >>> (8 &&& 31)) &&& 255)) 11 ((p3 >>> (0 &&& 31)) &&& 255)) 12 ((p4 >>> (24 &&& 31)) &&& 255)) 13 ((p4 >>> (16 &&& 31)) &&& 255)) 14 ((p4 >>> (8 &&& 31)) &&& 255)) 15 ((p4 >>> (0 &&& 31)) &&& 255))))] H := hP
  have hD : va_D A [(p0, .inr (7, oM p6 (upd i7 1 16) j7)), ((p6 0), .inl (cI, 1800, .inl (upd (upd (upd (upd (upd (upd (upd (upd (upd (upd (upd (upd (upd (upd (upd (upd (fun _ => 0) 0 ((p1 >>> (24 &&& 31)) &&& 255)) 1 ((p1 >>> (16 &&& 31)) &&& 255)) 2 ((p1 >>> (8 &&& 31)) &&& 255)) 3 ((p1 >>> (0 &&& 31)) &&& 255)) 4 ((p2 >>> (24 &&& 31)) &&& 255)) 5 ((p2 >>> (16 &&& 31)) &&& 255)) 6 ((p2 >>> (8 &&& 31)) &&& 255)) 7 ((p2 >>> (0 &&& 31)) &&& 255)) 8 ((p3 >>> (24 &&& 31)) &&& 255)) 9 ((p3 >>> (16 &&& 31)) &&& 255)) 10 ((p3 >>> (8 &&& 31)) &&& 255)) 11 ((p3 >>> (0 &&& 31)) &&& 255)) 12 ((p4 >>> (24 &&& 31)) &&& 255)) 13 ((p4 >>> (16 &&& 31)) &&& 255)) 14 ((p4 >>> (8 &&& 31)) &&& 255)) 15 ((p4 >>> (0 &&& 31)) &&& 255))))] := hD
  refine lv_aload_n hx hb dX7_feed_40 rfl (lv_at hl 0 rfl) ?_
  refine lv_iload hx hb dX7_feed_41 (lv_at hl 5 rfl) ?_
  refine k_cv (wc := [(p0, .inr (7, oM p6 (upd i7 1 16) j7)), ((p6 0), .inl (cI, 1800, .inl (upd (upd (upd (upd (upd (upd (upd (upd (upd (upd (upd (upd (upd (upd (upd (upd (fun _ => 0) 0 ((p1 >>> (24 &&& 31)) &&& 255)) 1 ((p1 >>> (16 &&& 31)) &&& 255)) 2 ((p1 >>> (8 &&& 31)) &&& 255)) 3 ((p1 >>> (0 &&& 31)) &&& 255)) 4 ((p2 >>> (24 &&& 31)) &&& 255)) 5 ((p2 >>> (16 &&& 31)) &&& 255)) 6 ((p2 >>> (8 &&& 31)) &&& 255)) 7 ((p2 >>> (0 &&& 31)) &&& 255)) 8 ((p3 >>> (24 &&& 31)) &&& 255)) 9 ((p3 >>> (16 &&& 31)) &&& 255)) 10 ((p3 >>> (8 &&& 31)) &&& 255)) 11 ((p3 >>> (0 &&& 31)) &&& 255)) 12 ((p4 >>> (24 &&& 31)) &&& 255)) 13 ((p4 >>> (16 &&& 31)) &&& 255)) 14 ((p4 >>> (8 &&& 31)) &&& 255)) 15 ((p4 >>> (0 &&& 31)) &&& 255))))]) (wr := []) (fun hPc hDc => va_runV (As := [.int p5]) (rest := []) ⟨hx, hb, hml, hown, hts⟩ (c_X7_put_v4 l dC dI cI cJ cZ cM p0 p5 p6 p1 p2 p3 p4 H.size) (cwV 1 hts gX7_feed_X7_put rfl rfl rfl (by decide +kernel) ⟨(Nat.le_of_ble_eq_true rfl), (Nat.le_of_ble_eq_true rfl)⟩) (k_pV hPc hDc hK hN hP (q0 := 0) (ci := 7) rfl rfl) rfl rfl hl.1 rfl (lv_room (Nat.le_of_ble_eq_true rfl)) dX7_feed_43 ⟨(Nat.le_of_ble_eq_true rfl), (Nat.le_of_ble_eq_true rfl)⟩) hP hD hS hA [0, 1] [] rfl rfl rfl rfl (by decide) (fun _ => rfl) 0 0 rfl rfl (fun u_10 H locs hw hP hD hS => ?_)
  have hP : va_P (dC, dI) vwCl [(p0, .inr (7, oM p6 (upd i7 1 20) j7)), ((p6 0), .inl (cI, 1800, .inl (upd (upd (upd (upd (upd (upd (upd (upd (upd (upd (upd (upd (upd (upd (upd (upd (upd (upd (upd (upd (fun _ => 0) 0 ((p1 >>> (24 &&& 31)) &&& 255)) 1 ((p1 >>> (16 &&& 31)) &&& 255)) 2 ((p1 >>> (8 &&& 31)) &&& 255)) 3 ((p1 >>> (0 &&& 31)) &&& 255)) 4 ((p2 >>> (24 &&& 31)) &&& 255)) 5 ((p2 >>> (16 &&& 31)) &&& 255)) 6 ((p2 >>> (8 &&& 31)) &&& 255)) 7 ((p2 >>> (0 &&& 31)) &&& 255)) 8 ((p3 >>> (24 &&& 31)) &&& 255)) 9 ((p3 >>> (16 &&& 31)) &&& 255)) 10 ((p3 >>> (8 &&& 31)) &&& 255)) 11 ((p3 >>> (0 &&& 31)) &&& 255)) 12 ((p4 >>> (24 &&& 31)) &&& 255)) 13 ((p4 >>> (16 &&& 31)) &&& 255)) 14 ((p4 >>> (8 &&& 31)) &&& 255)) 15 ((p4 >>> (0 &&& 31)) &&& 255)) 16 ((p5 >>> (24 &&& 31)) &&& 255)) 17 ((p5 >>> (16 &&& 31)) &&& 255)) 18 ((p5 >>> (8 &&& 31)) &&& 255)) 19 ((p5 >>> (0 &&& 31)) &&& 255))))] H := hP
  have hD : va_D A [(p0, .inr (7, oM p6 (upd i7 1 20) j7)), ((p6 0), .inl (cI, 1800, .inl (upd (upd (upd (upd (upd (upd (upd (upd (upd (upd (upd (upd (upd (upd (upd (upd (upd (upd (upd (upd (fun _ => 0) 0 ((p1 >>> (24 &&& 31)) &&& 255)) 1 ((p1 >>> (16 &&& 31)) &&& 255)) 2 ((p1 >>> (8 &&& 31)) &&& 255)) 3 ((p1 >>> (0 &&& 31)) &&& 255)) 4 ((p2 >>> (24 &&& 31)) &&& 255)) 5 ((p2 >>> (16 &&& 31)) &&& 255)) 6 ((p2 >>> (8 &&& 31)) &&& 255)) 7 ((p2 >>> (0 &&& 31)) &&& 255)) 8 ((p3 >>> (24 &&& 31)) &&& 255)) 9 ((p3 >>> (16 &&& 31)) &&& 255)) 10 ((p3 >>> (8 &&& 31)) &&& 255)) 11 ((p3 >>> (0 &&& 31)) &&& 255)) 12 ((p4 >>> (24 &&& 31)) &&& 255)) 13 ((p4 >>> (16 &&& 31)) &&& 255)) 14 ((p4 >>> (8 &&& 31)) &&& 255)) 15 ((p4 >>> (0 &&& 31)) &&& 255)) 16 ((p5 >>> (24 &&& 31)) &&& 255)) 17 ((p5 >>> (16 &&& 31)) &&& 255)) 18 ((p5 >>> (8 &&& 31)) &&& 255)) 19 ((p5 >>> (0 &&& 31)) &&& 255))))] := hD
  refine lv_aload_n hx hb dX7_feed_46 rfl (lv_at hl 0 rfl) ?_
  refine k_get (D := (dC, dI)) (ci := 7) (v := .int 20) (C := RX7) (T := TX7) (N := 92) hx hb hts hinX7 hown hK hP 0 rfl rfl 1 (by decide) w_0 rfl rfl dX7_feed_47 ?_
  exact k_ri B hP hD hS dX7_feed_50 () [0, 1] rfl rfl rfl (Nat.le_of_ble_eq_true rfl) (Nat.le_of_ble_eq_true rfl) rfl
set_option maxHeartbeats 4000000 in
set_option maxRecDepth 100000 in
theorem c_X7_refuses_v0 (l : Launch) (dC : Nat → ClassId) (dI : Nat → Nat → Nat) (cI cJ cZ cM : ClassId) (p0 : Nat) (p1 : Nat → Nat)   : k_Mi l yX7_refuses wsX7_refuses ({ frames := 1, cells := 0, slots := 0, locals := 40 }) (dC, dI) vwCl (tyy cI cJ cZ cM) [(p0, .inr (7, oM p1 i7 j7)), ((p1 48), .inl (cI, 6, .inl (fun _ => 0)))] [.ref p0, .int 0] 0 0 (fun (u9 : Unit) => [(p0, .inr (7, oM p1 i7 j7)), ((p1 48), .inl (cI, 6, .inl (upd (fun _ => 0) 0 1)))]) (fun (r9 : Int32) (u9 : Unit) => r9 = (-1)) := by
  refine fun sz => k_enter (cc := cX7_refuses) (maxL := 2) (ret := some (.int)) (Qc := fun A => va_Qi (fun (r9 : Int32) (u9 : Unit) => r9 = (-1)) (fun u => k_B (dC, dI) vwCl (tyy cI cJ cZ cM) A ((fun (u9 : Unit) => [(p0, .inr (7, oM p1 i7 j7)), ((p1 48), .inl (cI, 6, .inl (upd (fun _ => 0) 0 1)))]) u)) A) sz (by decide +kernel) rfl (Nat.le_of_ble_eq_true rfl) (fun p e s m args below meth c A ls H B hP hD hS hl => ?_)
  obtain ⟨hx, hb, hml, hown, hts, hr, hlk, hnm, hK, hA, hN⟩ := id B
  have hown : s.vm.findClass RX7 = some m.cls := hown
  have hl : lv_has ls 2 [(0, .ref p0), (1, .int 0)] := hl
  have w_0 : (Cond.fieldLink RX7 159 "WishSeaModel" "refused" "[I").before args s = true := hts _ (List.mem_of_getElem? (i := 1) rfl)
  have hinX7 : ∀ w ∈ u_ws RX7 TX7 92, w ∈ wsX7_refuses := fun _ h => List.mem_cons_of_mem _ (List.mem_append_right _ h)
  refine lv_aload_n hx hb dX7_refuses_0 rfl (lv_at hl 0 rfl) ?_
  refine k_get (D := (dC, dI)) (ci := 7) (v := .ref (p1 48)) (C := RX7) (T := TX7) (N := 92) hx hb hts hinX7 hown hK hP 0 rfl rfl 48 (by decide) w_0 rfl rfl dX7_refuses_1 ?_
  refine lv_iload_n hx hb dX7_refuses_4 rfl (lv_at hl 1 rfl) ?_
  refine lv_dup2_11 hx hb dX7_refuses_5 rfl rfl ?_
  refine k_iald (v := 0) hx hb hK hP 1 0 0 rfl rfl rfl (Nat.le_of_ble_eq_true rfl) (Nat.le_of_ble_eq_true rfl) rfl dX7_refuses_6 ?_
  refine lv_iconst (v := 1) hx hb dX7_refuses_7 (by decide +kernel) ?_
  refine lv_iadd hx hb dX7_refuses_8 ?_
  refine k_int (v := 1) (by decide +kernel) ?_
  refine k_iast (g := (upd (fun _ => 0) 0 1)) (ws' := [(p0, .inr (7, oM p1 i7 j7)), ((p1 48), .inl (cI, 6, .inl (upd (fun _ => 0) 0 1)))]) hx hb hK hP hD hS 1 0 0 rfl rfl rfl (Nat.le_of_ble_eq_true rfl) (Nat.le_of_ble_eq_true rfl) rfl rfl dX7_refuses_9 (fun H locs hP hD hS => ?_)
  refine lv_iconst (v := (-1)) hx hb dX7_refuses_10 (by decide +kernel) ?_
  exact k_ri B hP hD hS dX7_refuses_11 () [0, 1] rfl rfl rfl (Nat.le_of_ble_eq_true rfl) (Nat.le_of_ble_eq_true rfl) rfl
set_option maxHeartbeats 4000000 in
set_option maxRecDepth 100000 in
theorem c_X7_end_v0 (l : Launch) (dC : Nat → ClassId) (dI : Nat → Nat → Nat) (cI cJ cZ cM : ClassId) (p0 : Nat) (p1 : Int32) (p2 : Nat → Nat)   : k_Mi l yX7_end wsX7_end ({ frames := 2, cells := 0, slots := 0, locals := 61 }) (dC, dI) vwCl (tyy cI cJ cZ cM) [(p0, .inr (7, oM p2 i7 j7)), ((p2 48), .inl (cI, 6, .inl (fun _ => 0)))] [.ref p0, .int p1] 0 0 (fun (u9 : (Nat × (Nat → Nat))) => match u9.1 with | 0 => [(p0, .inr (7, oM p2 i7 j7)), ((p2 48), .inl (cI, 6, .inl (upd (fun _ => 0) 0 1)))] | 1 => [(p0, .inr (7, oM p2 (upd i7 1 p1) j7)), ((p2 48), .inl (cI, 6, .inl (fun _ => 0)))] | 2 => [(p0, .inr (7, oM p2 i7 j7)), ((p2 48), .inl (cI, 6, .inl (upd (fun _ => 0) 0 1)))] | _ => []) (fun (r9 : Int32) (u9 : (Nat × (Nat → Nat))) => match u9.1 with | 0 => (p1.toInt < 0) ∧ r9 = 0 | 1 => (0 ≤ p1.toInt) ∧ (p1.toInt ≤ 0) ∧ r9 = 1 | 2 => (0 ≤ p1.toInt) ∧ (0 < p1.toInt) ∧ r9 = 0 | _ => False) := by
  refine fun sz => k_enter (cc := cX7_end) (maxL := 2) (ret := some (.boolean)) (Qc := fun A => va_Qi (fun (r9 : Int32) (u9 : (Nat × (Nat → Nat))) => match u9.1 with | 0 => (p1.toInt < 0) ∧ r9 = 0 | 1 => (0 ≤ p1.toInt) ∧ (p1.toInt ≤ 0) ∧ r9 = 1 | 2 => (0 ≤ p1.toInt) ∧ (0 < p1.toInt) ∧ r9 = 0 | _ => False) (fun u => k_B (dC, dI) vwCl (tyy cI cJ cZ cM) A ((fun (u9 : (Nat × (Nat → Nat))) => match u9.1 with | 0 => [(p0, .inr (7, oM p2 i7 j7)), ((p2 48), .inl (cI, 6, .inl (upd (fun _ => 0) 0 1)))] | 1 => [(p0, .inr (7, oM p2 (upd i7 1 p1) j7)), ((p2 48), .inl (cI, 6, .inl (fun _ => 0)))] | 2 => [(p0, .inr (7, oM p2 i7 j7)), ((p2 48), .inl (cI, 6, .inl (upd (fun _ => 0) 0 1)))] | _ => []) u)) A) sz (by decide +kernel) rfl (Nat.le_of_ble_eq_true rfl) (fun p e s m args below meth c A ls H B hP hD hS hl => ?_)
  obtain ⟨hx, hb, hml, hown, hts, hr, hlk, hnm, hK, hA, hN⟩ := id B
  have hown : s.vm.findClass RX7 = some m.cls := hown
  have hl : lv_has ls 2 [(0, .ref p0), (1, .int p1)] := hl
  have w_0 : (Cond.fieldLink RX7 13 "WishSeaModel" "taped" "I").before args s = true := hts _ (List.mem_of_getElem? (i := 1) rfl)
  have hinX7 : ∀ w ∈ u_ws RX7 TX7 92, w ∈ wsX7_end := fun _ h => List.mem_cons_of_mem _ (List.mem_append_right _ h)
  refine lv_iload_n hx hb dX7_end_0 rfl (lv_at hl 1 rfl) ?_
  refine lv_if_lt (tgt := 12) hx hb dX7_end_1 (by decide) (fun c_1 => ?_) (fun c_1 => ?_)
  · have c_1 : p1.toInt < 0 := k_ltT rfl (by decide +kernel) c_1
    refine lv_aload_n hx hb dX7_end_12 rfl (lv_at hl 0 rfl) ?_
    refine lv_iconst (v := 0) hx hb dX7_end_13 (by decide +kernel) ?_
    refine k_ci (wc := [(p0, .inr (7, oM p2 i7 j7)), ((p2 48), .inl (cI, 6, .inl (fun _ => 0)))]) (wr := []) (fun hPc hDc => va_runV (As := [.int 0]) (rest := []) ⟨hx, hb, hml, hown, hts⟩ (c_X7_refuses_v0 l dC dI cI cJ cZ cM p0 p2 H.size) (cwV 1 hts gX7_end_X7_refuses rfl rfl rfl (by decide +kernel) ⟨(Nat.le_of_ble_eq_true rfl), (Nat.le_of_ble_eq_true rfl)⟩) (k_pV hPc hDc hK hN hP (q0 := 0) (ci := 7) rfl rfl) rfl rfl hl.1 rfl (lv_room (Nat.le_of_ble_eq_true rfl)) dX7_end_14 ⟨(Nat.le_of_ble_eq_true rfl), (Nat.le_of_ble_eq_true rfl)⟩) hP hD hS hA [0, 1] [] rfl rfl rfl rfl (by decide) (fun _ => rfl) 0 0 rfl rfl (fun r_2 u_3 H locs hw hP hD hS => ?_)
    obtain rfl : r_2 = (-1) := hw
    have hP : va_P (dC, dI) vwCl [(p0, .inr (7, oM p2 i7 j7)), ((p2 48), .inl (cI, 6, .inl (upd (fun _ => 0) 0 1)))] H := hP
    have hD : va_D A [(p0, .inr (7, oM p2 i7 j7)), ((p2 48), .inl (cI, 6, .inl (upd (fun _ => 0) 0 1)))] := hD
    refine lv_if_lt (tgt := 24) hx hb dX7_end_17 (by decide) (fun _ => ?_) (fun q9 => absurd q9 (by decide +kernel))
    refine lv_iconst (v := 0) hx hb dX7_end_24 (by decide +kernel) ?_
    exact k_ri B hP hD hS dX7_end_25 (0, (fun _ => 0)) [0, 1] rfl rfl rfl (Nat.le_of_ble_eq_true rfl) (Nat.le_of_ble_eq_true rfl) ⟨c_1, rfl⟩
  · have c_1 : 0 ≤ p1.toInt := k_ltF rfl (by decide +kernel) c_1
    refine lv_iload_n hx hb dX7_end_4 rfl (lv_at hl 1 rfl) ?_
    refine lv_aload_n hx hb dX7_end_5 rfl (lv_at hl 0 rfl) ?_
    refine k_get (D := (dC, dI)) (ci := 7) (v := .int 0) (C := RX7) (T := TX7) (N := 92) hx hb hts hinX7 hown hK hP 0 rfl rfl 1 (by decide) w_0 rfl rfl dX7_end_6 ?_
    refine lv_icmp_le (tgt := 26) hx hb dX7_end_9 (by decide) (fun c_4 => ?_) (fun c_4 => ?_)
    · have c_4 : p1.toInt ≤ 0 := k_leT rfl (by decide +kernel) c_4
      refine lv_aload_n hx hb dX7_end_26 rfl (lv_at hl 0 rfl) ?_
      refine lv_iload_n hx hb dX7_end_27 rfl (lv_at hl 1 rfl) ?_
      refine k_put (D := (dC, dI)) (ci := 7) (v := .int p1) (C := RX7) (T := TX7) (N := 92) (ws' := [(p0, .inr (7, oM p2 (upd i7 1 p1) j7)), ((p2 48), .inl (cI, 6, .inl (fun _ => 0)))]) hx hb hts hinX7 tyX7 tyX7_ok nmX7 hown hK hP hD hS 0 rfl rfl 1 (by decide) w_0 rfl rfl rfl rfl (Nat.le_of_ble_eq_true rfl) rfl dX7_end_28 (fun H locs hP hD hS => ?_)
      refine lv_iconst (v := 1) hx hb dX7_end_31 (by decide +kernel) ?_
      exact k_ri B hP hD hS dX7_end_32 (1, (fun _ => 0)) [0, 1] rfl rfl rfl (Nat.le_of_ble_eq_true rfl) (Nat.le_of_ble_eq_true rfl) ⟨c_1, c_4, rfl⟩
    · have c_4 : 0 < p1.toInt := k_leF rfl (by decide +kernel) c_4
      refine lv_aload_n hx hb dX7_end_12 rfl (lv_at hl 0 rfl) ?_
      refine lv_iconst (v := 0) hx hb dX7_end_13 (by decide +kernel) ?_
      refine k_ci (wc := [(p0, .inr (7, oM p2 i7 j7)), ((p2 48), .inl (cI, 6, .inl (fun _ => 0)))]) (wr := []) (fun hPc hDc => va_runV (As := [.int 0]) (rest := []) ⟨hx, hb, hml, hown, hts⟩ (c_X7_refuses_v0 l dC dI cI cJ cZ cM p0 p2 H.size) (cwV 1 hts gX7_end_X7_refuses rfl rfl rfl (by decide +kernel) ⟨(Nat.le_of_ble_eq_true rfl), (Nat.le_of_ble_eq_true rfl)⟩) (k_pV hPc hDc hK hN hP (q0 := 0) (ci := 7) rfl rfl) rfl rfl hl.1 rfl (lv_room (Nat.le_of_ble_eq_true rfl)) dX7_end_14 ⟨(Nat.le_of_ble_eq_true rfl), (Nat.le_of_ble_eq_true rfl)⟩) hP hD hS hA [0, 1] [] rfl rfl rfl rfl (by decide) (fun _ => rfl) 0 0 rfl rfl (fun r_5 u_6 H locs hw hP hD hS => ?_)
      obtain rfl : r_5 = (-1) := hw
      have hP : va_P (dC, dI) vwCl [(p0, .inr (7, oM p2 i7 j7)), ((p2 48), .inl (cI, 6, .inl (upd (fun _ => 0) 0 1)))] H := hP
      have hD : va_D A [(p0, .inr (7, oM p2 i7 j7)), ((p2 48), .inl (cI, 6, .inl (upd (fun _ => 0) 0 1)))] := hD
      refine lv_if_lt (tgt := 24) hx hb dX7_end_17 (by decide) (fun _ => ?_) (fun q9 => absurd q9 (by decide +kernel))
      refine lv_iconst (v := 0) hx hb dX7_end_24 (by decide +kernel) ?_
      exact k_ri B hP hD hS dX7_end_25 (2, (fun _ => 0)) [0, 1] rfl rfl rfl (Nat.le_of_ble_eq_true rfl) (Nat.le_of_ble_eq_true rfl) ⟨c_1, c_4, rfl⟩
set_option maxHeartbeats 4000000 in
set_option maxRecDepth 100000 in
theorem c_X7_fault_v0 (l : Launch) (dC : Nat → ClassId) (dI : Nat → Nat → Nat) (cI cJ cZ cM : ClassId) (p0 : Nat) (p1 : Int32) (p2 : Nat → Nat)   : k_Mi l yX7_fault wsX7_fault ({ frames := 1, cells := 0, slots := 0, locals := 40 }) (dC, dI) vwCl (tyy cI cJ cZ cM) [(p0, .inr (7, oM p2 i7 j7))] [.ref p0, .int p1] 0 0 (fun (u9 : (Nat × (Nat → Nat))) => [(p0, .inr (7, oM p2 i7 j7))]) (fun (r9 : Int32) (u9 : (Nat × (Nat → Nat))) => match u9.1 with | 0 => (¬ p1.toInt = 0) ∧ (¬ p1.toInt = 1) ∧ r9 = (-1) | 1 => (¬ p1.toInt = 0) ∧ (p1.toInt = 1) ∧ r9 = (-1) | 2 => (p1.toInt = 0) ∧ r9 = 0 | _ => False) := by
  refine fun sz => k_enter (cc := cX7_fault) (maxL := 2) (ret := some (.int)) (Qc := fun A => va_Qi (fun (r9 : Int32) (u9 : (Nat × (Nat → Nat))) => match u9.1 with | 0 => (¬ p1.toInt = 0) ∧ (¬ p1.toInt = 1) ∧ r9 = (-1) | 1 => (¬ p1.toInt = 0) ∧ (p1.toInt = 1) ∧ r9 = (-1) | 2 => (p1.toInt = 0) ∧ r9 = 0 | _ => False) (fun u => k_B (dC, dI) vwCl (tyy cI cJ cZ cM) A ((fun (u9 : (Nat × (Nat → Nat))) => [(p0, .inr (7, oM p2 i7 j7))]) u)) A) sz (by decide +kernel) rfl (Nat.le_of_ble_eq_true rfl) (fun p e s m args below meth c A ls H B hP hD hS hl => ?_)
  obtain ⟨hx, hb, hml, hown, hts, hr, hlk, hnm, hK, hA, hN⟩ := id B
  have hown : s.vm.findClass RX7 = some m.cls := hown
  have hl : lv_has ls 2 [(0, .ref p0), (1, .int p1)] := hl
  have w_0 : (Cond.fieldLink RX7 45 "WishSeaModel" "toldPlace" "I").before args s = true := hts _ (List.mem_of_getElem? (i := 2) rfl)
  have w_1 : (Cond.fieldLink RX7 42 "WishSeaModel" "toldKind" "I").before args s = true := hts _ (List.mem_of_getElem? (i := 1) rfl)
  have hinX7 : ∀ w ∈ u_ws RX7 TX7 92, w ∈ wsX7_fault := fun _ h => List.mem_cons_of_mem _ (List.mem_append_right _ h)
  refine lv_iload_n hx hb dX7_fault_0 rfl (lv_at hl 1 rfl) ?_
  refine lv_if_ne (tgt := 11) hx hb dX7_fault_1 (by decide) (fun c_1 => ?_) (fun c_1 => ?_)
  · have c_1 : ¬ p1.toInt = 0 := k_eqF rfl (by decide +kernel) c_1
    refine lv_iload_n hx hb dX7_fault_11 rfl (lv_at hl 1 rfl) ?_
    refine lv_iconst (v := 1) hx hb dX7_fault_12 (by decide +kernel) ?_
    refine lv_icmp_ne (tgt := 23) hx hb dX7_fault_13 (by decide) (fun c_2 => ?_) (fun c_2 => ?_)
    · have c_2 : ¬ p1.toInt = 1 := k_eqF rfl (by decide +kernel) c_2
      refine lv_iconst (v := (-1)) hx hb dX7_fault_23 (by decide +kernel) ?_
      exact k_ri B hP hD hS dX7_fault_24 (0, (fun _ => 0)) [0] rfl rfl rfl (Nat.le_of_ble_eq_true rfl) (Nat.le_of_ble_eq_true rfl) ⟨c_1, c_2, rfl⟩
    · have c_2 : p1.toInt = 1 := k_eqT rfl (by decide +kernel) c_2
      refine lv_aload_n hx hb dX7_fault_16 rfl (lv_at hl 0 rfl) ?_
      refine k_get (D := (dC, dI)) (ci := 7) (v := .int (-1)) (C := RX7) (T := TX7) (N := 92) hx hb hts hinX7 hown hK hP 0 rfl rfl 11 (by decide) w_0 rfl rfl dX7_fault_17 ?_
      refine lv_goto (tgt := 24) hx hb dX7_fault_20 (by decide) ?_
      exact k_ri B hP hD hS dX7_fault_24 (1, (fun _ => 0)) [0] rfl rfl rfl (Nat.le_of_ble_eq_true rfl) (Nat.le_of_ble_eq_true rfl) ⟨c_1, c_2, rfl⟩
  · have c_1 : p1.toInt = 0 := k_eqT rfl (by decide +kernel) c_1
    refine lv_aload_n hx hb dX7_fault_4 rfl (lv_at hl 0 rfl) ?_
    refine k_get (D := (dC, dI)) (ci := 7) (v := .int 0) (C := RX7) (T := TX7) (N := 92) hx hb hts hinX7 hown hK hP 0 rfl rfl 10 (by decide) w_1 rfl rfl dX7_fault_5 ?_
    refine lv_goto (tgt := 24) hx hb dX7_fault_8 (by decide) ?_
    exact k_ri B hP hD hS dX7_fault_24 (2, (fun _ => 0)) [0] rfl rfl rfl (Nat.le_of_ble_eq_true rfl) (Nat.le_of_ble_eq_true rfl) ⟨c_1, rfl⟩
set_option maxHeartbeats 4000000 in
set_option maxRecDepth 100000 in
theorem c_X7_is_v0 (l : Launch) (dC : Nat → ClassId) (dI : Nat → Nat → Nat) (cI cJ cZ cM : ClassId) (p0 : Int32)   : k_Mi l yX7_is wsX7_is ({ frames := 1, cells := 0, slots := 0, locals := 40 }) (dC, dI) vwCl (tyy cI cJ cZ cM) [] [.int p0, .int 0, .int 5] 0 0 (fun (u9 : (Nat × (Nat → Nat))) => []) (fun (r9 : Int32) (u9 : (Nat × (Nat → Nat))) => match u9.1 with | 0 => (p0.toInt < 0) ∧ r9 = 0 | 1 => (0 ≤ p0.toInt) ∧ (5 < p0.toInt) ∧ r9 = 0 | 2 => (0 ≤ p0.toInt) ∧ (p0.toInt ≤ 5) ∧ r9 = 1 | _ => False) := by
  refine fun sz => k_enter (cc := cX7_is) (maxL := 3) (ret := some (.boolean)) (Qc := fun A => va_Qi (fun (r9 : Int32) (u9 : (Nat × (Nat → Nat))) => match u9.1 with | 0 => (p0.toInt < 0) ∧ r9 = 0 | 1 => (0 ≤ p0.toInt) ∧ (5 < p0.toInt) ∧ r9 = 0 | 2 => (0 ≤ p0.toInt) ∧ (p0.toInt ≤ 5) ∧ r9 = 1 | _ => False) (fun u => k_B (dC, dI) vwCl (tyy cI cJ cZ cM) A ((fun (u9 : (Nat × (Nat → Nat))) => []) u)) A) sz (by decide +kernel) rfl (Nat.le_of_ble_eq_true rfl) (fun p e s m args below meth c A ls H B hP hD hS hl => ?_)
  obtain ⟨hx, hb, hml, hown, hts, hr, hlk, hnm, hK, hA, hN⟩ := id B
  have hown : s.vm.findClass RX7 = some m.cls := hown
  have hl : lv_has ls 3 [(0, .int p0), (1, .int 0), (2, .int 5)] := hl
  refine lv_iload_n hx hb dX7_is_0 rfl (lv_at hl 0 rfl) ?_
  refine lv_iload_n hx hb dX7_is_1 rfl (lv_at hl 1 rfl) ?_
  refine lv_icmp_lt (tgt := 14) hx hb dX7_is_2 (by decide) (fun c_1 => ?_) (fun c_1 => ?_)
  · have c_1 : p0.toInt < 0 := k_ltT rfl (by decide +kernel) c_1
    refine lv_iconst (v := 0) hx hb dX7_is_14 (by decide +kernel) ?_
    exact k_ri B hP hD hS dX7_is_15 (0, (fun _ => 0)) [] rfl rfl rfl (Nat.le_of_ble_eq_true rfl) (Nat.le_of_ble_eq_true rfl) ⟨c_1, rfl⟩
  · have c_1 : 0 ≤ p0.toInt := k_ltF rfl (by decide +kernel) c_1
    refine lv_iload_n hx hb dX7_is_5 rfl (lv_at hl 0 rfl) ?_
    refine lv_iload_n hx hb dX7_is_6 rfl (lv_at hl 2 rfl) ?_
    refine lv_icmp_gt (tgt := 14) hx hb dX7_is_7 (by decide) (fun c_2 => ?_) (fun c_2 => ?_)
    · have c_2 : 5 < p0.toInt := k_ltT (by decide +kernel) rfl c_2
      refine lv_iconst (v := 0) hx hb dX7_is_14 (by decide +kernel) ?_
      exact k_ri B hP hD hS dX7_is_15 (1, (fun _ => 0)) [] rfl rfl rfl (Nat.le_of_ble_eq_true rfl) (Nat.le_of_ble_eq_true rfl) ⟨c_1, c_2, rfl⟩
    · have c_2 : p0.toInt ≤ 5 := k_ltF (by decide +kernel) rfl c_2
      refine lv_iconst (v := 1) hx hb dX7_is_10 (by decide +kernel) ?_
      refine lv_goto (tgt := 15) hx hb dX7_is_11 (by decide) ?_
      exact k_ri B hP hD hS dX7_is_15 (2, (fun _ => 0)) [] rfl rfl rfl (Nat.le_of_ble_eq_true rfl) (Nat.le_of_ble_eq_true rfl) ⟨c_1, c_2, rfl⟩
set_option maxHeartbeats 4000000 in
set_option maxRecDepth 100000 in
theorem c_X7_status_v0 (l : Launch) (dC : Nat → ClassId) (dI : Nat → Nat → Nat) (cI cJ cZ cM : ClassId) (p0 : Nat) (p1 : Int32) (p2 : Nat → Nat)   : k_Mi l yX7_status wsX7_status ({ frames := 2, cells := 0, slots := 0, locals := 62 }) (dC, dI) vwCl (tyy cI cJ cZ cM) [(p0, .inr (7, oM p2 i7 j7)), ((p2 48), .inl (cI, 6, .inl (fun _ => 0)))] [.ref p0, .int p1] 0 0 (fun (u9 : (Nat × (Nat → Nat))) => [(p0, .inr (7, oM p2 i7 j7)), ((p2 48), .inl (cI, 6, .inl (fun _ => 0)))]) (fun (r9 : Int32) (u9 : (Nat × (Nat → Nat))) => match u9.1 with | 0 => (p1.toInt < 0) ∧ r9 = (-1) | 1 => (0 ≤ p1.toInt) ∧ (5 < p1.toInt) ∧ r9 = (-1) | 2 => (0 ≤ p1.toInt) ∧ (p1.toInt ≤ 5) ∧ (p1.toInt = 0) ∧ r9 = 0 | 3 => (0 ≤ p1.toInt) ∧ (p1.toInt ≤ 5) ∧ (p1.toInt = 1) ∧ r9 = 0 | 4 => (0 ≤ p1.toInt) ∧ (p1.toInt ≤ 5) ∧ (p1.toInt = 2) ∧ r9 = 0 | 5 => (0 ≤ p1.toInt) ∧ (p1.toInt ≤ 5) ∧ (p1.toInt = 3) ∧ r9 = 0 | 6 => (0 ≤ p1.toInt) ∧ (p1.toInt ≤ 5) ∧ (p1.toInt = 4) ∧ r9 = 0 | 7 => (0 ≤ p1.toInt) ∧ (p1.toInt ≤ 5) ∧ (p1.toInt = 5) ∧ r9 = 0 | _ => False) := by
  refine fun sz => k_enter (cc := cX7_status) (maxL := 2) (ret := some (.int)) (Qc := fun A => va_Qi (fun (r9 : Int32) (u9 : (Nat × (Nat → Nat))) => match u9.1 with | 0 => (p1.toInt < 0) ∧ r9 = (-1) | 1 => (0 ≤ p1.toInt) ∧ (5 < p1.toInt) ∧ r9 = (-1) | 2 => (0 ≤ p1.toInt) ∧ (p1.toInt ≤ 5) ∧ (p1.toInt = 0) ∧ r9 = 0 | 3 => (0 ≤ p1.toInt) ∧ (p1.toInt ≤ 5) ∧ (p1.toInt = 1) ∧ r9 = 0 | 4 => (0 ≤ p1.toInt) ∧ (p1.toInt ≤ 5) ∧ (p1.toInt = 2) ∧ r9 = 0 | 5 => (0 ≤ p1.toInt) ∧ (p1.toInt ≤ 5) ∧ (p1.toInt = 3) ∧ r9 = 0 | 6 => (0 ≤ p1.toInt) ∧ (p1.toInt ≤ 5) ∧ (p1.toInt = 4) ∧ r9 = 0 | 7 => (0 ≤ p1.toInt) ∧ (p1.toInt ≤ 5) ∧ (p1.toInt = 5) ∧ r9 = 0 | _ => False) (fun u => k_B (dC, dI) vwCl (tyy cI cJ cZ cM) A ((fun (u9 : (Nat × (Nat → Nat))) => [(p0, .inr (7, oM p2 i7 j7)), ((p2 48), .inl (cI, 6, .inl (fun _ => 0)))]) u)) A) sz (by decide +kernel) rfl (Nat.le_of_ble_eq_true rfl) (fun p e s m args below meth c A ls H B hP hD hS hl => ?_)
  obtain ⟨hx, hb, hml, hown, hts, hr, hlk, hnm, hK, hA, hN⟩ := id B
  have hown : s.vm.findClass RX7 = some m.cls := hown
  have hl : lv_has ls 2 [(0, .ref p0), (1, .int p1)] := hl
  have w_0 : (Cond.fieldLink RX7 159 "WishSeaModel" "refused" "[I").before args s = true := hts _ (List.mem_of_getElem? (i := 1) rfl)
  have hinX7 : ∀ w ∈ u_ws RX7 TX7 92, w ∈ wsX7_status := fun _ h => List.mem_cons_of_mem _ (List.mem_append_right _ h)
  refine lv_iload_n hx hb dX7_status_0 rfl (lv_at hl 1 rfl) ?_
  refine lv_iconst (v := 0) hx hb dX7_status_1 (by decide +kernel) ?_
  refine lv_iconst (v := 5) hx hb dX7_status_2 (by decide +kernel) ?_
  refine k_ci (wc := []) (wr := [(p0, .inr (7, oM p2 i7 j7)), ((p2 48), .inl (cI, 6, .inl (fun _ => 0)))]) (fun hPc hDc => va_runS (As := [.int p1, .int 0, .int 5]) (rest := []) ⟨hx, hb, hml, hown, hts⟩ (c_X7_is_v0 l dC dI cI cJ cZ cM p1 H.size) (va_cwS 3 hts gX7_status_X7_is rfl rfl rfl (by decide +kernel) ⟨(Nat.le_of_ble_eq_true rfl), (Nat.le_of_ble_eq_true rfl)⟩) (k_pS hPc hDc hK hN) rfl rfl hl.1 rfl (lv_room (Nat.le_of_ble_eq_true rfl)) dX7_status_3 ⟨(Nat.le_of_ble_eq_true rfl), (Nat.le_of_ble_eq_true rfl)⟩) hP hD hS hA [] [0, 1] rfl rfl rfl rfl (by decide) (fun _ => rfl) 0 0 rfl rfl (fun r_1 u_2 H locs hw hP hD hS => ?_)
  obtain ⟨k_u_2, u_u_2⟩ := u_2
  rcases k_u_2 with _ | _ | _ | k_u_2
  · obtain ⟨c_3, rfl⟩ : (p1.toInt < 0) ∧ r_1 = 0 := hw
    have hP : va_P (dC, dI) vwCl [(p0, .inr (7, oM p2 i7 j7)), ((p2 48), .inl (cI, 6, .inl (fun _ => 0)))] H := hP
    have hD : va_D A [(p0, .inr (7, oM p2 i7 j7)), ((p2 48), .inl (cI, 6, .inl (fun _ => 0)))] := hD
    refine lv_if_eq (tgt := 18) hx hb dX7_status_6 (by decide) (fun _ => ?_) (fun q9 => absurd q9 (by decide +kernel))
    refine lv_iconst (v := (-1)) hx hb dX7_status_18 (by decide +kernel) ?_
    exact k_ri B hP hD hS dX7_status_19 (0, (fun _ => 0)) [0, 1] rfl rfl rfl (Nat.le_of_ble_eq_true rfl) (Nat.le_of_ble_eq_true rfl) ⟨c_3, rfl⟩
  · obtain ⟨c_4, c_5, rfl⟩ : (0 ≤ p1.toInt) ∧ (5 < p1.toInt) ∧ r_1 = 0 := hw
    have hP : va_P (dC, dI) vwCl [(p0, .inr (7, oM p2 i7 j7)), ((p2 48), .inl (cI, 6, .inl (fun _ => 0)))] H := hP
    have hD : va_D A [(p0, .inr (7, oM p2 i7 j7)), ((p2 48), .inl (cI, 6, .inl (fun _ => 0)))] := hD
    refine lv_if_eq (tgt := 18) hx hb dX7_status_6 (by decide) (fun _ => ?_) (fun q9 => absurd q9 (by decide +kernel))
    refine lv_iconst (v := (-1)) hx hb dX7_status_18 (by decide +kernel) ?_
    exact k_ri B hP hD hS dX7_status_19 (1, (fun _ => 0)) [0, 1] rfl rfl rfl (Nat.le_of_ble_eq_true rfl) (Nat.le_of_ble_eq_true rfl) ⟨c_4, c_5, rfl⟩
  · obtain ⟨c_6, c_7, rfl⟩ : (0 ≤ p1.toInt) ∧ (p1.toInt ≤ 5) ∧ r_1 = 1 := hw
    have hP : va_P (dC, dI) vwCl [(p0, .inr (7, oM p2 i7 j7)), ((p2 48), .inl (cI, 6, .inl (fun _ => 0)))] H := hP
    have hD : va_D A [(p0, .inr (7, oM p2 i7 j7)), ((p2 48), .inl (cI, 6, .inl (fun _ => 0)))] := hD
    refine lv_if_eq (tgt := 18) hx hb dX7_status_6 (by decide) (fun q9 => absurd q9 (by decide +kernel)) (fun _ => ?_)
    refine lv_aload_n hx hb dX7_status_9 rfl (lv_at hl 0 rfl) ?_
    refine k_get (D := (dC, dI)) (ci := 7) (v := .ref (p2 48)) (C := RX7) (T := TX7) (N := 92) hx hb hts hinX7 hown hK hP 0 rfl rfl 48 (by decide) w_0 rfl rfl dX7_status_10 ?_
    refine lv_iload_n hx hb dX7_status_13 rfl (lv_at hl 1 rfl) ?_
    rcases (show p1.toInt = 0 ∨ p1.toInt = 1 ∨ p1.toInt = 2 ∨ p1.toInt = 3 ∨ p1.toInt = 4 ∨ p1.toInt = 5 by omega) with c_8 | c_8 | c_8 | c_8 | c_8 | c_8
    · obtain rfl : p1 = 0 := k_eqL (by decide +kernel) c_8
      refine k_iald (v := 0) hx hb hK hP 1 0 0 rfl rfl rfl (Nat.le_of_ble_eq_true rfl) (Nat.le_of_ble_eq_true rfl) rfl dX7_status_14 ?_
      refine lv_goto (tgt := 19) hx hb dX7_status_15 (by decide) ?_
      exact k_ri B hP hD hS dX7_status_19 (2, (fun _ => 0)) [0, 1] rfl rfl rfl (Nat.le_of_ble_eq_true rfl) (Nat.le_of_ble_eq_true rfl) ⟨c_6, c_7, c_8, rfl⟩
    · obtain rfl : p1 = 1 := k_eqL (by decide +kernel) c_8
      refine k_iald (v := 0) hx hb hK hP 1 0 1 rfl rfl rfl (Nat.le_of_ble_eq_true rfl) (Nat.le_of_ble_eq_true rfl) rfl dX7_status_14 ?_
      refine lv_goto (tgt := 19) hx hb dX7_status_15 (by decide) ?_
      exact k_ri B hP hD hS dX7_status_19 (3, (fun _ => 0)) [0, 1] rfl rfl rfl (Nat.le_of_ble_eq_true rfl) (Nat.le_of_ble_eq_true rfl) ⟨c_6, c_7, c_8, rfl⟩
    · obtain rfl : p1 = 2 := k_eqL (by decide +kernel) c_8
      refine k_iald (v := 0) hx hb hK hP 1 0 2 rfl rfl rfl (Nat.le_of_ble_eq_true rfl) (Nat.le_of_ble_eq_true rfl) rfl dX7_status_14 ?_
      refine lv_goto (tgt := 19) hx hb dX7_status_15 (by decide) ?_
      exact k_ri B hP hD hS dX7_status_19 (4, (fun _ => 0)) [0, 1] rfl rfl rfl (Nat.le_of_ble_eq_true rfl) (Nat.le_of_ble_eq_true rfl) ⟨c_6, c_7, c_8, rfl⟩
    · obtain rfl : p1 = 3 := k_eqL (by decide +kernel) c_8
      refine k_iald (v := 0) hx hb hK hP 1 0 3 rfl rfl rfl (Nat.le_of_ble_eq_true rfl) (Nat.le_of_ble_eq_true rfl) rfl dX7_status_14 ?_
      refine lv_goto (tgt := 19) hx hb dX7_status_15 (by decide) ?_
      exact k_ri B hP hD hS dX7_status_19 (5, (fun _ => 0)) [0, 1] rfl rfl rfl (Nat.le_of_ble_eq_true rfl) (Nat.le_of_ble_eq_true rfl) ⟨c_6, c_7, c_8, rfl⟩
    · obtain rfl : p1 = 4 := k_eqL (by decide +kernel) c_8
      refine k_iald (v := 0) hx hb hK hP 1 0 4 rfl rfl rfl (Nat.le_of_ble_eq_true rfl) (Nat.le_of_ble_eq_true rfl) rfl dX7_status_14 ?_
      refine lv_goto (tgt := 19) hx hb dX7_status_15 (by decide) ?_
      exact k_ri B hP hD hS dX7_status_19 (6, (fun _ => 0)) [0, 1] rfl rfl rfl (Nat.le_of_ble_eq_true rfl) (Nat.le_of_ble_eq_true rfl) ⟨c_6, c_7, c_8, rfl⟩
    · obtain rfl : p1 = 5 := k_eqL (by decide +kernel) c_8
      refine k_iald (v := 0) hx hb hK hP 1 0 5 rfl rfl rfl (Nat.le_of_ble_eq_true rfl) (Nat.le_of_ble_eq_true rfl) rfl dX7_status_14 ?_
      refine lv_goto (tgt := 19) hx hb dX7_status_15 (by decide) ?_
      exact k_ri B hP hD hS dX7_status_19 (7, (fun _ => 0)) [0, 1] rfl rfl rfl (Nat.le_of_ble_eq_true rfl) (Nat.le_of_ble_eq_true rfl) ⟨c_6, c_7, c_8, rfl⟩
  · exact False.elim hw
set_option maxHeartbeats 4000000 in
set_option maxRecDepth 100000 in
theorem c_X7_ahead_v0 (l : Launch) (dC : Nat → ClassId) (dI : Nat → Nat → Nat) (cI cJ cZ cM : ClassId) (p0 : Nat) (p1 : Nat → Nat)   : k_Mv l yX7_ahead wsX7_ahead ({ frames := 1, cells := 0, slots := 0, locals := 40 }) (dC, dI) vwCl (tyy cI cJ cZ cM) [(p0, .inr (7, oM p1 (upd (upd (upd (upd (upd (upd (upd i7 1 0) 2 0) 5 0) 8 0) 9 (-1)) 36 0) 37 1) j7))] [.ref p0] 0 0 (fun (u9 : Unit) => [(p0, .inr (7, oM p1 (upd (upd (upd (upd (upd (upd (upd (upd (upd (upd i7 1 0) 2 0) 3 0) 4 0) 5 0) 8 0) 9 (-1)) 12 (-1)) 36 0) 37 1) j7))]) (fun (u9 : Unit) => True) := by
  refine fun sz => k_enter (cc := cX7_ahead) (maxL := 6) (ret := none) (Qc := fun A => va_Qv (fun (u9 : Unit) => True) (fun u => k_B (dC, dI) vwCl (tyy cI cJ cZ cM) A ((fun (u9 : Unit) => [(p0, .inr (7, oM p1 (upd (upd (upd (upd (upd (upd (upd (upd (upd (upd i7 1 0) 2 0) 3 0) 4 0) 5 0) 8 0) 9 (-1)) 12 (-1)) 36 0) 37 1) j7))]) u)) A) sz (by decide +kernel) rfl (Nat.le_of_ble_eq_true rfl) (fun p e s m args below meth c A ls H B hP hD hS hl => ?_)
  obtain ⟨hx, hb, hml, hown, hts, hr, hlk, hnm, hK, hA, hN⟩ := id B
  have hown : s.vm.findClass RX7 = some m.cls := hown
  have hl : lv_has ls 6 [(0, .ref p0)] := hl
  have w_0 : (Cond.fieldLink RX7 26 "WishSeaModel" "signEnd" "I").before args s = true := hts _ (List.mem_of_getElem? (i := 1) rfl)
  have w_1 : (Cond.fieldLink RX7 17 "WishSeaModel" "size" "I").before args s = true := hts _ (List.mem_of_getElem? (i := 2) rfl)
  have w_2 : (Cond.fieldLink RX7 23 "WishSeaModel" "signAt" "I").before args s = true := hts _ (List.mem_of_getElem? (i := 4) rfl)
  have w_3 : (Cond.fieldLink RX7 20 "WishSeaModel" "sign" "I").before args s = true := hts _ (List.mem_of_getElem? (i := 5) rfl)
  have w_4 : (Cond.fieldLink RX7 48 "WishSeaModel" "lexAt" "I").before args s = true := hts _ (List.mem_of_getElem? (i := 6) rfl)
  have hinX7 : ∀ w ∈ u_ws RX7 TX7 92, w ∈ wsX7_ahead := fun _ h => List.mem_cons_of_mem _ (List.mem_append_right _ h)
  refine lv_aload_n hx hb dX7_ahead_0 rfl (lv_at hl 0 rfl) ?_
  refine k_get (D := (dC, dI)) (ci := 7) (v := .int 0) (C := RX7) (T := TX7) (N := 92) hx hb hts hinX7 hown hK hP 0 rfl rfl 5 (by decide) w_0 rfl rfl dX7_ahead_1 ?_
  refine lv_istore_n (lv' := [(1, .int 0), (0, .ref p0)]) hx hb dX7_ahead_4 rfl hl (by decide) rfl (fun ls hl => ?_)
  refine lv_iload_n hx hb dX7_ahead_5 rfl (lv_at hl 0 rfl) ?_
  refine lv_aload_n hx hb dX7_ahead_6 rfl (lv_at hl 1 rfl) ?_
  refine k_get (D := (dC, dI)) (ci := 7) (v := .int 0) (C := RX7) (T := TX7) (N := 92) hx hb hts hinX7 hown hK hP 0 rfl rfl 2 (by decide) w_1 rfl rfl dX7_ahead_7 ?_
  refine lv_icmp_ge (tgt := 41) hx hb dX7_ahead_10 (by decide) (fun _ => ?_) (fun q9 => absurd q9 (by decide +kernel))
  refine lv_aload_n hx hb dX7_ahead_41 rfl (lv_at hl 1 rfl) ?_
  refine lv_iload_n hx hb dX7_ahead_42 rfl (lv_at hl 0 rfl) ?_
  refine k_put (D := (dC, dI)) (ci := 7) (v := .int 0) (C := RX7) (T := TX7) (N := 92) (ws' := [(p0, .inr (7, oM p1 (upd (upd (upd (upd (upd (upd (upd (upd i7 1 0) 2 0) 4 0) 5 0) 8 0) 9 (-1)) 36 0) 37 1) j7))]) hx hb hts hinX7 tyX7 tyX7_ok nmX7 hown hK hP hD hS 0 rfl rfl 4 (by decide) w_2 rfl rfl rfl rfl (Nat.le_of_ble_eq_true rfl) rfl dX7_ahead_43 (fun H locs hP hD hS => ?_)
  refine lv_aload_n hx hb dX7_ahead_46 rfl (lv_at hl 1 rfl) ?_
  refine lv_iload_n hx hb dX7_ahead_47 rfl (lv_at hl 0 rfl) ?_
  refine k_put (D := (dC, dI)) (ci := 7) (v := .int 0) (C := RX7) (T := TX7) (N := 92) (ws' := [(p0, .inr (7, oM p1 (upd (upd (upd (upd (upd (upd (upd (upd i7 1 0) 2 0) 4 0) 5 0) 8 0) 9 (-1)) 36 0) 37 1) j7))]) hx hb hts hinX7 tyX7 tyX7_ok nmX7 hown hK hP hD hS 0 rfl rfl 5 (by decide) w_0 rfl rfl rfl rfl (Nat.le_of_ble_eq_true rfl) rfl dX7_ahead_48 (fun H locs hP hD hS => ?_)
  refine lv_aload_n hx hb dX7_ahead_51 rfl (lv_at hl 1 rfl) ?_
  refine lv_iconst (v := 0) hx hb dX7_ahead_52 (by decide +kernel) ?_
  refine k_put (D := (dC, dI)) (ci := 7) (v := .int 0) (C := RX7) (T := TX7) (N := 92) (ws' := [(p0, .inr (7, oM p1 (upd (upd (upd (upd (upd (upd (upd (upd (upd i7 1 0) 2 0) 3 0) 4 0) 5 0) 8 0) 9 (-1)) 36 0) 37 1) j7))]) hx hb hts hinX7 tyX7 tyX7_ok nmX7 hown hK hP hD hS 0 rfl rfl 3 (by decide) w_3 rfl rfl rfl rfl (Nat.le_of_ble_eq_true rfl) rfl dX7_ahead_53 (fun H locs hP hD hS => ?_)
  refine lv_aload_n hx hb dX7_ahead_56 rfl (lv_at hl 1 rfl) ?_
  refine lv_iconst (v := (-1)) hx hb dX7_ahead_57 (by decide +kernel) ?_
  refine k_put (D := (dC, dI)) (ci := 7) (v := .int (-1)) (C := RX7) (T := TX7) (N := 92) (ws' := [(p0, .inr (7, oM p1 (upd (upd (upd (upd (upd (upd (upd (upd (upd (upd i7 1 0) 2 0) 3 0) 4 0) 5 0) 8 0) 9 (-1)) 12 (-1)) 36 0) 37 1) j7))]) hx hb hts hinX7 tyX7 tyX7_ok nmX7 hown hK hP hD hS 0 rfl rfl 12 (by decide) w_4 rfl rfl rfl rfl (Nat.le_of_ble_eq_true rfl) rfl dX7_ahead_58 (fun H locs hP hD hS => ?_)
  refine lv_iload_n hx hb dX7_ahead_61 rfl (lv_at hl 0 rfl) ?_
  refine lv_aload_n hx hb dX7_ahead_62 rfl (lv_at hl 1 rfl) ?_
  refine k_get (D := (dC, dI)) (ci := 7) (v := .int 0) (C := RX7) (T := TX7) (N := 92) hx hb hts hinX7 hown hK hP 0 rfl rfl 2 (by decide) w_1 rfl rfl dX7_ahead_63 ?_
  refine lv_icmp_lt (tgt := 70) hx hb dX7_ahead_66 (by decide) (fun q9 => absurd q9 (by decide +kernel)) (fun _ => ?_)
  exact k_rv B hP hD hS dX7_ahead_69 () [0] rfl rfl (Nat.le_of_ble_eq_true rfl) (Nat.le_of_ble_eq_true rfl) trivial
set_option maxHeartbeats 4000000 in
set_option maxRecDepth 100000 in
theorem c_X7_begin_v0 (l : Launch) (dC : Nat → ClassId) (dI : Nat → Nat → Nat) (cI cJ cZ cM : ClassId) (p0 : Nat) (p1 : Nat → Nat)   : k_Mv l yX7_begin wsX7_begin ({ frames := 1, cells := 0, slots := 0, locals := 40 }) (dC, dI) vwCl (tyy cI cJ cZ cM) [(p0, .inr (7, oM p1 (upd (upd (upd (upd (upd (upd (upd (upd (upd (upd (upd (upd (upd i7 1 0) 2 0) 3 0) 4 0) 5 0) 8 0) 9 (-1)) 10 0) 11 (-1)) 12 (-1)) 13 1) 36 0) 37 1) j7)), ((p1 23), .inl (cI, 2, .inl (upd (fun _ => 0) 1 0))), ((p1 49), .inl (cI, 22, .inl (fun _ => 0))), ((p1 50), .inl (cI, 22, .inl (fun _ => 0))), ((p1 51), .inl (cI, 22, .inl (fun _ => 0))), ((p1 52), .inl (cI, 22, .inl (fun _ => 0))), ((p1 53), .inl (cI, 22, .inl (fun _ => 0)))] [.ref p0] 0 0 (fun (u9 : Unit) => [(p0, .inr (7, oM p1 (upd (upd (upd (upd (upd (upd (upd (upd (upd (upd (upd (upd (upd (upd (upd (upd (upd i7 1 0) 2 0) 3 0) 4 0) 5 0) 8 0) 9 (-1)) 10 0) 11 (-1)) 12 (-1)) 13 1) 36 0) 37 1) 59 0) 67 (-1)) 77 0) 80 (-1)) j7)), ((p1 23), .inl (cI, 2, .inl (upd (fun _ => 0) 1 0))), ((p1 49), .inl (cI, 22, .inl (upd (fun _ => 0) 0 0))), ((p1 50), .inl (cI, 22, .inl (upd (fun _ => 0) 0 0))), ((p1 51), .inl (cI, 22, .inl (upd (fun _ => 0) 0 0))), ((p1 52), .inl (cI, 22, .inl (upd (fun _ => 0) 0 0))), ((p1 53), .inl (cI, 22, .inl (upd (fun _ => 0) 0 0)))]) (fun (u9 : Unit) => True) := by
  refine fun sz => k_enter (cc := cX7_begin) (maxL := 1) (ret := none) (Qc := fun A => va_Qv (fun (u9 : Unit) => True) (fun u => k_B (dC, dI) vwCl (tyy cI cJ cZ cM) A ((fun (u9 : Unit) => [(p0, .inr (7, oM p1 (upd (upd (upd (upd (upd (upd (upd (upd (upd (upd (upd (upd (upd (upd (upd (upd (upd i7 1 0) 2 0) 3 0) 4 0) 5 0) 8 0) 9 (-1)) 10 0) 11 (-1)) 12 (-1)) 13 1) 36 0) 37 1) 59 0) 67 (-1)) 77 0) 80 (-1)) j7)), ((p1 23), .inl (cI, 2, .inl (upd (fun _ => 0) 1 0))), ((p1 49), .inl (cI, 22, .inl (upd (fun _ => 0) 0 0))), ((p1 50), .inl (cI, 22, .inl (upd (fun _ => 0) 0 0))), ((p1 51), .inl (cI, 22, .inl (upd (fun _ => 0) 0 0))), ((p1 52), .inl (cI, 22, .inl (upd (fun _ => 0) 0 0))), ((p1 53), .inl (cI, 22, .inl (upd (fun _ => 0) 0 0)))]) u)) A) sz (by decide +kernel) rfl (Nat.le_of_ble_eq_true rfl) (fun p e s m args below meth c A ls H B hP hD hS hl => ?_)
  obtain ⟨hx, hb, hml, hown, hts, hr, hlk, hnm, hK, hA, hN⟩ := id B
  have hown : s.vm.findClass RX7 = some m.cls := hown
  have hl : lv_has ls 1 [(0, .ref p0)] := hl
  have w_0 : (Cond.fieldLink RX7 162 "WishSeaModel" "hadOf" "[I").before args s = true := hts _ (List.mem_of_getElem? (i := 1) rfl)
  have w_1 : (Cond.fieldLink RX7 81 "WishSeaModel" "firstOnes" "[I").before args s = true := hts _ (List.mem_of_getElem? (i := 2) rfl)
  have w_2 : (Cond.fieldLink RX7 51 "WishSeaModel" "bank" "I").before args s = true := hts _ (List.mem_of_getElem? (i := 3) rfl)
  have w_3 : (Cond.fieldLink RX7 165 "WishSeaModel" "seaOf" "[I").before args s = true := hts _ (List.mem_of_getElem? (i := 4) rfl)
  have w_4 : (Cond.fieldLink RX7 168 "WishSeaModel" "saidOf" "[I").before args s = true := hts _ (List.mem_of_getElem? (i := 5) rfl)
  have w_5 : (Cond.fieldLink RX7 171 "WishSeaModel" "dayOf" "[I").before args s = true := hts _ (List.mem_of_getElem? (i := 6) rfl)
  have w_6 : (Cond.fieldLink RX7 174 "WishSeaModel" "keptMany" "[I").before args s = true := hts _ (List.mem_of_getElem? (i := 7) rfl)
  have w_7 : (Cond.fieldLink RX7 192 "WishSeaModel" "undos" "I").before args s = true := hts _ (List.mem_of_getElem? (i := 8) rfl)
  have w_8 : (Cond.fieldLink RX7 246 "WishSeaModel" "fallMany" "I").before args s = true := hts _ (List.mem_of_getElem? (i := 9) rfl)
  have w_9 : (Cond.fieldLink RX7 216 "WishSeaModel" "wentEnd" "I").before args s = true := hts _ (List.mem_of_getElem? (i := 10) rfl)
  have w_10 : (Cond.fieldLink RX7 255 "WishSeaModel" "stopMany" "I").before args s = true := hts _ (List.mem_of_getElem? (i := 11) rfl)
  have hinX7 : ∀ w ∈ u_ws RX7 TX7 92, w ∈ wsX7_begin := fun _ h => List.mem_cons_of_mem _ (List.mem_append_right _ h)
  refine lv_aload_n hx hb dX7_begin_0 rfl (lv_at hl 0 rfl) ?_
  refine k_get (D := (dC, dI)) (ci := 7) (v := .ref (p1 49)) (C := RX7) (T := TX7) (N := 92) hx hb hts hinX7 hown hK hP 0 rfl rfl 49 (by decide) w_0 rfl rfl dX7_begin_1 ?_
  refine lv_iconst (v := 0) hx hb dX7_begin_4 (by decide +kernel) ?_
  refine lv_aload_n hx hb dX7_begin_5 rfl (lv_at hl 0 rfl) ?_
  refine k_get (D := (dC, dI)) (ci := 7) (v := .ref (p1 23)) (C := RX7) (T := TX7) (N := 92) hx hb hts hinX7 hown hK hP 0 rfl rfl 23 (by decide) w_1 rfl rfl dX7_begin_6 ?_
  refine lv_aload_n hx hb dX7_begin_9 rfl (lv_at hl 0 rfl) ?_
  refine k_get (D := (dC, dI)) (ci := 7) (v := .int 1) (C := RX7) (T := TX7) (N := 92) hx hb hts hinX7 hown hK hP 0 rfl rfl 13 (by decide) w_2 rfl rfl dX7_begin_10 ?_
  refine k_iald (v := 0) hx hb hK hP 1 0 1 rfl rfl rfl (Nat.le_of_ble_eq_true rfl) (Nat.le_of_ble_eq_true rfl) rfl dX7_begin_13 ?_
  refine k_iast (g := (upd (fun _ => 0) 0 0)) (ws' := [(p0, .inr (7, oM p1 (upd (upd (upd (upd (upd (upd (upd (upd (upd (upd (upd (upd (upd i7 1 0) 2 0) 3 0) 4 0) 5 0) 8 0) 9 (-1)) 10 0) 11 (-1)) 12 (-1)) 13 1) 36 0) 37 1) j7)), ((p1 23), .inl (cI, 2, .inl (upd (fun _ => 0) 1 0))), ((p1 49), .inl (cI, 22, .inl (upd (fun _ => 0) 0 0))), ((p1 50), .inl (cI, 22, .inl (fun _ => 0))), ((p1 51), .inl (cI, 22, .inl (fun _ => 0))), ((p1 52), .inl (cI, 22, .inl (fun _ => 0))), ((p1 53), .inl (cI, 22, .inl (fun _ => 0)))]) hx hb hK hP hD hS 2 0 0 rfl rfl rfl (Nat.le_of_ble_eq_true rfl) (Nat.le_of_ble_eq_true rfl) rfl rfl dX7_begin_14 (fun H locs hP hD hS => ?_)
  refine lv_aload_n hx hb dX7_begin_15 rfl (lv_at hl 0 rfl) ?_
  refine k_get (D := (dC, dI)) (ci := 7) (v := .ref (p1 50)) (C := RX7) (T := TX7) (N := 92) hx hb hts hinX7 hown hK hP 0 rfl rfl 50 (by decide) w_3 rfl rfl dX7_begin_16 ?_
  refine lv_iconst (v := 0) hx hb dX7_begin_19 (by decide +kernel) ?_
  refine lv_iconst (v := 0) hx hb dX7_begin_20 (by decide +kernel) ?_
  refine k_iast (g := (upd (fun _ => 0) 0 0)) (ws' := [(p0, .inr (7, oM p1 (upd (upd (upd (upd (upd (upd (upd (upd (upd (upd (upd (upd (upd i7 1 0) 2 0) 3 0) 4 0) 5 0) 8 0) 9 (-1)) 10 0) 11 (-1)) 12 (-1)) 13 1) 36 0) 37 1) j7)), ((p1 23), .inl (cI, 2, .inl (upd (fun _ => 0) 1 0))), ((p1 49), .inl (cI, 22, .inl (upd (fun _ => 0) 0 0))), ((p1 50), .inl (cI, 22, .inl (upd (fun _ => 0) 0 0))), ((p1 51), .inl (cI, 22, .inl (fun _ => 0))), ((p1 52), .inl (cI, 22, .inl (fun _ => 0))), ((p1 53), .inl (cI, 22, .inl (fun _ => 0)))]) hx hb hK hP hD hS 3 0 0 rfl rfl rfl (Nat.le_of_ble_eq_true rfl) (Nat.le_of_ble_eq_true rfl) rfl rfl dX7_begin_21 (fun H locs hP hD hS => ?_)
  refine lv_aload_n hx hb dX7_begin_22 rfl (lv_at hl 0 rfl) ?_
  refine k_get (D := (dC, dI)) (ci := 7) (v := .ref (p1 51)) (C := RX7) (T := TX7) (N := 92) hx hb hts hinX7 hown hK hP 0 rfl rfl 51 (by decide) w_4 rfl rfl dX7_begin_23 ?_
  refine lv_iconst (v := 0) hx hb dX7_begin_26 (by decide +kernel) ?_
  refine lv_iconst (v := 0) hx hb dX7_begin_27 (by decide +kernel) ?_
  refine k_iast (g := (upd (fun _ => 0) 0 0)) (ws' := [(p0, .inr (7, oM p1 (upd (upd (upd (upd (upd (upd (upd (upd (upd (upd (upd (upd (upd i7 1 0) 2 0) 3 0) 4 0) 5 0) 8 0) 9 (-1)) 10 0) 11 (-1)) 12 (-1)) 13 1) 36 0) 37 1) j7)), ((p1 23), .inl (cI, 2, .inl (upd (fun _ => 0) 1 0))), ((p1 49), .inl (cI, 22, .inl (upd (fun _ => 0) 0 0))), ((p1 50), .inl (cI, 22, .inl (upd (fun _ => 0) 0 0))), ((p1 51), .inl (cI, 22, .inl (upd (fun _ => 0) 0 0))), ((p1 52), .inl (cI, 22, .inl (fun _ => 0))), ((p1 53), .inl (cI, 22, .inl (fun _ => 0)))]) hx hb hK hP hD hS 4 0 0 rfl rfl rfl (Nat.le_of_ble_eq_true rfl) (Nat.le_of_ble_eq_true rfl) rfl rfl dX7_begin_28 (fun H locs hP hD hS => ?_)
  refine lv_aload_n hx hb dX7_begin_29 rfl (lv_at hl 0 rfl) ?_
  refine k_get (D := (dC, dI)) (ci := 7) (v := .ref (p1 52)) (C := RX7) (T := TX7) (N := 92) hx hb hts hinX7 hown hK hP 0 rfl rfl 52 (by decide) w_5 rfl rfl dX7_begin_30 ?_
  refine lv_iconst (v := 0) hx hb dX7_begin_33 (by decide +kernel) ?_
  refine lv_iconst (v := 0) hx hb dX7_begin_34 (by decide +kernel) ?_
  refine k_iast (g := (upd (fun _ => 0) 0 0)) (ws' := [(p0, .inr (7, oM p1 (upd (upd (upd (upd (upd (upd (upd (upd (upd (upd (upd (upd (upd i7 1 0) 2 0) 3 0) 4 0) 5 0) 8 0) 9 (-1)) 10 0) 11 (-1)) 12 (-1)) 13 1) 36 0) 37 1) j7)), ((p1 23), .inl (cI, 2, .inl (upd (fun _ => 0) 1 0))), ((p1 49), .inl (cI, 22, .inl (upd (fun _ => 0) 0 0))), ((p1 50), .inl (cI, 22, .inl (upd (fun _ => 0) 0 0))), ((p1 51), .inl (cI, 22, .inl (upd (fun _ => 0) 0 0))), ((p1 52), .inl (cI, 22, .inl (upd (fun _ => 0) 0 0))), ((p1 53), .inl (cI, 22, .inl (fun _ => 0)))]) hx hb hK hP hD hS 5 0 0 rfl rfl rfl (Nat.le_of_ble_eq_true rfl) (Nat.le_of_ble_eq_true rfl) rfl rfl dX7_begin_35 (fun H locs hP hD hS => ?_)
  refine lv_aload_n hx hb dX7_begin_36 rfl (lv_at hl 0 rfl) ?_
  refine k_get (D := (dC, dI)) (ci := 7) (v := .ref (p1 53)) (C := RX7) (T := TX7) (N := 92) hx hb hts hinX7 hown hK hP 0 rfl rfl 53 (by decide) w_6 rfl rfl dX7_begin_37 ?_
  refine lv_iconst (v := 0) hx hb dX7_begin_40 (by decide +kernel) ?_
  refine lv_iconst (v := 0) hx hb dX7_begin_41 (by decide +kernel) ?_
  refine k_iast (g := (upd (fun _ => 0) 0 0)) (ws' := [(p0, .inr (7, oM p1 (upd (upd (upd (upd (upd (upd (upd (upd (upd (upd (upd (upd (upd i7 1 0) 2 0) 3 0) 4 0) 5 0) 8 0) 9 (-1)) 10 0) 11 (-1)) 12 (-1)) 13 1) 36 0) 37 1) j7)), ((p1 23), .inl (cI, 2, .inl (upd (fun _ => 0) 1 0))), ((p1 49), .inl (cI, 22, .inl (upd (fun _ => 0) 0 0))), ((p1 50), .inl (cI, 22, .inl (upd (fun _ => 0) 0 0))), ((p1 51), .inl (cI, 22, .inl (upd (fun _ => 0) 0 0))), ((p1 52), .inl (cI, 22, .inl (upd (fun _ => 0) 0 0))), ((p1 53), .inl (cI, 22, .inl (upd (fun _ => 0) 0 0)))]) hx hb hK hP hD hS 6 0 0 rfl rfl rfl (Nat.le_of_ble_eq_true rfl) (Nat.le_of_ble_eq_true rfl) rfl rfl dX7_begin_42 (fun H locs hP hD hS => ?_)
  refine lv_aload_n hx hb dX7_begin_43 rfl (lv_at hl 0 rfl) ?_
  refine lv_iconst (v := 0) hx hb dX7_begin_44 (by decide +kernel) ?_
  refine k_put (D := (dC, dI)) (ci := 7) (v := .int 0) (C := RX7) (T := TX7) (N := 92) (ws' := [(p0, .inr (7, oM p1 (upd (upd (upd (upd (upd (upd (upd (upd (upd (upd (upd (upd (upd (upd i7 1 0) 2 0) 3 0) 4 0) 5 0) 8 0) 9 (-1)) 10 0) 11 (-1)) 12 (-1)) 13 1) 36 0) 37 1) 59 0) j7)), ((p1 23), .inl (cI, 2, .inl (upd (fun _ => 0) 1 0))), ((p1 49), .inl (cI, 22, .inl (upd (fun _ => 0) 0 0))), ((p1 50), .inl (cI, 22, .inl (upd (fun _ => 0) 0 0))), ((p1 51), .inl (cI, 22, .inl (upd (fun _ => 0) 0 0))), ((p1 52), .inl (cI, 22, .inl (upd (fun _ => 0) 0 0))), ((p1 53), .inl (cI, 22, .inl (upd (fun _ => 0) 0 0)))]) hx hb hts hinX7 tyX7 tyX7_ok nmX7 hown hK hP hD hS 0 rfl rfl 59 (by decide) w_7 rfl rfl rfl rfl (Nat.le_of_ble_eq_true rfl) rfl dX7_begin_45 (fun H locs hP hD hS => ?_)
  refine lv_aload_n hx hb dX7_begin_48 rfl (lv_at hl 0 rfl) ?_
  refine lv_iconst (v := 0) hx hb dX7_begin_49 (by decide +kernel) ?_
  refine k_put (D := (dC, dI)) (ci := 7) (v := .int 0) (C := RX7) (T := TX7) (N := 92) (ws' := [(p0, .inr (7, oM p1 (upd (upd (upd (upd (upd (upd (upd (upd (upd (upd (upd (upd (upd (upd (upd i7 1 0) 2 0) 3 0) 4 0) 5 0) 8 0) 9 (-1)) 10 0) 11 (-1)) 12 (-1)) 13 1) 36 0) 37 1) 59 0) 77 0) j7)), ((p1 23), .inl (cI, 2, .inl (upd (fun _ => 0) 1 0))), ((p1 49), .inl (cI, 22, .inl (upd (fun _ => 0) 0 0))), ((p1 50), .inl (cI, 22, .inl (upd (fun _ => 0) 0 0))), ((p1 51), .inl (cI, 22, .inl (upd (fun _ => 0) 0 0))), ((p1 52), .inl (cI, 22, .inl (upd (fun _ => 0) 0 0))), ((p1 53), .inl (cI, 22, .inl (upd (fun _ => 0) 0 0)))]) hx hb hts hinX7 tyX7 tyX7_ok nmX7 hown hK hP hD hS 0 rfl rfl 77 (by decide) w_8 rfl rfl rfl rfl (Nat.le_of_ble_eq_true rfl) rfl dX7_begin_50 (fun H locs hP hD hS => ?_)
  refine lv_aload_n hx hb dX7_begin_53 rfl (lv_at hl 0 rfl) ?_
  refine lv_iconst (v := (-1)) hx hb dX7_begin_54 (by decide +kernel) ?_
  refine k_put (D := (dC, dI)) (ci := 7) (v := .int (-1)) (C := RX7) (T := TX7) (N := 92) (ws' := [(p0, .inr (7, oM p1 (upd (upd (upd (upd (upd (upd (upd (upd (upd (upd (upd (upd (upd (upd (upd (upd i7 1 0) 2 0) 3 0) 4 0) 5 0) 8 0) 9 (-1)) 10 0) 11 (-1)) 12 (-1)) 13 1) 36 0) 37 1) 59 0) 67 (-1)) 77 0) j7)), ((p1 23), .inl (cI, 2, .inl (upd (fun _ => 0) 1 0))), ((p1 49), .inl (cI, 22, .inl (upd (fun _ => 0) 0 0))), ((p1 50), .inl (cI, 22, .inl (upd (fun _ => 0) 0 0))), ((p1 51), .inl (cI, 22, .inl (upd (fun _ => 0) 0 0))), ((p1 52), .inl (cI, 22, .inl (upd (fun _ => 0) 0 0))), ((p1 53), .inl (cI, 22, .inl (upd (fun _ => 0) 0 0)))]) hx hb hts hinX7 tyX7 tyX7_ok nmX7 hown hK hP hD hS 0 rfl rfl 67 (by decide) w_9 rfl rfl rfl rfl (Nat.le_of_ble_eq_true rfl) rfl dX7_begin_55 (fun H locs hP hD hS => ?_)
  refine lv_aload_n hx hb dX7_begin_58 rfl (lv_at hl 0 rfl) ?_
  refine lv_iconst (v := (-1)) hx hb dX7_begin_59 (by decide +kernel) ?_
  refine k_put (D := (dC, dI)) (ci := 7) (v := .int (-1)) (C := RX7) (T := TX7) (N := 92) (ws' := [(p0, .inr (7, oM p1 (upd (upd (upd (upd (upd (upd (upd (upd (upd (upd (upd (upd (upd (upd (upd (upd (upd i7 1 0) 2 0) 3 0) 4 0) 5 0) 8 0) 9 (-1)) 10 0) 11 (-1)) 12 (-1)) 13 1) 36 0) 37 1) 59 0) 67 (-1)) 77 0) 80 (-1)) j7)), ((p1 23), .inl (cI, 2, .inl (upd (fun _ => 0) 1 0))), ((p1 49), .inl (cI, 22, .inl (upd (fun _ => 0) 0 0))), ((p1 50), .inl (cI, 22, .inl (upd (fun _ => 0) 0 0))), ((p1 51), .inl (cI, 22, .inl (upd (fun _ => 0) 0 0))), ((p1 52), .inl (cI, 22, .inl (upd (fun _ => 0) 0 0))), ((p1 53), .inl (cI, 22, .inl (upd (fun _ => 0) 0 0)))]) hx hb hts hinX7 tyX7 tyX7_ok nmX7 hown hK hP hD hS 0 rfl rfl 80 (by decide) w_10 rfl rfl rfl rfl (Nat.le_of_ble_eq_true rfl) rfl dX7_begin_60 (fun H locs hP hD hS => ?_)
  exact k_rv B hP hD hS dX7_begin_63 () [0, 1, 2, 3, 4, 5, 6] rfl rfl (Nat.le_of_ble_eq_true rfl) (Nat.le_of_ble_eq_true rfl) trivial
set_option maxHeartbeats 4000000 in
set_option maxRecDepth 100000 in
theorem c_X7_shore_v0 (l : Launch) (dC : Nat → ClassId) (dI : Nat → Nat → Nat) (cI cJ cZ cM : ClassId) (p0 : Nat) (p1 : Nat → Nat)   : k_Mi l yX7_shore wsX7_shore ({ frames := 2, cells := 0, slots := 0, locals := 65 }) (dC, dI) vwCl (tyy cI cJ cZ cM) [(p0, .inr (7, oM p1 i7 j7)), ((p1 14), .inl (cI, 2, .inl (fun _ => 0))), ((p1 18), .inl (cI, 2, .inl (fun _ => 0))), ((p1 23), .inl (cI, 2, .inl (fun _ => 0))), ((p1 24), .inl (cI, 2, .inl (upd (fun _ => 0) 0 (-1)))), ((p1 26), .inl (cI, 2, .inl (upd (fun _ => 0) 0 (-1)))), ((p1 28), .inl (cI, 2, .inl (upd (fun _ => 0) 0 (-1)))), ((p1 30), .inl (cI, 2, .inl (upd (fun _ => 0) 0 100))), ((p1 31), .inl (cI, 2, .inl (fun _ => 0))), ((p1 49), .inl (cI, 22, .inl (fun _ => 0))), ((p1 50), .inl (cI, 22, .inl (fun _ => 0))), ((p1 51), .inl (cI, 22, .inl (fun _ => 0))), ((p1 52), .inl (cI, 22, .inl (fun _ => 0))), ((p1 53), .inl (cI, 22, .inl (fun _ => 0)))] [.ref p0] 0 0 (fun (u9 : Unit) => [(p0, .inr (7, oM p1 (upd (upd (upd (upd (upd (upd (upd (upd (upd (upd (upd (upd (upd (upd (upd (upd (upd i7 1 0) 2 0) 3 0) 4 0) 5 0) 8 0) 9 (-1)) 10 0) 11 (-1)) 12 (-1)) 13 1) 36 0) 37 1) 59 0) 67 (-1)) 77 0) 80 (-1)) j7)), ((p1 14), .inl (cI, 2, .inl (upd (fun _ => 0) 1 0))), ((p1 18), .inl (cI, 2, .inl (upd (fun _ => 0) 1 0))), ((p1 23), .inl (cI, 2, .inl (upd (fun _ => 0) 1 0))), ((p1 24), .inl (cI, 2, .inl (upd (upd (fun _ => 0) 0 (-1)) 1 (-1)))), ((p1 26), .inl (cI, 2, .inl (upd (upd (fun _ => 0) 0 (-1)) 1 (-1)))), ((p1 28), .inl (cI, 2, .inl (upd (upd (fun _ => 0) 0 (-1)) 1 (-1)))), ((p1 30), .inl (cI, 2, .inl (upd (upd (fun _ => 0) 0 100) 1 100))), ((p1 31), .inl (cI, 2, .inl (upd (fun _ => 0) 1 0))), ((p1 49), .inl (cI, 22, .inl (upd (fun _ => 0) 0 0))), ((p1 50), .inl (cI, 22, .inl (upd (fun _ => 0) 0 0))), ((p1 51), .inl (cI, 22, .inl (upd (fun _ => 0) 0 0))), ((p1 52), .inl (cI, 22, .inl (upd (fun _ => 0) 0 0))), ((p1 53), .inl (cI, 22, .inl (upd (fun _ => 0) 0 0)))]) (fun (r9 : Int32) (u9 : Unit) => r9 = 0) := by
  refine fun sz => k_enter (cc := cX7_shore) (maxL := 2) (ret := some (.int)) (Qc := fun A => va_Qi (fun (r9 : Int32) (u9 : Unit) => r9 = 0) (fun u => k_B (dC, dI) vwCl (tyy cI cJ cZ cM) A ((fun (u9 : Unit) => [(p0, .inr (7, oM p1 (upd (upd (upd (upd (upd (upd (upd (upd (upd (upd (upd (upd (upd (upd (upd (upd (upd i7 1 0) 2 0) 3 0) 4 0) 5 0) 8 0) 9 (-1)) 10 0) 11 (-1)) 12 (-1)) 13 1) 36 0) 37 1) 59 0) 67 (-1)) 77 0) 80 (-1)) j7)), ((p1 14), .inl (cI, 2, .inl (upd (fun _ => 0) 1 0))), ((p1 18), .inl (cI, 2, .inl (upd (fun _ => 0) 1 0))), ((p1 23), .inl (cI, 2, .inl (upd (fun _ => 0) 1 0))), ((p1 24), .inl (cI, 2, .inl (upd (upd (fun _ => 0) 0 (-1)) 1 (-1)))), ((p1 26), .inl (cI, 2, .inl (upd (upd (fun _ => 0) 0 (-1)) 1 (-1)))), ((p1 28), .inl (cI, 2, .inl (upd (upd (fun _ => 0) 0 (-1)) 1 (-1)))), ((p1 30), .inl (cI, 2, .inl (upd (upd (fun _ => 0) 0 100) 1 100))), ((p1 31), .inl (cI, 2, .inl (upd (fun _ => 0) 1 0))), ((p1 49), .inl (cI, 22, .inl (upd (fun _ => 0) 0 0))), ((p1 50), .inl (cI, 22, .inl (upd (fun _ => 0) 0 0))), ((p1 51), .inl (cI, 22, .inl (upd (fun _ => 0) 0 0))), ((p1 52), .inl (cI, 22, .inl (upd (fun _ => 0) 0 0))), ((p1 53), .inl (cI, 22, .inl (upd (fun _ => 0) 0 0)))]) u)) A) sz (by decide +kernel) rfl (Nat.le_of_ble_eq_true rfl) (fun p e s m args below meth c A ls H B hP hD hS hl => ?_)
  obtain ⟨hx, hb, hml, hown, hts, hr, hlk, hnm, hK, hA, hN⟩ := id B
  have hown : s.vm.findClass RX7 = some m.cls := hown
  have hl : lv_has ls 2 [(0, .ref p0)] := hl
  have w_0 : (Cond.fieldLink RX7 13 "WishSeaModel" "taped" "I").before args s = true := hts _ (List.mem_of_getElem? (i := 1) rfl)
  have w_1 : (Cond.fieldLink RX7 17 "WishSeaModel" "size" "I").before args s = true := hts _ (List.mem_of_getElem? (i := 2) rfl)
  have w_2 : (Cond.fieldLink RX7 26 "WishSeaModel" "signEnd" "I").before args s = true := hts _ (List.mem_of_getElem? (i := 3) rfl)
  have w_3 : (Cond.fieldLink RX7 36 "WishSeaModel" "faultKind" "I").before args s = true := hts _ (List.mem_of_getElem? (i := 4) rfl)
  have w_4 : (Cond.fieldLink RX7 39 "WishSeaModel" "faultPlace" "I").before args s = true := hts _ (List.mem_of_getElem? (i := 5) rfl)
  have w_5 : (Cond.fieldLink RX7 51 "WishSeaModel" "bank" "I").before args s = true := hts _ (List.mem_of_getElem? (i := 6) rfl)
  have w_6 : (Cond.fieldLink RX7 124 "WishSeaModel" "in" "I").before args s = true := hts _ (List.mem_of_getElem? (i := 7) rfl)
  have w_7 : (Cond.fieldLink RX7 54 "WishSeaModel" "things" "[I").before args s = true := hts _ (List.mem_of_getElem? (i := 8) rfl)
  have w_8 : (Cond.fieldLink RX7 66 "WishSeaModel" "wishes" "[I").before args s = true := hts _ (List.mem_of_getElem? (i := 9) rfl)
  have w_9 : (Cond.fieldLink RX7 81 "WishSeaModel" "firstOnes" "[I").before args s = true := hts _ (List.mem_of_getElem? (i := 10) rfl)
  have w_10 : (Cond.fieldLink RX7 84 "WishSeaModel" "darkFrom" "[I").before args s = true := hts _ (List.mem_of_getElem? (i := 11) rfl)
  have w_11 : (Cond.fieldLink RX7 90 "WishSeaModel" "roomFrom" "[I").before args s = true := hts _ (List.mem_of_getElem? (i := 12) rfl)
  have w_12 : (Cond.fieldLink RX7 96 "WishSeaModel" "contentFrom" "[I").before args s = true := hts _ (List.mem_of_getElem? (i := 13) rfl)
  have w_13 : (Cond.fieldLink RX7 102 "WishSeaModel" "bearing" "[I").before args s = true := hts _ (List.mem_of_getElem? (i := 14) rfl)
  have w_14 : (Cond.fieldLink RX7 105 "WishSeaModel" "calming" "[I").before args s = true := hts _ (List.mem_of_getElem? (i := 15) rfl)
  have w_15 : (Cond.fieldLink RX7 121 "WishSeaModel" "codes" "I").before args s = true := hts _ (List.mem_of_getElem? (i := 16) rfl)
  have w_16 : (Cond.fieldLink RX7 20 "WishSeaModel" "sign" "I").before args s = true := hts _ (List.mem_of_getElem? (i := 17) rfl)
  have w_17 : (Cond.fieldLink RX7 42 "WishSeaModel" "toldKind" "I").before args s = true := hts _ (List.mem_of_getElem? (i := 18) rfl)
  have w_18 : (Cond.fieldLink RX7 45 "WishSeaModel" "toldPlace" "I").before args s = true := hts _ (List.mem_of_getElem? (i := 19) rfl)
  have hinX7 : ∀ w ∈ u_ws RX7 TX7 92, w ∈ wsX7_shore := fun _ h => List.mem_cons_of_mem _ (List.mem_append_right _ h)
  refine lv_aload_n hx hb dX7_shore_0 rfl (lv_at hl 0 rfl) ?_
  refine lv_aload_n hx hb dX7_shore_1 rfl (lv_at hl 0 rfl) ?_
  refine k_get (D := (dC, dI)) (ci := 7) (v := .int 0) (C := RX7) (T := TX7) (N := 92) hx hb hts hinX7 hown hK hP 0 rfl rfl 1 (by decide) w_0 rfl rfl dX7_shore_2 ?_
  refine k_put (D := (dC, dI)) (ci := 7) (v := .int 0) (C := RX7) (T := TX7) (N := 92) (ws' := [(p0, .inr (7, oM p1 (upd i7 2 0) j7)), ((p1 14), .inl (cI, 2, .inl (fun _ => 0))), ((p1 18), .inl (cI, 2, .inl (fun _ => 0))), ((p1 23), .inl (cI, 2, .inl (fun _ => 0))), ((p1 24), .inl (cI, 2, .inl (upd (fun _ => 0) 0 (-1)))), ((p1 26), .inl (cI, 2, .inl (upd (fun _ => 0) 0 (-1)))), ((p1 28), .inl (cI, 2, .inl (upd (fun _ => 0) 0 (-1)))), ((p1 30), .inl (cI, 2, .inl (upd (fun _ => 0) 0 100))), ((p1 31), .inl (cI, 2, .inl (fun _ => 0))), ((p1 49), .inl (cI, 22, .inl (fun _ => 0))), ((p1 50), .inl (cI, 22, .inl (fun _ => 0))), ((p1 51), .inl (cI, 22, .inl (fun _ => 0))), ((p1 52), .inl (cI, 22, .inl (fun _ => 0))), ((p1 53), .inl (cI, 22, .inl (fun _ => 0)))]) hx hb hts hinX7 tyX7 tyX7_ok nmX7 hown hK hP hD hS 0 rfl rfl 2 (by decide) w_1 rfl rfl rfl rfl (Nat.le_of_ble_eq_true rfl) rfl dX7_shore_5 (fun H locs hP hD hS => ?_)
  refine lv_aload_n hx hb dX7_shore_8 rfl (lv_at hl 0 rfl) ?_
  refine lv_iconst (v := 0) hx hb dX7_shore_9 (by decide +kernel) ?_
  refine k_put (D := (dC, dI)) (ci := 7) (v := .int 0) (C := RX7) (T := TX7) (N := 92) (ws' := [(p0, .inr (7, oM p1 (upd (upd i7 1 0) 2 0) j7)), ((p1 14), .inl (cI, 2, .inl (fun _ => 0))), ((p1 18), .inl (cI, 2, .inl (fun _ => 0))), ((p1 23), .inl (cI, 2, .inl (fun _ => 0))), ((p1 24), .inl (cI, 2, .inl (upd (fun _ => 0) 0 (-1)))), ((p1 26), .inl (cI, 2, .inl (upd (fun _ => 0) 0 (-1)))), ((p1 28), .inl (cI, 2, .inl (upd (fun _ => 0) 0 (-1)))), ((p1 30), .inl (cI, 2, .inl (upd (fun _ => 0) 0 100))), ((p1 31), .inl (cI, 2, .inl (fun _ => 0))), ((p1 49), .inl (cI, 22, .inl (fun _ => 0))), ((p1 50), .inl (cI, 22, .inl (fun _ => 0))), ((p1 51), .inl (cI, 22, .inl (fun _ => 0))), ((p1 52), .inl (cI, 22, .inl (fun _ => 0))), ((p1 53), .inl (cI, 22, .inl (fun _ => 0)))]) hx hb hts hinX7 tyX7 tyX7_ok nmX7 hown hK hP hD hS 0 rfl rfl 1 (by decide) w_0 rfl rfl rfl rfl (Nat.le_of_ble_eq_true rfl) rfl dX7_shore_10 (fun H locs hP hD hS => ?_)
  refine lv_aload_n hx hb dX7_shore_13 rfl (lv_at hl 0 rfl) ?_
  refine lv_iconst (v := 0) hx hb dX7_shore_14 (by decide +kernel) ?_
  refine k_put (D := (dC, dI)) (ci := 7) (v := .int 0) (C := RX7) (T := TX7) (N := 92) (ws' := [(p0, .inr (7, oM p1 (upd (upd (upd i7 1 0) 2 0) 5 0) j7)), ((p1 14), .inl (cI, 2, .inl (fun _ => 0))), ((p1 18), .inl (cI, 2, .inl (fun _ => 0))), ((p1 23), .inl (cI, 2, .inl (fun _ => 0))), ((p1 24), .inl (cI, 2, .inl (upd (fun _ => 0) 0 (-1)))), ((p1 26), .inl (cI, 2, .inl (upd (fun _ => 0) 0 (-1)))), ((p1 28), .inl (cI, 2, .inl (upd (fun _ => 0) 0 (-1)))), ((p1 30), .inl (cI, 2, .inl (upd (fun _ => 0) 0 100))), ((p1 31), .inl (cI, 2, .inl (fun _ => 0))), ((p1 49), .inl (cI, 22, .inl (fun _ => 0))), ((p1 50), .inl (cI, 22, .inl (fun _ => 0))), ((p1 51), .inl (cI, 22, .inl (fun _ => 0))), ((p1 52), .inl (cI, 22, .inl (fun _ => 0))), ((p1 53), .inl (cI, 22, .inl (fun _ => 0)))]) hx hb hts hinX7 tyX7 tyX7_ok nmX7 hown hK hP hD hS 0 rfl rfl 5 (by decide) w_2 rfl rfl rfl rfl (Nat.le_of_ble_eq_true rfl) rfl dX7_shore_15 (fun H locs hP hD hS => ?_)
  refine lv_aload_n hx hb dX7_shore_18 rfl (lv_at hl 0 rfl) ?_
  refine lv_iconst (v := 0) hx hb dX7_shore_19 (by decide +kernel) ?_
  refine k_put (D := (dC, dI)) (ci := 7) (v := .int 0) (C := RX7) (T := TX7) (N := 92) (ws' := [(p0, .inr (7, oM p1 (upd (upd (upd (upd i7 1 0) 2 0) 5 0) 8 0) j7)), ((p1 14), .inl (cI, 2, .inl (fun _ => 0))), ((p1 18), .inl (cI, 2, .inl (fun _ => 0))), ((p1 23), .inl (cI, 2, .inl (fun _ => 0))), ((p1 24), .inl (cI, 2, .inl (upd (fun _ => 0) 0 (-1)))), ((p1 26), .inl (cI, 2, .inl (upd (fun _ => 0) 0 (-1)))), ((p1 28), .inl (cI, 2, .inl (upd (fun _ => 0) 0 (-1)))), ((p1 30), .inl (cI, 2, .inl (upd (fun _ => 0) 0 100))), ((p1 31), .inl (cI, 2, .inl (fun _ => 0))), ((p1 49), .inl (cI, 22, .inl (fun _ => 0))), ((p1 50), .inl (cI, 22, .inl (fun _ => 0))), ((p1 51), .inl (cI, 22, .inl (fun _ => 0))), ((p1 52), .inl (cI, 22, .inl (fun _ => 0))), ((p1 53), .inl (cI, 22, .inl (fun _ => 0)))]) hx hb hts hinX7 tyX7 tyX7_ok nmX7 hown hK hP hD hS 0 rfl rfl 8 (by decide) w_3 rfl rfl rfl rfl (Nat.le_of_ble_eq_true rfl) rfl dX7_shore_20 (fun H locs hP hD hS => ?_)
  refine lv_aload_n hx hb dX7_shore_23 rfl (lv_at hl 0 rfl) ?_
  refine lv_iconst (v := (-1)) hx hb dX7_shore_24 (by decide +kernel) ?_
  refine k_put (D := (dC, dI)) (ci := 7) (v := .int (-1)) (C := RX7) (T := TX7) (N := 92) (ws' := [(p0, .inr (7, oM p1 (upd (upd (upd (upd (upd i7 1 0) 2 0) 5 0) 8 0) 9 (-1)) j7)), ((p1 14), .inl (cI, 2, .inl (fun _ => 0))), ((p1 18), .inl (cI, 2, .inl (fun _ => 0))), ((p1 23), .inl (cI, 2, .inl (fun _ => 0))), ((p1 24), .inl (cI, 2, .inl (upd (fun _ => 0) 0 (-1)))), ((p1 26), .inl (cI, 2, .inl (upd (fun _ => 0) 0 (-1)))), ((p1 28), .inl (cI, 2, .inl (upd (fun _ => 0) 0 (-1)))), ((p1 30), .inl (cI, 2, .inl (upd (fun _ => 0) 0 100))), ((p1 31), .inl (cI, 2, .inl (fun _ => 0))), ((p1 49), .inl (cI, 22, .inl (fun _ => 0))), ((p1 50), .inl (cI, 22, .inl (fun _ => 0))), ((p1 51), .inl (cI, 22, .inl (fun _ => 0))), ((p1 52), .inl (cI, 22, .inl (fun _ => 0))), ((p1 53), .inl (cI, 22, .inl (fun _ => 0)))]) hx hb hts hinX7 tyX7 tyX7_ok nmX7 hown hK hP hD hS 0 rfl rfl 9 (by decide) w_4 rfl rfl rfl rfl (Nat.le_of_ble_eq_true rfl) rfl dX7_shore_25 (fun H locs hP hD hS => ?_)
  refine lv_aload_n hx hb dX7_shore_28 rfl (lv_at hl 0 rfl) ?_
  refine lv_iconst (v := 1) hx hb dX7_shore_29 (by decide +kernel) ?_
  refine lv_aload_n hx hb dX7_shore_30 rfl (lv_at hl 0 rfl) ?_
  refine k_get (D := (dC, dI)) (ci := 7) (v := .int 0) (C := RX7) (T := TX7) (N := 92) hx hb hts hinX7 hown hK hP 0 rfl rfl 13 (by decide) w_5 rfl rfl dX7_shore_31 ?_
  refine lv_isub hx hb dX7_shore_34 ?_
  refine k_int (v := 1) (by decide +kernel) ?_
  refine k_put (D := (dC, dI)) (ci := 7) (v := .int 1) (C := RX7) (T := TX7) (N := 92) (ws' := [(p0, .inr (7, oM p1 (upd (upd (upd (upd (upd (upd i7 1 0) 2 0) 5 0) 8 0) 9 (-1)) 37 1) j7)), ((p1 14), .inl (cI, 2, .inl (fun _ => 0))), ((p1 18), .inl (cI, 2, .inl (fun _ => 0))), ((p1 23), .inl (cI, 2, .inl (fun _ => 0))), ((p1 24), .inl (cI, 2, .inl (upd (fun _ => 0) 0 (-1)))), ((p1 26), .inl (cI, 2, .inl (upd (fun _ => 0) 0 (-1)))), ((p1 28), .inl (cI, 2, .inl (upd (fun _ => 0) 0 (-1)))), ((p1 30), .inl (cI, 2, .inl (upd (fun _ => 0) 0 100))), ((p1 31), .inl (cI, 2, .inl (fun _ => 0))), ((p1 49), .inl (cI, 22, .inl (fun _ => 0))), ((p1 50), .inl (cI, 22, .inl (fun _ => 0))), ((p1 51), .inl (cI, 22, .inl (fun _ => 0))), ((p1 52), .inl (cI, 22, .inl (fun _ => 0))), ((p1 53), .inl (cI, 22, .inl (fun _ => 0)))]) hx hb hts hinX7 tyX7 tyX7_ok nmX7 hown hK hP hD hS 0 rfl rfl 37 (by decide) w_6 rfl rfl rfl rfl (Nat.le_of_ble_eq_true rfl) rfl dX7_shore_35 (fun H locs hP hD hS => ?_)
  refine lv_aload_n hx hb dX7_shore_38 rfl (lv_at hl 0 rfl) ?_
  refine k_get (D := (dC, dI)) (ci := 7) (v := .ref (p1 14)) (C := RX7) (T := TX7) (N := 92) hx hb hts hinX7 hown hK hP 0 rfl rfl 14 (by decide) w_7 rfl rfl dX7_shore_39 ?_
  refine lv_aload_n hx hb dX7_shore_42 rfl (lv_at hl 0 rfl) ?_
  refine k_get (D := (dC, dI)) (ci := 7) (v := .int 1) (C := RX7) (T := TX7) (N := 92) hx hb hts hinX7 hown hK hP 0 rfl rfl 37 (by decide) w_6 rfl rfl dX7_shore_43 ?_
  refine lv_iconst (v := 0) hx hb dX7_shore_46 (by decide +kernel) ?_
  refine k_iast (g := (upd (fun _ => 0) 1 0)) (ws' := [(p0, .inr (7, oM p1 (upd (upd (upd (upd (upd (upd i7 1 0) 2 0) 5 0) 8 0) 9 (-1)) 37 1) j7)), ((p1 14), .inl (cI, 2, .inl (upd (fun _ => 0) 1 0))), ((p1 18), .inl (cI, 2, .inl (fun _ => 0))), ((p1 23), .inl (cI, 2, .inl (fun _ => 0))), ((p1 24), .inl (cI, 2, .inl (upd (fun _ => 0) 0 (-1)))), ((p1 26), .inl (cI, 2, .inl (upd (fun _ => 0) 0 (-1)))), ((p1 28), .inl (cI, 2, .inl (upd (fun _ => 0) 0 (-1)))), ((p1 30), .inl (cI, 2, .inl (upd (fun _ => 0) 0 100))), ((p1 31), .inl (cI, 2, .inl (fun _ => 0))), ((p1 49), .inl (cI, 22, .inl (fun _ => 0))), ((p1 50), .inl (cI, 22, .inl (fun _ => 0))), ((p1 51), .inl (cI, 22, .inl (fun _ => 0))), ((p1 52), .inl (cI, 22, .inl (fun _ => 0))), ((p1 53), .inl (cI, 22, .inl (fun _ => 0)))]) hx hb hK hP hD hS 1 0 1 rfl rfl rfl (Nat.le_of_ble_eq_true rfl) (Nat.le_of_ble_eq_true rfl) rfl rfl dX7_shore_47 (fun H locs hP hD hS => ?_)
  refine lv_aload_n hx hb dX7_shore_48 rfl (lv_at hl 0 rfl) ?_
  refine k_get (D := (dC, dI)) (ci := 7) (v := .ref (p1 18)) (C := RX7) (T := TX7) (N := 92) hx hb hts hinX7 hown hK hP 0 rfl rfl 18 (by decide) w_8 rfl rfl dX7_shore_49 ?_
  refine lv_aload_n hx hb dX7_shore_52 rfl (lv_at hl 0 rfl) ?_
  refine k_get (D := (dC, dI)) (ci := 7) (v := .int 1) (C := RX7) (T := TX7) (N := 92) hx hb hts hinX7 hown hK hP 0 rfl rfl 37 (by decide) w_6 rfl rfl dX7_shore_53 ?_
  refine lv_iconst (v := 0) hx hb dX7_shore_56 (by decide +kernel) ?_
  refine k_iast (g := (upd (fun _ => 0) 1 0)) (ws' := [(p0, .inr (7, oM p1 (upd (upd (upd (upd (upd (upd i7 1 0) 2 0) 5 0) 8 0) 9 (-1)) 37 1) j7)), ((p1 14), .inl (cI, 2, .inl (upd (fun _ => 0) 1 0))), ((p1 18), .inl (cI, 2, .inl (upd (fun _ => 0) 1 0))), ((p1 23), .inl (cI, 2, .inl (fun _ => 0))), ((p1 24), .inl (cI, 2, .inl (upd (fun _ => 0) 0 (-1)))), ((p1 26), .inl (cI, 2, .inl (upd (fun _ => 0) 0 (-1)))), ((p1 28), .inl (cI, 2, .inl (upd (fun _ => 0) 0 (-1)))), ((p1 30), .inl (cI, 2, .inl (upd (fun _ => 0) 0 100))), ((p1 31), .inl (cI, 2, .inl (fun _ => 0))), ((p1 49), .inl (cI, 22, .inl (fun _ => 0))), ((p1 50), .inl (cI, 22, .inl (fun _ => 0))), ((p1 51), .inl (cI, 22, .inl (fun _ => 0))), ((p1 52), .inl (cI, 22, .inl (fun _ => 0))), ((p1 53), .inl (cI, 22, .inl (fun _ => 0)))]) hx hb hK hP hD hS 2 0 1 rfl rfl rfl (Nat.le_of_ble_eq_true rfl) (Nat.le_of_ble_eq_true rfl) rfl rfl dX7_shore_57 (fun H locs hP hD hS => ?_)
  refine lv_aload_n hx hb dX7_shore_58 rfl (lv_at hl 0 rfl) ?_
  refine k_get (D := (dC, dI)) (ci := 7) (v := .ref (p1 23)) (C := RX7) (T := TX7) (N := 92) hx hb hts hinX7 hown hK hP 0 rfl rfl 23 (by decide) w_9 rfl rfl dX7_shore_59 ?_
  refine lv_aload_n hx hb dX7_shore_62 rfl (lv_at hl 0 rfl) ?_
  refine k_get (D := (dC, dI)) (ci := 7) (v := .int 1) (C := RX7) (T := TX7) (N := 92) hx hb hts hinX7 hown hK hP 0 rfl rfl 37 (by decide) w_6 rfl rfl dX7_shore_63 ?_
  refine lv_iconst (v := 0) hx hb dX7_shore_66 (by decide +kernel) ?_
  refine k_iast (g := (upd (fun _ => 0) 1 0)) (ws' := [(p0, .inr (7, oM p1 (upd (upd (upd (upd (upd (upd i7 1 0) 2 0) 5 0) 8 0) 9 (-1)) 37 1) j7)), ((p1 14), .inl (cI, 2, .inl (upd (fun _ => 0) 1 0))), ((p1 18), .inl (cI, 2, .inl (upd (fun _ => 0) 1 0))), ((p1 23), .inl (cI, 2, .inl (upd (fun _ => 0) 1 0))), ((p1 24), .inl (cI, 2, .inl (upd (fun _ => 0) 0 (-1)))), ((p1 26), .inl (cI, 2, .inl (upd (fun _ => 0) 0 (-1)))), ((p1 28), .inl (cI, 2, .inl (upd (fun _ => 0) 0 (-1)))), ((p1 30), .inl (cI, 2, .inl (upd (fun _ => 0) 0 100))), ((p1 31), .inl (cI, 2, .inl (fun _ => 0))), ((p1 49), .inl (cI, 22, .inl (fun _ => 0))), ((p1 50), .inl (cI, 22, .inl (fun _ => 0))), ((p1 51), .inl (cI, 22, .inl (fun _ => 0))), ((p1 52), .inl (cI, 22, .inl (fun _ => 0))), ((p1 53), .inl (cI, 22, .inl (fun _ => 0)))]) hx hb hK hP hD hS 3 0 1 rfl rfl rfl (Nat.le_of_ble_eq_true rfl) (Nat.le_of_ble_eq_true rfl) rfl rfl dX7_shore_67 (fun H locs hP hD hS => ?_)
  refine lv_aload_n hx hb dX7_shore_68 rfl (lv_at hl 0 rfl) ?_
  refine k_get (D := (dC, dI)) (ci := 7) (v := .ref (p1 24)) (C := RX7) (T := TX7) (N := 92) hx hb hts hinX7 hown hK hP 0 rfl rfl 24 (by decide) w_10 rfl rfl dX7_shore_69 ?_
  refine lv_aload_n hx hb dX7_shore_72 rfl (lv_at hl 0 rfl) ?_
  refine k_get (D := (dC, dI)) (ci := 7) (v := .int 1) (C := RX7) (T := TX7) (N := 92) hx hb hts hinX7 hown hK hP 0 rfl rfl 37 (by decide) w_6 rfl rfl dX7_shore_73 ?_
  refine lv_iconst (v := (-1)) hx hb dX7_shore_76 (by decide +kernel) ?_
  refine k_iast (g := (upd (upd (fun _ => 0) 0 (-1)) 1 (-1))) (ws' := [(p0, .inr (7, oM p1 (upd (upd (upd (upd (upd (upd i7 1 0) 2 0) 5 0) 8 0) 9 (-1)) 37 1) j7)), ((p1 14), .inl (cI, 2, .inl (upd (fun _ => 0) 1 0))), ((p1 18), .inl (cI, 2, .inl (upd (fun _ => 0) 1 0))), ((p1 23), .inl (cI, 2, .inl (upd (fun _ => 0) 1 0))), ((p1 24), .inl (cI, 2, .inl (upd (upd (fun _ => 0) 0 (-1)) 1 (-1)))), ((p1 26), .inl (cI, 2, .inl (upd (fun _ => 0) 0 (-1)))), ((p1 28), .inl (cI, 2, .inl (upd (fun _ => 0) 0 (-1)))), ((p1 30), .inl (cI, 2, .inl (upd (fun _ => 0) 0 100))), ((p1 31), .inl (cI, 2, .inl (fun _ => 0))), ((p1 49), .inl (cI, 22, .inl (fun _ => 0))), ((p1 50), .inl (cI, 22, .inl (fun _ => 0))), ((p1 51), .inl (cI, 22, .inl (fun _ => 0))), ((p1 52), .inl (cI, 22, .inl (fun _ => 0))), ((p1 53), .inl (cI, 22, .inl (fun _ => 0)))]) hx hb hK hP hD hS 4 0 1 rfl rfl rfl (Nat.le_of_ble_eq_true rfl) (Nat.le_of_ble_eq_true rfl) rfl rfl dX7_shore_77 (fun H locs hP hD hS => ?_)
  refine lv_aload_n hx hb dX7_shore_78 rfl (lv_at hl 0 rfl) ?_
  refine k_get (D := (dC, dI)) (ci := 7) (v := .ref (p1 26)) (C := RX7) (T := TX7) (N := 92) hx hb hts hinX7 hown hK hP 0 rfl rfl 26 (by decide) w_11 rfl rfl dX7_shore_79 ?_
  refine lv_aload_n hx hb dX7_shore_82 rfl (lv_at hl 0 rfl) ?_
  refine k_get (D := (dC, dI)) (ci := 7) (v := .int 1) (C := RX7) (T := TX7) (N := 92) hx hb hts hinX7 hown hK hP 0 rfl rfl 37 (by decide) w_6 rfl rfl dX7_shore_83 ?_
  refine lv_iconst (v := (-1)) hx hb dX7_shore_86 (by decide +kernel) ?_
  refine k_iast (g := (upd (upd (fun _ => 0) 0 (-1)) 1 (-1))) (ws' := [(p0, .inr (7, oM p1 (upd (upd (upd (upd (upd (upd i7 1 0) 2 0) 5 0) 8 0) 9 (-1)) 37 1) j7)), ((p1 14), .inl (cI, 2, .inl (upd (fun _ => 0) 1 0))), ((p1 18), .inl (cI, 2, .inl (upd (fun _ => 0) 1 0))), ((p1 23), .inl (cI, 2, .inl (upd (fun _ => 0) 1 0))), ((p1 24), .inl (cI, 2, .inl (upd (upd (fun _ => 0) 0 (-1)) 1 (-1)))), ((p1 26), .inl (cI, 2, .inl (upd (upd (fun _ => 0) 0 (-1)) 1 (-1)))), ((p1 28), .inl (cI, 2, .inl (upd (fun _ => 0) 0 (-1)))), ((p1 30), .inl (cI, 2, .inl (upd (fun _ => 0) 0 100))), ((p1 31), .inl (cI, 2, .inl (fun _ => 0))), ((p1 49), .inl (cI, 22, .inl (fun _ => 0))), ((p1 50), .inl (cI, 22, .inl (fun _ => 0))), ((p1 51), .inl (cI, 22, .inl (fun _ => 0))), ((p1 52), .inl (cI, 22, .inl (fun _ => 0))), ((p1 53), .inl (cI, 22, .inl (fun _ => 0)))]) hx hb hK hP hD hS 5 0 1 rfl rfl rfl (Nat.le_of_ble_eq_true rfl) (Nat.le_of_ble_eq_true rfl) rfl rfl dX7_shore_87 (fun H locs hP hD hS => ?_)
  refine lv_aload_n hx hb dX7_shore_88 rfl (lv_at hl 0 rfl) ?_
  refine k_get (D := (dC, dI)) (ci := 7) (v := .ref (p1 28)) (C := RX7) (T := TX7) (N := 92) hx hb hts hinX7 hown hK hP 0 rfl rfl 28 (by decide) w_12 rfl rfl dX7_shore_89 ?_
  refine lv_aload_n hx hb dX7_shore_92 rfl (lv_at hl 0 rfl) ?_
  refine k_get (D := (dC, dI)) (ci := 7) (v := .int 1) (C := RX7) (T := TX7) (N := 92) hx hb hts hinX7 hown hK hP 0 rfl rfl 37 (by decide) w_6 rfl rfl dX7_shore_93 ?_
  refine lv_iconst (v := (-1)) hx hb dX7_shore_96 (by decide +kernel) ?_
  refine k_iast (g := (upd (upd (fun _ => 0) 0 (-1)) 1 (-1))) (ws' := [(p0, .inr (7, oM p1 (upd (upd (upd (upd (upd (upd i7 1 0) 2 0) 5 0) 8 0) 9 (-1)) 37 1) j7)), ((p1 14), .inl (cI, 2, .inl (upd (fun _ => 0) 1 0))), ((p1 18), .inl (cI, 2, .inl (upd (fun _ => 0) 1 0))), ((p1 23), .inl (cI, 2, .inl (upd (fun _ => 0) 1 0))), ((p1 24), .inl (cI, 2, .inl (upd (upd (fun _ => 0) 0 (-1)) 1 (-1)))), ((p1 26), .inl (cI, 2, .inl (upd (upd (fun _ => 0) 0 (-1)) 1 (-1)))), ((p1 28), .inl (cI, 2, .inl (upd (upd (fun _ => 0) 0 (-1)) 1 (-1)))), ((p1 30), .inl (cI, 2, .inl (upd (fun _ => 0) 0 100))), ((p1 31), .inl (cI, 2, .inl (fun _ => 0))), ((p1 49), .inl (cI, 22, .inl (fun _ => 0))), ((p1 50), .inl (cI, 22, .inl (fun _ => 0))), ((p1 51), .inl (cI, 22, .inl (fun _ => 0))), ((p1 52), .inl (cI, 22, .inl (fun _ => 0))), ((p1 53), .inl (cI, 22, .inl (fun _ => 0)))]) hx hb hK hP hD hS 6 0 1 rfl rfl rfl (Nat.le_of_ble_eq_true rfl) (Nat.le_of_ble_eq_true rfl) rfl rfl dX7_shore_97 (fun H locs hP hD hS => ?_)
  refine lv_aload_n hx hb dX7_shore_98 rfl (lv_at hl 0 rfl) ?_
  refine k_get (D := (dC, dI)) (ci := 7) (v := .ref (p1 30)) (C := RX7) (T := TX7) (N := 92) hx hb hts hinX7 hown hK hP 0 rfl rfl 30 (by decide) w_13 rfl rfl dX7_shore_99 ?_
  refine lv_aload_n hx hb dX7_shore_102 rfl (lv_at hl 0 rfl) ?_
  refine k_get (D := (dC, dI)) (ci := 7) (v := .int 1) (C := RX7) (T := TX7) (N := 92) hx hb hts hinX7 hown hK hP 0 rfl rfl 37 (by decide) w_6 rfl rfl dX7_shore_103 ?_
  refine lv_bipush (v := 100) hx hb dX7_shore_106 (by decide +kernel) ?_
  refine k_iast (g := (upd (upd (fun _ => 0) 0 100) 1 100)) (ws' := [(p0, .inr (7, oM p1 (upd (upd (upd (upd (upd (upd i7 1 0) 2 0) 5 0) 8 0) 9 (-1)) 37 1) j7)), ((p1 14), .inl (cI, 2, .inl (upd (fun _ => 0) 1 0))), ((p1 18), .inl (cI, 2, .inl (upd (fun _ => 0) 1 0))), ((p1 23), .inl (cI, 2, .inl (upd (fun _ => 0) 1 0))), ((p1 24), .inl (cI, 2, .inl (upd (upd (fun _ => 0) 0 (-1)) 1 (-1)))), ((p1 26), .inl (cI, 2, .inl (upd (upd (fun _ => 0) 0 (-1)) 1 (-1)))), ((p1 28), .inl (cI, 2, .inl (upd (upd (fun _ => 0) 0 (-1)) 1 (-1)))), ((p1 30), .inl (cI, 2, .inl (upd (upd (fun _ => 0) 0 100) 1 100))), ((p1 31), .inl (cI, 2, .inl (fun _ => 0))), ((p1 49), .inl (cI, 22, .inl (fun _ => 0))), ((p1 50), .inl (cI, 22, .inl (fun _ => 0))), ((p1 51), .inl (cI, 22, .inl (fun _ => 0))), ((p1 52), .inl (cI, 22, .inl (fun _ => 0))), ((p1 53), .inl (cI, 22, .inl (fun _ => 0)))]) hx hb hK hP hD hS 7 0 1 rfl rfl rfl (Nat.le_of_ble_eq_true rfl) (Nat.le_of_ble_eq_true rfl) rfl rfl dX7_shore_108 (fun H locs hP hD hS => ?_)
  refine lv_aload_n hx hb dX7_shore_109 rfl (lv_at hl 0 rfl) ?_
  refine k_get (D := (dC, dI)) (ci := 7) (v := .ref (p1 31)) (C := RX7) (T := TX7) (N := 92) hx hb hts hinX7 hown hK hP 0 rfl rfl 31 (by decide) w_14 rfl rfl dX7_shore_110 ?_
  refine lv_aload_n hx hb dX7_shore_113 rfl (lv_at hl 0 rfl) ?_
  refine k_get (D := (dC, dI)) (ci := 7) (v := .int 1) (C := RX7) (T := TX7) (N := 92) hx hb hts hinX7 hown hK hP 0 rfl rfl 37 (by decide) w_6 rfl rfl dX7_shore_114 ?_
  refine lv_iconst (v := 0) hx hb dX7_shore_117 (by decide +kernel) ?_
  refine k_iast (g := (upd (fun _ => 0) 1 0)) (ws' := [(p0, .inr (7, oM p1 (upd (upd (upd (upd (upd (upd i7 1 0) 2 0) 5 0) 8 0) 9 (-1)) 37 1) j7)), ((p1 14), .inl (cI, 2, .inl (upd (fun _ => 0) 1 0))), ((p1 18), .inl (cI, 2, .inl (upd (fun _ => 0) 1 0))), ((p1 23), .inl (cI, 2, .inl (upd (fun _ => 0) 1 0))), ((p1 24), .inl (cI, 2, .inl (upd (upd (fun _ => 0) 0 (-1)) 1 (-1)))), ((p1 26), .inl (cI, 2, .inl (upd (upd (fun _ => 0) 0 (-1)) 1 (-1)))), ((p1 28), .inl (cI, 2, .inl (upd (upd (fun _ => 0) 0 (-1)) 1 (-1)))), ((p1 30), .inl (cI, 2, .inl (upd (upd (fun _ => 0) 0 100) 1 100))), ((p1 31), .inl (cI, 2, .inl (upd (fun _ => 0) 1 0))), ((p1 49), .inl (cI, 22, .inl (fun _ => 0))), ((p1 50), .inl (cI, 22, .inl (fun _ => 0))), ((p1 51), .inl (cI, 22, .inl (fun _ => 0))), ((p1 52), .inl (cI, 22, .inl (fun _ => 0))), ((p1 53), .inl (cI, 22, .inl (fun _ => 0)))]) hx hb hK hP hD hS 8 0 1 rfl rfl rfl (Nat.le_of_ble_eq_true rfl) (Nat.le_of_ble_eq_true rfl) rfl rfl dX7_shore_118 (fun H locs hP hD hS => ?_)
  refine lv_aload_n hx hb dX7_shore_119 rfl (lv_at hl 0 rfl) ?_
  refine lv_iconst (v := 0) hx hb dX7_shore_120 (by decide +kernel) ?_
  refine k_put (D := (dC, dI)) (ci := 7) (v := .int 0) (C := RX7) (T := TX7) (N := 92) (ws' := [(p0, .inr (7, oM p1 (upd (upd (upd (upd (upd (upd (upd i7 1 0) 2 0) 5 0) 8 0) 9 (-1)) 36 0) 37 1) j7)), ((p1 14), .inl (cI, 2, .inl (upd (fun _ => 0) 1 0))), ((p1 18), .inl (cI, 2, .inl (upd (fun _ => 0) 1 0))), ((p1 23), .inl (cI, 2, .inl (upd (fun _ => 0) 1 0))), ((p1 24), .inl (cI, 2, .inl (upd (upd (fun _ => 0) 0 (-1)) 1 (-1)))), ((p1 26), .inl (cI, 2, .inl (upd (upd (fun _ => 0) 0 (-1)) 1 (-1)))), ((p1 28), .inl (cI, 2, .inl (upd (upd (fun _ => 0) 0 (-1)) 1 (-1)))), ((p1 30), .inl (cI, 2, .inl (upd (upd (fun _ => 0) 0 100) 1 100))), ((p1 31), .inl (cI, 2, .inl (upd (fun _ => 0) 1 0))), ((p1 49), .inl (cI, 22, .inl (fun _ => 0))), ((p1 50), .inl (cI, 22, .inl (fun _ => 0))), ((p1 51), .inl (cI, 22, .inl (fun _ => 0))), ((p1 52), .inl (cI, 22, .inl (fun _ => 0))), ((p1 53), .inl (cI, 22, .inl (fun _ => 0)))]) hx hb hts hinX7 tyX7 tyX7_ok nmX7 hown hK hP hD hS 0 rfl rfl 36 (by decide) w_15 rfl rfl rfl rfl (Nat.le_of_ble_eq_true rfl) rfl dX7_shore_121 (fun H locs hP hD hS => ?_)
  refine lv_iconst (v := 0) hx hb dX7_shore_124 (by decide +kernel) ?_
  refine lv_istore_n (lv' := [(1, .int 0), (0, .ref p0)]) hx hb dX7_shore_125 rfl hl (by decide) rfl (fun ls hl => ?_)
  refine lv_aload_n hx hb dX7_shore_126 rfl (lv_at hl 1 rfl) ?_
  refine k_cv (wc := [(p0, .inr (7, oM p1 (upd (upd (upd (upd (upd (upd (upd i7 1 0) 2 0) 5 0) 8 0) 9 (-1)) 36 0) 37 1) j7))]) (wr := [((p1 14), .inl (cI, 2, .inl (upd (fun _ => 0) 1 0))), ((p1 18), .inl (cI, 2, .inl (upd (fun _ => 0) 1 0))), ((p1 23), .inl (cI, 2, .inl (upd (fun _ => 0) 1 0))), ((p1 24), .inl (cI, 2, .inl (upd (upd (fun _ => 0) 0 (-1)) 1 (-1)))), ((p1 26), .inl (cI, 2, .inl (upd (upd (fun _ => 0) 0 (-1)) 1 (-1)))), ((p1 28), .inl (cI, 2, .inl (upd (upd (fun _ => 0) 0 (-1)) 1 (-1)))), ((p1 30), .inl (cI, 2, .inl (upd (upd (fun _ => 0) 0 100) 1 100))), ((p1 31), .inl (cI, 2, .inl (upd (fun _ => 0) 1 0))), ((p1 49), .inl (cI, 22, .inl (fun _ => 0))), ((p1 50), .inl (cI, 22, .inl (fun _ => 0))), ((p1 51), .inl (cI, 22, .inl (fun _ => 0))), ((p1 52), .inl (cI, 22, .inl (fun _ => 0))), ((p1 53), .inl (cI, 22, .inl (fun _ => 0)))]) (fun hPc hDc => va_runV (As := []) (rest := []) ⟨hx, hb, hml, hown, hts⟩ (c_X7_ahead_v0 l dC dI cI cJ cZ cM p0 p1 H.size) (cwV 0 hts gX7_shore_X7_ahead rfl rfl rfl (by decide +kernel) ⟨(Nat.le_of_ble_eq_true rfl), (Nat.le_of_ble_eq_true rfl)⟩) (k_pV hPc hDc hK hN hP (q0 := 0) (ci := 7) rfl rfl) rfl rfl hl.1 rfl (lv_room (Nat.le_of_ble_eq_true rfl)) dX7_shore_127 ⟨(Nat.le_of_ble_eq_true rfl), (Nat.le_of_ble_eq_true rfl)⟩) hP hD hS hA [0] [1, 2, 3, 4, 5, 6, 7, 8, 9, 10, 11, 12, 13] rfl rfl rfl rfl (by decide) (fun _ => rfl) 0 0 rfl rfl (fun u_2 H locs hw hP hD hS => ?_)
  have hP : va_P (dC, dI) vwCl [((p1 14), .inl (cI, 2, .inl (upd (fun _ => 0) 1 0))), ((p1 18), .inl (cI, 2, .inl (upd (fun _ => 0) 1 0))), ((p1 23), .inl (cI, 2, .inl (upd (fun _ => 0) 1 0))), ((p1 24), .inl (cI, 2, .inl (upd (upd (fun _ => 0) 0 (-1)) 1 (-1)))), ((p1 26), .inl (cI, 2, .inl (upd (upd (fun _ => 0) 0 (-1)) 1 (-1)))), ((p1 28), .inl (cI, 2, .inl (upd (upd (fun _ => 0) 0 (-1)) 1 (-1)))), ((p1 30), .inl (cI, 2, .inl (upd (upd (fun _ => 0) 0 100) 1 100))), ((p1 31), .inl (cI, 2, .inl (upd (fun _ => 0) 1 0))), ((p1 49), .inl (cI, 22, .inl (fun _ => 0))), ((p1 50), .inl (cI, 22, .inl (fun _ => 0))), ((p1 51), .inl (cI, 22, .inl (fun _ => 0))), ((p1 52), .inl (cI, 22, .inl (fun _ => 0))), ((p1 53), .inl (cI, 22, .inl (fun _ => 0))), (p0, .inr (7, oM p1 (upd (upd (upd (upd (upd (upd (upd (upd (upd (upd i7 1 0) 2 0) 3 0) 4 0) 5 0) 8 0) 9 (-1)) 12 (-1)) 36 0) 37 1) j7))] H := hP
  have hD : va_D A [((p1 14), .inl (cI, 2, .inl (upd (fun _ => 0) 1 0))), ((p1 18), .inl (cI, 2, .inl (upd (fun _ => 0) 1 0))), ((p1 23), .inl (cI, 2, .inl (upd (fun _ => 0) 1 0))), ((p1 24), .inl (cI, 2, .inl (upd (upd (fun _ => 0) 0 (-1)) 1 (-1)))), ((p1 26), .inl (cI, 2, .inl (upd (upd (fun _ => 0) 0 (-1)) 1 (-1)))), ((p1 28), .inl (cI, 2, .inl (upd (upd (fun _ => 0) 0 (-1)) 1 (-1)))), ((p1 30), .inl (cI, 2, .inl (upd (upd (fun _ => 0) 0 100) 1 100))), ((p1 31), .inl (cI, 2, .inl (upd (fun _ => 0) 1 0))), ((p1 49), .inl (cI, 22, .inl (fun _ => 0))), ((p1 50), .inl (cI, 22, .inl (fun _ => 0))), ((p1 51), .inl (cI, 22, .inl (fun _ => 0))), ((p1 52), .inl (cI, 22, .inl (fun _ => 0))), ((p1 53), .inl (cI, 22, .inl (fun _ => 0))), (p0, .inr (7, oM p1 (upd (upd (upd (upd (upd (upd (upd (upd (upd (upd i7 1 0) 2 0) 3 0) 4 0) 5 0) 8 0) 9 (-1)) 12 (-1)) 36 0) 37 1) j7))] := hD
  refine lv_aload_n hx hb dX7_shore_130 rfl (lv_at hl 1 rfl) ?_
  refine k_get (D := (dC, dI)) (ci := 7) (v := .int 0) (C := RX7) (T := TX7) (N := 92) hx hb hts hinX7 hown hK hP 13 rfl rfl 8 (by decide) w_3 rfl rfl dX7_shore_131 ?_
  refine lv_if_ne (tgt := 159) hx hb dX7_shore_134 (by decide) (fun q9 => absurd q9 (by decide +kernel)) (fun _ => ?_)
  refine lv_aload_n hx hb dX7_shore_137 rfl (lv_at hl 1 rfl) ?_
  refine k_get (D := (dC, dI)) (ci := 7) (v := .int 0) (C := RX7) (T := TX7) (N := 92) hx hb hts hinX7 hown hK hP 13 rfl rfl 3 (by decide) w_16 rfl rfl dX7_shore_138 ?_
  refine lv_if_eq (tgt := 159) hx hb dX7_shore_141 (by decide) (fun _ => ?_) (fun q9 => absurd q9 (by decide +kernel))
  refine lv_aload_n hx hb dX7_shore_159 rfl (lv_at hl 1 rfl) ?_
  refine lv_aload_n hx hb dX7_shore_160 rfl (lv_at hl 1 rfl) ?_
  refine k_get (D := (dC, dI)) (ci := 7) (v := .int 0) (C := RX7) (T := TX7) (N := 92) hx hb hts hinX7 hown hK hP 13 rfl rfl 8 (by decide) w_3 rfl rfl dX7_shore_161 ?_
  refine k_put (D := (dC, dI)) (ci := 7) (v := .int 0) (C := RX7) (T := TX7) (N := 92) (ws' := [((p1 14), .inl (cI, 2, .inl (upd (fun _ => 0) 1 0))), ((p1 18), .inl (cI, 2, .inl (upd (fun _ => 0) 1 0))), ((p1 23), .inl (cI, 2, .inl (upd (fun _ => 0) 1 0))), ((p1 24), .inl (cI, 2, .inl (upd (upd (fun _ => 0) 0 (-1)) 1 (-1)))), ((p1 26), .inl (cI, 2, .inl (upd (upd (fun _ => 0) 0 (-1)) 1 (-1)))), ((p1 28), .inl (cI, 2, .inl (upd (upd (fun _ => 0) 0 (-1)) 1 (-1)))), ((p1 30), .inl (cI, 2, .inl (upd (upd (fun _ => 0) 0 100) 1 100))), ((p1 31), .inl (cI, 2, .inl (upd (fun _ => 0) 1 0))), ((p1 49), .inl (cI, 22, .inl (fun _ => 0))), ((p1 50), .inl (cI, 22, .inl (fun _ => 0))), ((p1 51), .inl (cI, 22, .inl (fun _ => 0))), ((p1 52), .inl (cI, 22, .inl (fun _ => 0))), ((p1 53), .inl (cI, 22, .inl (fun _ => 0))), (p0, .inr (7, oM p1 (upd (upd (upd (upd (upd (upd (upd (upd (upd (upd (upd i7 1 0) 2 0) 3 0) 4 0) 5 0) 8 0) 9 (-1)) 10 0) 12 (-1)) 36 0) 37 1) j7))]) hx hb hts hinX7 tyX7 tyX7_ok nmX7 hown hK hP hD hS 13 rfl rfl 10 (by decide) w_17 rfl rfl rfl rfl (Nat.le_of_ble_eq_true rfl) rfl dX7_shore_164 (fun H locs hP hD hS => ?_)
  refine lv_aload_n hx hb dX7_shore_167 rfl (lv_at hl 1 rfl) ?_
  refine lv_aload_n hx hb dX7_shore_168 rfl (lv_at hl 1 rfl) ?_
  refine k_get (D := (dC, dI)) (ci := 7) (v := .int (-1)) (C := RX7) (T := TX7) (N := 92) hx hb hts hinX7 hown hK hP 13 rfl rfl 9 (by decide) w_4 rfl rfl dX7_shore_169 ?_
  refine k_put (D := (dC, dI)) (ci := 7) (v := .int (-1)) (C := RX7) (T := TX7) (N := 92) (ws' := [((p1 14), .inl (cI, 2, .inl (upd (fun _ => 0) 1 0))), ((p1 18), .inl (cI, 2, .inl (upd (fun _ => 0) 1 0))), ((p1 23), .inl (cI, 2, .inl (upd (fun _ => 0) 1 0))), ((p1 24), .inl (cI, 2, .inl (upd (upd (fun _ => 0) 0 (-1)) 1 (-1)))), ((p1 26), .inl (cI, 2, .inl (upd (upd (fun _ => 0) 0 (-1)) 1 (-1)))), ((p1 28), .inl (cI, 2, .inl (upd (upd (fun _ => 0) 0 (-1)) 1 (-1)))), ((p1 30), .inl (cI, 2, .inl (upd (upd (fun _ => 0) 0 100) 1 100))), ((p1 31), .inl (cI, 2, .inl (upd (fun _ => 0) 1 0))), ((p1 49), .inl (cI, 22, .inl (fun _ => 0))), ((p1 50), .inl (cI, 22, .inl (fun _ => 0))), ((p1 51), .inl (cI, 22, .inl (fun _ => 0))), ((p1 52), .inl (cI, 22, .inl (fun _ => 0))), ((p1 53), .inl (cI, 22, .inl (fun _ => 0))), (p0, .inr (7, oM p1 (upd (upd (upd (upd (upd (upd (upd (upd (upd (upd (upd (upd i7 1 0) 2 0) 3 0) 4 0) 5 0) 8 0) 9 (-1)) 10 0) 11 (-1)) 12 (-1)) 36 0) 37 1) j7))]) hx hb hts hinX7 tyX7 tyX7_ok nmX7 hown hK hP hD hS 13 rfl rfl 11 (by decide) w_18 rfl rfl rfl rfl (Nat.le_of_ble_eq_true rfl) rfl dX7_shore_172 (fun H locs hP hD hS => ?_)
  refine lv_aload_n hx hb dX7_shore_175 rfl (lv_at hl 1 rfl) ?_
  refine k_get (D := (dC, dI)) (ci := 7) (v := .int 0) (C := RX7) (T := TX7) (N := 92) hx hb hts hinX7 hown hK hP 13 rfl rfl 8 (by decide) w_3 rfl rfl dX7_shore_176 ?_
  refine lv_if_le (tgt := 188) hx hb dX7_shore_179 (by decide) (fun _ => ?_) (fun q9 => absurd q9 (by decide +kernel))
  refine lv_aload_n hx hb dX7_shore_188 rfl (lv_at hl 1 rfl) ?_
  refine lv_aload_n hx hb dX7_shore_189 rfl (lv_at hl 1 rfl) ?_
  refine k_get (D := (dC, dI)) (ci := 7) (v := .int 1) (C := RX7) (T := TX7) (N := 92) hx hb hts hinX7 hown hK hP 13 rfl rfl 37 (by decide) w_6 rfl rfl dX7_shore_190 ?_
  refine k_put (D := (dC, dI)) (ci := 7) (v := .int 1) (C := RX7) (T := TX7) (N := 92) (ws' := [((p1 14), .inl (cI, 2, .inl (upd (fun _ => 0) 1 0))), ((p1 18), .inl (cI, 2, .inl (upd (fun _ => 0) 1 0))), ((p1 23), .inl (cI, 2, .inl (upd (fun _ => 0) 1 0))), ((p1 24), .inl (cI, 2, .inl (upd (upd (fun _ => 0) 0 (-1)) 1 (-1)))), ((p1 26), .inl (cI, 2, .inl (upd (upd (fun _ => 0) 0 (-1)) 1 (-1)))), ((p1 28), .inl (cI, 2, .inl (upd (upd (fun _ => 0) 0 (-1)) 1 (-1)))), ((p1 30), .inl (cI, 2, .inl (upd (upd (fun _ => 0) 0 100) 1 100))), ((p1 31), .inl (cI, 2, .inl (upd (fun _ => 0) 1 0))), ((p1 49), .inl (cI, 22, .inl (fun _ => 0))), ((p1 50), .inl (cI, 22, .inl (fun _ => 0))), ((p1 51), .inl (cI, 22, .inl (fun _ => 0))), ((p1 52), .inl (cI, 22, .inl (fun _ => 0))), ((p1 53), .inl (cI, 22, .inl (fun _ => 0))), (p0, .inr (7, oM p1 (upd (upd (upd (upd (upd (upd (upd (upd (upd (upd (upd (upd (upd i7 1 0) 2 0) 3 0) 4 0) 5 0) 8 0) 9 (-1)) 10 0) 11 (-1)) 12 (-1)) 13 1) 36 0) 37 1) j7))]) hx hb hts hinX7 tyX7 tyX7_ok nmX7 hown hK hP hD hS 13 rfl rfl 13 (by decide) w_5 rfl rfl rfl rfl (Nat.le_of_ble_eq_true rfl) rfl dX7_shore_193 (fun H locs hP hD hS => ?_)
  refine lv_aload_n hx hb dX7_shore_196 rfl (lv_at hl 1 rfl) ?_
  refine k_cv (wc := [(p0, .inr (7, oM p1 (upd (upd (upd (upd (upd (upd (upd (upd (upd (upd (upd (upd (upd i7 1 0) 2 0) 3 0) 4 0) 5 0) 8 0) 9 (-1)) 10 0) 11 (-1)) 12 (-1)) 13 1) 36 0) 37 1) j7)), ((p1 23), .inl (cI, 2, .inl (upd (fun _ => 0) 1 0))), ((p1 49), .inl (cI, 22, .inl (fun _ => 0))), ((p1 50), .inl (cI, 22, .inl (fun _ => 0))), ((p1 51), .inl (cI, 22, .inl (fun _ => 0))), ((p1 52), .inl (cI, 22, .inl (fun _ => 0))), ((p1 53), .inl (cI, 22, .inl (fun _ => 0)))]) (wr := [((p1 14), .inl (cI, 2, .inl (upd (fun _ => 0) 1 0))), ((p1 18), .inl (cI, 2, .inl (upd (fun _ => 0) 1 0))), ((p1 24), .inl (cI, 2, .inl (upd (upd (fun _ => 0) 0 (-1)) 1 (-1)))), ((p1 26), .inl (cI, 2, .inl (upd (upd (fun _ => 0) 0 (-1)) 1 (-1)))), ((p1 28), .inl (cI, 2, .inl (upd (upd (fun _ => 0) 0 (-1)) 1 (-1)))), ((p1 30), .inl (cI, 2, .inl (upd (upd (fun _ => 0) 0 100) 1 100))), ((p1 31), .inl (cI, 2, .inl (upd (fun _ => 0) 1 0)))]) (fun hPc hDc => va_runV (As := []) (rest := []) ⟨hx, hb, hml, hown, hts⟩ (c_X7_begin_v0 l dC dI cI cJ cZ cM p0 p1 H.size) (cwV 0 hts gX7_shore_X7_begin rfl rfl rfl (by decide +kernel) ⟨(Nat.le_of_ble_eq_true rfl), (Nat.le_of_ble_eq_true rfl)⟩) (k_pV hPc hDc hK hN hP (q0 := 13) (ci := 7) rfl rfl) rfl rfl hl.1 rfl (lv_room (Nat.le_of_ble_eq_true rfl)) dX7_shore_197 ⟨(Nat.le_of_ble_eq_true rfl), (Nat.le_of_ble_eq_true rfl)⟩) hP hD hS hA [13, 2, 8, 9, 10, 11, 12] [0, 1, 3, 4, 5, 6, 7] rfl rfl rfl rfl (by decide) (fun _ => rfl) 0 0 rfl rfl (fun u_4 H locs hw hP hD hS => ?_)
  have hP : va_P (dC, dI) vwCl [((p1 14), .inl (cI, 2, .inl (upd (fun _ => 0) 1 0))), ((p1 18), .inl (cI, 2, .inl (upd (fun _ => 0) 1 0))), ((p1 24), .inl (cI, 2, .inl (upd (upd (fun _ => 0) 0 (-1)) 1 (-1)))), ((p1 26), .inl (cI, 2, .inl (upd (upd (fun _ => 0) 0 (-1)) 1 (-1)))), ((p1 28), .inl (cI, 2, .inl (upd (upd (fun _ => 0) 0 (-1)) 1 (-1)))), ((p1 30), .inl (cI, 2, .inl (upd (upd (fun _ => 0) 0 100) 1 100))), ((p1 31), .inl (cI, 2, .inl (upd (fun _ => 0) 1 0))), (p0, .inr (7, oM p1 (upd (upd (upd (upd (upd (upd (upd (upd (upd (upd (upd (upd (upd (upd (upd (upd (upd i7 1 0) 2 0) 3 0) 4 0) 5 0) 8 0) 9 (-1)) 10 0) 11 (-1)) 12 (-1)) 13 1) 36 0) 37 1) 59 0) 67 (-1)) 77 0) 80 (-1)) j7)), ((p1 23), .inl (cI, 2, .inl (upd (fun _ => 0) 1 0))), ((p1 49), .inl (cI, 22, .inl (upd (fun _ => 0) 0 0))), ((p1 50), .inl (cI, 22, .inl (upd (fun _ => 0) 0 0))), ((p1 51), .inl (cI, 22, .inl (upd (fun _ => 0) 0 0))), ((p1 52), .inl (cI, 22, .inl (upd (fun _ => 0) 0 0))), ((p1 53), .inl (cI, 22, .inl (upd (fun _ => 0) 0 0)))] H := hP
  have hD : va_D A [((p1 14), .inl (cI, 2, .inl (upd (fun _ => 0) 1 0))), ((p1 18), .inl (cI, 2, .inl (upd (fun _ => 0) 1 0))), ((p1 24), .inl (cI, 2, .inl (upd (upd (fun _ => 0) 0 (-1)) 1 (-1)))), ((p1 26), .inl (cI, 2, .inl (upd (upd (fun _ => 0) 0 (-1)) 1 (-1)))), ((p1 28), .inl (cI, 2, .inl (upd (upd (fun _ => 0) 0 (-1)) 1 (-1)))), ((p1 30), .inl (cI, 2, .inl (upd (upd (fun _ => 0) 0 100) 1 100))), ((p1 31), .inl (cI, 2, .inl (upd (fun _ => 0) 1 0))), (p0, .inr (7, oM p1 (upd (upd (upd (upd (upd (upd (upd (upd (upd (upd (upd (upd (upd (upd (upd (upd (upd i7 1 0) 2 0) 3 0) 4 0) 5 0) 8 0) 9 (-1)) 10 0) 11 (-1)) 12 (-1)) 13 1) 36 0) 37 1) 59 0) 67 (-1)) 77 0) 80 (-1)) j7)), ((p1 23), .inl (cI, 2, .inl (upd (fun _ => 0) 1 0))), ((p1 49), .inl (cI, 22, .inl (upd (fun _ => 0) 0 0))), ((p1 50), .inl (cI, 22, .inl (upd (fun _ => 0) 0 0))), ((p1 51), .inl (cI, 22, .inl (upd (fun _ => 0) 0 0))), ((p1 52), .inl (cI, 22, .inl (upd (fun _ => 0) 0 0))), ((p1 53), .inl (cI, 22, .inl (upd (fun _ => 0) 0 0)))] := hD
  refine lv_iload_n hx hb dX7_shore_200 rfl (lv_at hl 0 rfl) ?_
  exact k_ri B hP hD hS dX7_shore_201 () [7, 0, 1, 8, 2, 3, 4, 5, 6, 9, 10, 11, 12, 13] rfl rfl rfl (Nat.le_of_ble_eq_true rfl) (Nat.le_of_ble_eq_true rfl) rfl
