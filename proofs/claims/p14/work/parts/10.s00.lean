set_option maxHeartbeats 8000000 in
set_option maxRecDepth 100000 in
theorem s_X7_put_v0 (l : Launch) (dC : Nat → ClassId) (dI : Nat → Nat → Nat) (cI cJ cZ cM : ClassId) (h : Nat) (r : Nat → Nat) (i : Nat → Int32) (j : Nat → Int64) (x1 : Int32) (f0 : Nat → Int32) (hm1 : iR (i 1) 0 1580) (hI : mR i) (hf0 : aR f0 0 255) : k_Mv l yX7_put wsX7_put ({ frames := 1, cells := 0, slots := 0, locals := 40 }) (dC, dI) vwCl (tyy cI cJ cZ cM) [(h, .inr (7, oM r i j)), ((r 0), .inl (cI, 1800, .inl f0))] [.ref h, .int x1] 0 0 (fun (u9 : SU) => [(h, .inr (7, oM r (upd i 1 (u9.1 0)) j)), ((r 0), .inl (cI, 1800, .inl (u9.2.2.1 0)))]) (fun (u9 : SU) => (iR (u9.1 0) 4 1584) ∧ (aR (u9.2.2.1 0) 0 255)) := by
  refine fun sz => k_enter (cc := cX7_put) (maxL := 3) (ret := none) (Qc := fun A => va_Qv (fun (u9 : SU) => (iR (u9.1 0) 4 1584) ∧ (aR (u9.2.2.1 0) 0 255)) (fun u => k_B (dC, dI) vwCl (tyy cI cJ cZ cM) A ((fun (u9 : SU) => [(h, .inr (7, oM r (upd i 1 (u9.1 0)) j)), ((r 0), .inl (cI, 1800, .inl (u9.2.2.1 0)))]) u)) A) sz (by decide +kernel) rfl (Nat.le_of_ble_eq_true rfl) (fun p e s m args below meth c A ls H locs B hP hD hS hl => ?_)
  obtain ⟨hx, hb, hml, hown, hts, hr, hlk, hnm, hK, hA, hN, hC⟩ := id B
  have hown : s.vm.findClass RX7 = some m.cls := hown
  have hl : lv_has ls 3 [(0, .ref h), (1, .int x1)] := hl
  have w_0 : (Cond.fieldLink RX7 7 "WishSeaModel" "tape" "[I").before args s = true := hts _ (List.mem_of_getElem? (i := 1) rfl)
  have w_1 : (Cond.fieldLink RX7 13 "WishSeaModel" "taped" "I").before args s = true := hts _ (List.mem_of_getElem? (i := 2) rfl)
  have hinX7 : ∀ w ∈ u_ws RX7 TX7 92, w ∈ wsX7_put := fun _ h => List.mem_cons_of_mem _ (List.mem_append_right _ h)
  refine lv_bipush (v := 24) hx hb dX7_put_0 (by decide +kernel) ?_
  refine lv_istore_n (lv' := [(2, .int 24), (0, .ref h), (1, .int x1)]) hx hb dX7_put_2 rfl hl (by decide) rfl (fun ls hl => ?_)
  refine lv_iload_n hx hb dX7_put_3 rfl (lv_at hl 0 rfl) ?_
  refine lv_if_lt (tgt := 39) hx hb dX7_put_4 (by decide) (fun q9 => absurd q9 (by decide +kernel)) (fun _ => ?_)
  refine lv_aload_n hx hb dX7_put_7 rfl (lv_at hl 1 rfl) ?_
  refine k_get (D := (dC, dI)) (ci := 7) (v := .ref (r 0)) (C := RX7) (T := TX7) (N := 92) hx hb hts hinX7 hown hK hP 0 rfl rfl 0 (by decide) w_0 rfl rfl dX7_put_8 ?_
  refine lv_aload_n hx hb dX7_put_11 rfl (lv_at hl 1 rfl) ?_
  refine k_get (D := (dC, dI)) (ci := 7) (v := .int (i 1)) (C := RX7) (T := TX7) (N := 92) hx hb hts hinX7 hown hK hP 0 rfl rfl 1 (by decide) w_1 rfl rfl dX7_put_12 ?_
  refine lv_iload_n hx hb dX7_put_15 rfl (lv_at hl 2 rfl) ?_
  refine lv_iload_n hx hb dX7_put_16 rfl (lv_at hl 0 rfl) ?_
  refine lv_ishr hx hb dX7_put_17 ?_
  refine lv_topi (fun y_17p2 ey_17p2 => ?_)
  refine lv_sipush (v := 255) hx hb dX7_put_18 (by decide +kernel) ?_
  refine lv_iand hx hb dX7_put_21 ?_
  refine lv_topi (fun y_21p2 ey_21p2 => ?_)
  have f_21p2_1 : iR y_21p2 0 255 := iR_andR ey_21p2 (iR_c (n := 255) (a := 255) (b := 255) (by decide +kernel) (by decide +kernel)) (by decide +kernel)
  refine s_iast (g := (upd f0 (i 1).toNatClampNeg y_21p2)) (ws' := [(h, .inr (7, oM r i j)), ((r 0), .inl (cI, 1800, .inl (upd f0 (i 1).toNatClampNeg y_21p2)))]) hx hb hK hP hD hS 1 0 rfl rfl (iR_vp hm1 (by decide +kernel)) rfl rfl dX7_put_22 (fun H locs hP hD hS => ?_)
  refine lv_aload_n hx hb dX7_put_23 rfl (lv_at hl 1 rfl) ?_
  refine lv_dup hx hb dX7_put_24 rfl ?_
  refine k_get (D := (dC, dI)) (ci := 7) (v := .int (i 1)) (C := RX7) (T := TX7) (N := 92) hx hb hts hinX7 hown hK hP 0 rfl rfl 1 (by decide) w_1 rfl rfl dX7_put_25 ?_
  refine lv_iconst (v := 1) hx hb dX7_put_28 (by decide +kernel) ?_
  refine lv_iadd hx hb dX7_put_29 ?_
  refine lv_topi (fun y_29p2 ey_29p2 => ?_)
  have f_29p2_2 : iR y_29p2 1 1581 := iR_add ey_29p2 hm1 (iR_c (n := 1) (a := 1) (b := 1) (by decide +kernel) (by decide +kernel)) (by decide +kernel)
  refine k_put (D := (dC, dI)) (ci := 7) (v := .int y_29p2) (C := RX7) (T := TX7) (N := 92) (ws' := [(h, .inr (7, oM r (upd i 1 y_29p2) j)), ((r 0), .inl (cI, 1800, .inl (upd f0 (i 1).toNatClampNeg y_21p2)))]) hx hb hts hinX7 tyX7 tyX7_ok nmX7 hown hK hP hD hS 0 rfl rfl 1 (by decide) w_1 rfl rfl rfl rfl (Nat.le_of_ble_eq_true rfl) rfl dX7_put_30 (fun H locs hP hD hS => ?_)
  refine lv_iinc (v := 16) (lv' := [(2, .int 16), (0, .ref h), (1, .int x1)]) hx hb dX7_put_33 hl (k := 0) rfl (by decide +kernel) (by decide) rfl (fun ls hl => ?_)
  refine lv_goto (tgt := 3) hx hb dX7_put_36 (by decide) ?_
  refine lv_iload_n hx hb dX7_put_3 rfl (lv_at hl 0 rfl) ?_
  refine lv_if_lt (tgt := 39) hx hb dX7_put_4 (by decide) (fun q9 => absurd q9 (by decide +kernel)) (fun _ => ?_)
  refine lv_aload_n hx hb dX7_put_7 rfl (lv_at hl 1 rfl) ?_
  refine k_get (D := (dC, dI)) (ci := 7) (v := .ref (r 0)) (C := RX7) (T := TX7) (N := 92) hx hb hts hinX7 hown hK hP 0 rfl rfl 0 (by decide) w_0 rfl rfl dX7_put_8 ?_
  refine lv_aload_n hx hb dX7_put_11 rfl (lv_at hl 1 rfl) ?_
  refine k_get (D := (dC, dI)) (ci := 7) (v := .int y_29p2) (C := RX7) (T := TX7) (N := 92) hx hb hts hinX7 hown hK hP 0 rfl rfl 1 (by decide) w_1 rfl rfl dX7_put_12 ?_
  refine lv_iload_n hx hb dX7_put_15 rfl (lv_at hl 2 rfl) ?_
  refine lv_iload_n hx hb dX7_put_16 rfl (lv_at hl 0 rfl) ?_
  refine lv_ishr hx hb dX7_put_17 ?_
  refine lv_topi (fun y_17p2p36 ey_17p2p36 => ?_)
  refine lv_sipush (v := 255) hx hb dX7_put_18 (by decide +kernel) ?_
  refine lv_iand hx hb dX7_put_21 ?_
  refine lv_topi (fun y_21p2p36 ey_21p2p36 => ?_)
  have f_21p2p36_3 : iR y_21p2p36 0 255 := iR_andR ey_21p2p36 (iR_c (n := 255) (a := 255) (b := 255) (by decide +kernel) (by decide +kernel)) (by decide +kernel)
  refine s_iast (g := (upd (upd f0 (i 1).toNatClampNeg y_21p2) y_29p2.toNatClampNeg y_21p2p36)) (ws' := [(h, .inr (7, oM r (upd i 1 y_29p2) j)), ((r 0), .inl (cI, 1800, .inl (upd (upd f0 (i 1).toNatClampNeg y_21p2) y_29p2.toNatClampNeg y_21p2p36)))]) hx hb hK hP hD hS 1 0 rfl rfl (iR_vp f_29p2_2 (by decide +kernel)) rfl rfl dX7_put_22 (fun H locs hP hD hS => ?_)
  refine lv_aload_n hx hb dX7_put_23 rfl (lv_at hl 1 rfl) ?_
  refine lv_dup hx hb dX7_put_24 rfl ?_
  refine k_get (D := (dC, dI)) (ci := 7) (v := .int y_29p2) (C := RX7) (T := TX7) (N := 92) hx hb hts hinX7 hown hK hP 0 rfl rfl 1 (by decide) w_1 rfl rfl dX7_put_25 ?_
  refine lv_iconst (v := 1) hx hb dX7_put_28 (by decide +kernel) ?_
  refine lv_iadd hx hb dX7_put_29 ?_
  refine lv_topi (fun y_29p2p36 ey_29p2p36 => ?_)
  have f_29p2p36_4 : iR y_29p2p36 2 1582 := iR_add ey_29p2p36 f_29p2_2 (iR_c (n := 1) (a := 1) (b := 1) (by decide +kernel) (by decide +kernel)) (by decide +kernel)
  refine k_put (D := (dC, dI)) (ci := 7) (v := .int y_29p2p36) (C := RX7) (T := TX7) (N := 92) (ws' := [(h, .inr (7, oM r (upd i 1 y_29p2p36) j)), ((r 0), .inl (cI, 1800, .inl (upd (upd f0 (i 1).toNatClampNeg y_21p2) y_29p2.toNatClampNeg y_21p2p36)))]) hx hb hts hinX7 tyX7 tyX7_ok nmX7 hown hK hP hD hS 0 rfl rfl 1 (by decide) w_1 rfl rfl rfl rfl (Nat.le_of_ble_eq_true rfl) rfl dX7_put_30 (fun H locs hP hD hS => ?_)
  refine lv_iinc (v := 8) (lv' := [(2, .int 8), (0, .ref h), (1, .int x1)]) hx hb dX7_put_33 hl (k := 0) rfl (by decide +kernel) (by decide) rfl (fun ls hl => ?_)
  refine lv_goto (tgt := 3) hx hb dX7_put_36 (by decide) ?_
  refine lv_iload_n hx hb dX7_put_3 rfl (lv_at hl 0 rfl) ?_
  refine lv_if_lt (tgt := 39) hx hb dX7_put_4 (by decide) (fun q9 => absurd q9 (by decide +kernel)) (fun _ => ?_)
  refine lv_aload_n hx hb dX7_put_7 rfl (lv_at hl 1 rfl) ?_
  refine k_get (D := (dC, dI)) (ci := 7) (v := .ref (r 0)) (C := RX7) (T := TX7) (N := 92) hx hb hts hinX7 hown hK hP 0 rfl rfl 0 (by decide) w_0 rfl rfl dX7_put_8 ?_
  refine lv_aload_n hx hb dX7_put_11 rfl (lv_at hl 1 rfl) ?_
  refine k_get (D := (dC, dI)) (ci := 7) (v := .int y_29p2p36) (C := RX7) (T := TX7) (N := 92) hx hb hts hinX7 hown hK hP 0 rfl rfl 1 (by decide) w_1 rfl rfl dX7_put_12 ?_
  refine lv_iload_n hx hb dX7_put_15 rfl (lv_at hl 2 rfl) ?_
  refine lv_iload_n hx hb dX7_put_16 rfl (lv_at hl 0 rfl) ?_
  refine lv_ishr hx hb dX7_put_17 ?_
  refine lv_topi (fun y_17p2p36p36 ey_17p2p36p36 => ?_)
  refine lv_sipush (v := 255) hx hb dX7_put_18 (by decide +kernel) ?_
  refine lv_iand hx hb dX7_put_21 ?_
  refine lv_topi (fun y_21p2p36p36 ey_21p2p36p36 => ?_)
  have f_21p2p36p36_5 : iR y_21p2p36p36 0 255 := iR_andR ey_21p2p36p36 (iR_c (n := 255) (a := 255) (b := 255) (by decide +kernel) (by decide +kernel)) (by decide +kernel)
  refine s_iast (g := (upd (upd (upd f0 (i 1).toNatClampNeg y_21p2) y_29p2.toNatClampNeg y_21p2p36) y_29p2p36.toNatClampNeg y_21p2p36p36)) (ws' := [(h, .inr (7, oM r (upd i 1 y_29p2p36) j)), ((r 0), .inl (cI, 1800, .inl (upd (upd (upd f0 (i 1).toNatClampNeg y_21p2) y_29p2.toNatClampNeg y_21p2p36) y_29p2p36.toNatClampNeg y_21p2p36p36)))]) hx hb hK hP hD hS 1 0 rfl rfl (iR_vp f_29p2p36_4 (by decide +kernel)) rfl rfl dX7_put_22 (fun H locs hP hD hS => ?_)
  refine lv_aload_n hx hb dX7_put_23 rfl (lv_at hl 1 rfl) ?_
  refine lv_dup hx hb dX7_put_24 rfl ?_
  refine k_get (D := (dC, dI)) (ci := 7) (v := .int y_29p2p36) (C := RX7) (T := TX7) (N := 92) hx hb hts hinX7 hown hK hP 0 rfl rfl 1 (by decide) w_1 rfl rfl dX7_put_25 ?_
  refine lv_iconst (v := 1) hx hb dX7_put_28 (by decide +kernel) ?_
  refine lv_iadd hx hb dX7_put_29 ?_
  refine lv_topi (fun y_29p2p36p36 ey_29p2p36p36 => ?_)
  have f_29p2p36p36_6 : iR y_29p2p36p36 3 1583 := iR_add ey_29p2p36p36 f_29p2p36_4 (iR_c (n := 1) (a := 1) (b := 1) (by decide +kernel) (by decide +kernel)) (by decide +kernel)
  refine k_put (D := (dC, dI)) (ci := 7) (v := .int y_29p2p36p36) (C := RX7) (T := TX7) (N := 92) (ws' := [(h, .inr (7, oM r (upd i 1 y_29p2p36p36) j)), ((r 0), .inl (cI, 1800, .inl (upd (upd (upd f0 (i 1).toNatClampNeg y_21p2) y_29p2.toNatClampNeg y_21p2p36) y_29p2p36.toNatClampNeg y_21p2p36p36)))]) hx hb hts hinX7 tyX7 tyX7_ok nmX7 hown hK hP hD hS 0 rfl rfl 1 (by decide) w_1 rfl rfl rfl rfl (Nat.le_of_ble_eq_true rfl) rfl dX7_put_30 (fun H locs hP hD hS => ?_)
  refine lv_iinc (v := 0) (lv' := [(2, .int 0), (0, .ref h), (1, .int x1)]) hx hb dX7_put_33 hl (k := 0) rfl (by decide +kernel) (by decide) rfl (fun ls hl => ?_)
  refine lv_goto (tgt := 3) hx hb dX7_put_36 (by decide) ?_
  refine lv_iload_n hx hb dX7_put_3 rfl (lv_at hl 0 rfl) ?_
  refine lv_if_lt (tgt := 39) hx hb dX7_put_4 (by decide) (fun q9 => absurd q9 (by decide +kernel)) (fun _ => ?_)
  refine lv_aload_n hx hb dX7_put_7 rfl (lv_at hl 1 rfl) ?_
  refine k_get (D := (dC, dI)) (ci := 7) (v := .ref (r 0)) (C := RX7) (T := TX7) (N := 92) hx hb hts hinX7 hown hK hP 0 rfl rfl 0 (by decide) w_0 rfl rfl dX7_put_8 ?_
  refine lv_aload_n hx hb dX7_put_11 rfl (lv_at hl 1 rfl) ?_
  refine k_get (D := (dC, dI)) (ci := 7) (v := .int y_29p2p36p36) (C := RX7) (T := TX7) (N := 92) hx hb hts hinX7 hown hK hP 0 rfl rfl 1 (by decide) w_1 rfl rfl dX7_put_12 ?_
  refine lv_iload_n hx hb dX7_put_15 rfl (lv_at hl 2 rfl) ?_
  refine lv_iload_n hx hb dX7_put_16 rfl (lv_at hl 0 rfl) ?_
  refine lv_ishr hx hb dX7_put_17 ?_
  refine lv_topi (fun y_17p2p36p36p36 ey_17p2p36p36p36 => ?_)
  refine lv_sipush (v := 255) hx hb dX7_put_18 (by decide +kernel) ?_
  refine lv_iand hx hb dX7_put_21 ?_
  refine lv_topi (fun y_21p2p36p36p36 ey_21p2p36p36p36 => ?_)
  have f_21p2p36p36p36_7 : iR y_21p2p36p36p36 0 255 := iR_andR ey_21p2p36p36p36 (iR_c (n := 255) (a := 255) (b := 255) (by decide +kernel) (by decide +kernel)) (by decide +kernel)
  refine s_iast (g := (upd (upd (upd (upd f0 (i 1).toNatClampNeg y_21p2) y_29p2.toNatClampNeg y_21p2p36) y_29p2p36.toNatClampNeg y_21p2p36p36) y_29p2p36p36.toNatClampNeg y_21p2p36p36p36)) (ws' := [(h, .inr (7, oM r (upd i 1 y_29p2p36p36) j)), ((r 0), .inl (cI, 1800, .inl (upd (upd (upd (upd f0 (i 1).toNatClampNeg y_21p2) y_29p2.toNatClampNeg y_21p2p36) y_29p2p36.toNatClampNeg y_21p2p36p36) y_29p2p36p36.toNatClampNeg y_21p2p36p36p36)))]) hx hb hK hP hD hS 1 0 rfl rfl (iR_vp f_29p2p36p36_6 (by decide +kernel)) rfl rfl dX7_put_22 (fun H locs hP hD hS => ?_)
  refine lv_aload_n hx hb dX7_put_23 rfl (lv_at hl 1 rfl) ?_
  refine lv_dup hx hb dX7_put_24 rfl ?_
  refine k_get (D := (dC, dI)) (ci := 7) (v := .int y_29p2p36p36) (C := RX7) (T := TX7) (N := 92) hx hb hts hinX7 hown hK hP 0 rfl rfl 1 (by decide) w_1 rfl rfl dX7_put_25 ?_
  refine lv_iconst (v := 1) hx hb dX7_put_28 (by decide +kernel) ?_
  refine lv_iadd hx hb dX7_put_29 ?_
  refine lv_topi (fun y_29p2p36p36p36 ey_29p2p36p36p36 => ?_)
  have f_29p2p36p36p36_8 : iR y_29p2p36p36p36 4 1584 := iR_add ey_29p2p36p36p36 f_29p2p36p36_6 (iR_c (n := 1) (a := 1) (b := 1) (by decide +kernel) (by decide +kernel)) (by decide +kernel)
  refine k_put (D := (dC, dI)) (ci := 7) (v := .int y_29p2p36p36p36) (C := RX7) (T := TX7) (N := 92) (ws' := [(h, .inr (7, oM r (upd i 1 y_29p2p36p36p36) j)), ((r 0), .inl (cI, 1800, .inl (upd (upd (upd (upd f0 (i 1).toNatClampNeg y_21p2) y_29p2.toNatClampNeg y_21p2p36) y_29p2p36.toNatClampNeg y_21p2p36p36) y_29p2p36p36.toNatClampNeg y_21p2p36p36p36)))]) hx hb hts hinX7 tyX7 tyX7_ok nmX7 hown hK hP hD hS 0 rfl rfl 1 (by decide) w_1 rfl rfl rfl rfl (Nat.le_of_ble_eq_true rfl) rfl dX7_put_30 (fun H locs hP hD hS => ?_)
  refine lv_iinc (v := (-8)) (lv' := [(2, .int (-8)), (0, .ref h), (1, .int x1)]) hx hb dX7_put_33 hl (k := 0) rfl (by decide +kernel) (by decide) rfl (fun ls hl => ?_)
  refine lv_goto (tgt := 3) hx hb dX7_put_36 (by decide) ?_
  refine lv_iload_n hx hb dX7_put_3 rfl (lv_at hl 0 rfl) ?_
  refine lv_if_lt (tgt := 39) hx hb dX7_put_4 (by decide) (fun _ => ?_) (fun q9 => absurd q9 (by decide +kernel))
  exact k_rv B hP hD hS dX7_put_39 ((fun k9 => match k9 with | 0 => y_29p2p36p36p36 | _ => 0), (fun _ => 0), (fun k9 => match k9 with | 0 => (upd (upd (upd (upd f0 (i 1).toNatClampNeg y_21p2) y_29p2.toNatClampNeg y_21p2p36) y_29p2p36.toNatClampNeg y_21p2p36p36) y_29p2p36p36.toNatClampNeg y_21p2p36p36p36) | _ => (fun _ => 0)), (fun _ => (fun _ => 0)), (fun _ => 0)) [0, 1] rfl rfl (Nat.le_of_ble_eq_true rfl) (Nat.le_of_ble_eq_true rfl) ⟨(show iR y_29p2p36p36p36 4 1584 from f_29p2p36p36p36_8), (show aR (upd (upd (upd (upd f0 (i 1).toNatClampNeg y_21p2) y_29p2.toNatClampNeg y_21p2p36) y_29p2p36.toNatClampNeg y_21p2p36p36) y_29p2p36p36.toNatClampNeg y_21p2p36p36p36) 0 255 from (aR_upd _ (aR_upd _ (aR_upd _ (aR_upd _ hf0 f_21p2_1) f_21p2p36_3) f_21p2p36p36_5) f_21p2p36p36p36_7))⟩
set_option maxHeartbeats 8000000 in
set_option maxRecDepth 100000 in
theorem s_X7_put_v1 (l : Launch) (dC : Nat → ClassId) (dI : Nat → Nat → Nat) (cI cJ cZ cM : ClassId) (h : Nat) (r : Nat → Nat) (i : Nat → Int32) (j : Nat → Int64) (x1 : Int32) (f0 : Nat → Int32) (hm1 : iR (i 1) 4 1584) (hI : mR i) (hf0 : aR f0 0 255) : k_Mv l yX7_put wsX7_put ({ frames := 1, cells := 0, slots := 0, locals := 40 }) (dC, dI) vwCl (tyy cI cJ cZ cM) [(h, .inr (7, oM r i j)), ((r 0), .inl (cI, 1800, .inl f0))] [.ref h, .int x1] 0 0 (fun (u9 : SU) => [(h, .inr (7, oM r (upd i 1 (u9.1 0)) j)), ((r 0), .inl (cI, 1800, .inl (u9.2.2.1 0)))]) (fun (u9 : SU) => (iR (u9.1 0) 8 1588) ∧ (aR (u9.2.2.1 0) 0 255)) := by
  refine fun sz => k_enter (cc := cX7_put) (maxL := 3) (ret := none) (Qc := fun A => va_Qv (fun (u9 : SU) => (iR (u9.1 0) 8 1588) ∧ (aR (u9.2.2.1 0) 0 255)) (fun u => k_B (dC, dI) vwCl (tyy cI cJ cZ cM) A ((fun (u9 : SU) => [(h, .inr (7, oM r (upd i 1 (u9.1 0)) j)), ((r 0), .inl (cI, 1800, .inl (u9.2.2.1 0)))]) u)) A) sz (by decide +kernel) rfl (Nat.le_of_ble_eq_true rfl) (fun p e s m args below meth c A ls H locs B hP hD hS hl => ?_)
  obtain ⟨hx, hb, hml, hown, hts, hr, hlk, hnm, hK, hA, hN, hC⟩ := id B
  have hown : s.vm.findClass RX7 = some m.cls := hown
  have hl : lv_has ls 3 [(0, .ref h), (1, .int x1)] := hl
  have w_0 : (Cond.fieldLink RX7 7 "WishSeaModel" "tape" "[I").before args s = true := hts _ (List.mem_of_getElem? (i := 1) rfl)
  have w_1 : (Cond.fieldLink RX7 13 "WishSeaModel" "taped" "I").before args s = true := hts _ (List.mem_of_getElem? (i := 2) rfl)
  have hinX7 : ∀ w ∈ u_ws RX7 TX7 92, w ∈ wsX7_put := fun _ h => List.mem_cons_of_mem _ (List.mem_append_right _ h)
  refine lv_bipush (v := 24) hx hb dX7_put_0 (by decide +kernel) ?_
  refine lv_istore_n (lv' := [(2, .int 24), (0, .ref h), (1, .int x1)]) hx hb dX7_put_2 rfl hl (by decide) rfl (fun ls hl => ?_)
  refine lv_iload_n hx hb dX7_put_3 rfl (lv_at hl 0 rfl) ?_
  refine lv_if_lt (tgt := 39) hx hb dX7_put_4 (by decide) (fun q9 => absurd q9 (by decide +kernel)) (fun _ => ?_)
  refine lv_aload_n hx hb dX7_put_7 rfl (lv_at hl 1 rfl) ?_
  refine k_get (D := (dC, dI)) (ci := 7) (v := .ref (r 0)) (C := RX7) (T := TX7) (N := 92) hx hb hts hinX7 hown hK hP 0 rfl rfl 0 (by decide) w_0 rfl rfl dX7_put_8 ?_
  refine lv_aload_n hx hb dX7_put_11 rfl (lv_at hl 1 rfl) ?_
  refine k_get (D := (dC, dI)) (ci := 7) (v := .int (i 1)) (C := RX7) (T := TX7) (N := 92) hx hb hts hinX7 hown hK hP 0 rfl rfl 1 (by decide) w_1 rfl rfl dX7_put_12 ?_
  refine lv_iload_n hx hb dX7_put_15 rfl (lv_at hl 2 rfl) ?_
  refine lv_iload_n hx hb dX7_put_16 rfl (lv_at hl 0 rfl) ?_
  refine lv_ishr hx hb dX7_put_17 ?_
  refine lv_topi (fun y_17p2 ey_17p2 => ?_)
  refine lv_sipush (v := 255) hx hb dX7_put_18 (by decide +kernel) ?_
  refine lv_iand hx hb dX7_put_21 ?_
  refine lv_topi (fun y_21p2 ey_21p2 => ?_)
  have f_21p2_1 : iR y_21p2 0 255 := iR_andR ey_21p2 (iR_c (n := 255) (a := 255) (b := 255) (by decide +kernel) (by decide +kernel)) (by decide +kernel)
  refine s_iast (g := (upd f0 (i 1).toNatClampNeg y_21p2)) (ws' := [(h, .inr (7, oM r i j)), ((r 0), .inl (cI, 1800, .inl (upd f0 (i 1).toNatClampNeg y_21p2)))]) hx hb hK hP hD hS 1 0 rfl rfl (iR_vp hm1 (by decide +kernel)) rfl rfl dX7_put_22 (fun H locs hP hD hS => ?_)
  refine lv_aload_n hx hb dX7_put_23 rfl (lv_at hl 1 rfl) ?_
  refine lv_dup hx hb dX7_put_24 rfl ?_
  refine k_get (D := (dC, dI)) (ci := 7) (v := .int (i 1)) (C := RX7) (T := TX7) (N := 92) hx hb hts hinX7 hown hK hP 0 rfl rfl 1 (by decide) w_1 rfl rfl dX7_put_25 ?_
  refine lv_iconst (v := 1) hx hb dX7_put_28 (by decide +kernel) ?_
  refine lv_iadd hx hb dX7_put_29 ?_
  refine lv_topi (fun y_29p2 ey_29p2 => ?_)
  have f_29p2_2 : iR y_29p2 5 1585 := iR_add ey_29p2 hm1 (iR_c (n := 1) (a := 1) (b := 1) (by decide +kernel) (by decide +kernel)) (by decide +kernel)
  refine k_put (D := (dC, dI)) (ci := 7) (v := .int y_29p2) (C := RX7) (T := TX7) (N := 92) (ws' := [(h, .inr (7, oM r (upd i 1 y_29p2) j)), ((r 0), .inl (cI, 1800, .inl (upd f0 (i 1).toNatClampNeg y_21p2)))]) hx hb hts hinX7 tyX7 tyX7_ok nmX7 hown hK hP hD hS 0 rfl rfl 1 (by decide) w_1 rfl rfl rfl rfl (Nat.le_of_ble_eq_true rfl) rfl dX7_put_30 (fun H locs hP hD hS => ?_)
  refine lv_iinc (v := 16) (lv' := [(2, .int 16), (0, .ref h), (1, .int x1)]) hx hb dX7_put_33 hl (k := 0) rfl (by decide +kernel) (by decide) rfl (fun ls hl => ?_)
  refine lv_goto (tgt := 3) hx hb dX7_put_36 (by decide) ?_
  refine lv_iload_n hx hb dX7_put_3 rfl (lv_at hl 0 rfl) ?_
  refine lv_if_lt (tgt := 39) hx hb dX7_put_4 (by decide) (fun q9 => absurd q9 (by decide +kernel)) (fun _ => ?_)
  refine lv_aload_n hx hb dX7_put_7 rfl (lv_at hl 1 rfl) ?_
  refine k_get (D := (dC, dI)) (ci := 7) (v := .ref (r 0)) (C := RX7) (T := TX7) (N := 92) hx hb hts hinX7 hown hK hP 0 rfl rfl 0 (by decide) w_0 rfl rfl dX7_put_8 ?_
  refine lv_aload_n hx hb dX7_put_11 rfl (lv_at hl 1 rfl) ?_
  refine k_get (D := (dC, dI)) (ci := 7) (v := .int y_29p2) (C := RX7) (T := TX7) (N := 92) hx hb hts hinX7 hown hK hP 0 rfl rfl 1 (by decide) w_1 rfl rfl dX7_put_12 ?_
  refine lv_iload_n hx hb dX7_put_15 rfl (lv_at hl 2 rfl) ?_
  refine lv_iload_n hx hb dX7_put_16 rfl (lv_at hl 0 rfl) ?_
  refine lv_ishr hx hb dX7_put_17 ?_
  refine lv_topi (fun y_17p2p36 ey_17p2p36 => ?_)
  refine lv_sipush (v := 255) hx hb dX7_put_18 (by decide +kernel) ?_
  refine lv_iand hx hb dX7_put_21 ?_
  refine lv_topi (fun y_21p2p36 ey_21p2p36 => ?_)
  have f_21p2p36_3 : iR y_21p2p36 0 255 := iR_andR ey_21p2p36 (iR_c (n := 255) (a := 255) (b := 255) (by decide +kernel) (by decide +kernel)) (by decide +kernel)
  refine s_iast (g := (upd (upd f0 (i 1).toNatClampNeg y_21p2) y_29p2.toNatClampNeg y_21p2p36)) (ws' := [(h, .inr (7, oM r (upd i 1 y_29p2) j)), ((r 0), .inl (cI, 1800, .inl (upd (upd f0 (i 1).toNatClampNeg y_21p2) y_29p2.toNatClampNeg y_21p2p36)))]) hx hb hK hP hD hS 1 0 rfl rfl (iR_vp f_29p2_2 (by decide +kernel)) rfl rfl dX7_put_22 (fun H locs hP hD hS => ?_)
  refine lv_aload_n hx hb dX7_put_23 rfl (lv_at hl 1 rfl) ?_
  refine lv_dup hx hb dX7_put_24 rfl ?_
  refine k_get (D := (dC, dI)) (ci := 7) (v := .int y_29p2) (C := RX7) (T := TX7) (N := 92) hx hb hts hinX7 hown hK hP 0 rfl rfl 1 (by decide) w_1 rfl rfl dX7_put_25 ?_
  refine lv_iconst (v := 1) hx hb dX7_put_28 (by decide +kernel) ?_
  refine lv_iadd hx hb dX7_put_29 ?_
  refine lv_topi (fun y_29p2p36 ey_29p2p36 => ?_)
  have f_29p2p36_4 : iR y_29p2p36 6 1586 := iR_add ey_29p2p36 f_29p2_2 (iR_c (n := 1) (a := 1) (b := 1) (by decide +kernel) (by decide +kernel)) (by decide +kernel)
  refine k_put (D := (dC, dI)) (ci := 7) (v := .int y_29p2p36) (C := RX7) (T := TX7) (N := 92) (ws' := [(h, .inr (7, oM r (upd i 1 y_29p2p36) j)), ((r 0), .inl (cI, 1800, .inl (upd (upd f0 (i 1).toNatClampNeg y_21p2) y_29p2.toNatClampNeg y_21p2p36)))]) hx hb hts hinX7 tyX7 tyX7_ok nmX7 hown hK hP hD hS 0 rfl rfl 1 (by decide) w_1 rfl rfl rfl rfl (Nat.le_of_ble_eq_true rfl) rfl dX7_put_30 (fun H locs hP hD hS => ?_)
  refine lv_iinc (v := 8) (lv' := [(2, .int 8), (0, .ref h), (1, .int x1)]) hx hb dX7_put_33 hl (k := 0) rfl (by decide +kernel) (by decide) rfl (fun ls hl => ?_)
  refine lv_goto (tgt := 3) hx hb dX7_put_36 (by decide) ?_
  refine lv_iload_n hx hb dX7_put_3 rfl (lv_at hl 0 rfl) ?_
  refine lv_if_lt (tgt := 39) hx hb dX7_put_4 (by decide) (fun q9 => absurd q9 (by decide +kernel)) (fun _ => ?_)
  refine lv_aload_n hx hb dX7_put_7 rfl (lv_at hl 1 rfl) ?_
  refine k_get (D := (dC, dI)) (ci := 7) (v := .ref (r 0)) (C := RX7) (T := TX7) (N := 92) hx hb hts hinX7 hown hK hP 0 rfl rfl 0 (by decide) w_0 rfl rfl dX7_put_8 ?_
  refine lv_aload_n hx hb dX7_put_11 rfl (lv_at hl 1 rfl) ?_
  refine k_get (D := (dC, dI)) (ci := 7) (v := .int y_29p2p36) (C := RX7) (T := TX7) (N := 92) hx hb hts hinX7 hown hK hP 0 rfl rfl 1 (by decide) w_1 rfl rfl dX7_put_12 ?_
  refine lv_iload_n hx hb dX7_put_15 rfl (lv_at hl 2 rfl) ?_
  refine lv_iload_n hx hb dX7_put_16 rfl (lv_at hl 0 rfl) ?_
  refine lv_ishr hx hb dX7_put_17 ?_
  refine lv_topi (fun y_17p2p36p36 ey_17p2p36p36 => ?_)
  refine lv_sipush (v := 255) hx hb dX7_put_18 (by decide +kernel) ?_
  refine lv_iand hx hb dX7_put_21 ?_
  refine lv_topi (fun y_21p2p36p36 ey_21p2p36p36 => ?_)
  have f_21p2p36p36_5 : iR y_21p2p36p36 0 255 := iR_andR ey_21p2p36p36 (iR_c (n := 255) (a := 255) (b := 255) (by decide +kernel) (by decide +kernel)) (by decide +kernel)
  refine s_iast (g := (upd (upd (upd f0 (i 1).toNatClampNeg y_21p2) y_29p2.toNatClampNeg y_21p2p36) y_29p2p36.toNatClampNeg y_21p2p36p36)) (ws' := [(h, .inr (7, oM r (upd i 1 y_29p2p36) j)), ((r 0), .inl (cI, 1800, .inl (upd (upd (upd f0 (i 1).toNatClampNeg y_21p2) y_29p2.toNatClampNeg y_21p2p36) y_29p2p36.toNatClampNeg y_21p2p36p36)))]) hx hb hK hP hD hS 1 0 rfl rfl (iR_vp f_29p2p36_4 (by decide +kernel)) rfl rfl dX7_put_22 (fun H locs hP hD hS => ?_)
  refine lv_aload_n hx hb dX7_put_23 rfl (lv_at hl 1 rfl) ?_
  refine lv_dup hx hb dX7_put_24 rfl ?_
  refine k_get (D := (dC, dI)) (ci := 7) (v := .int y_29p2p36) (C := RX7) (T := TX7) (N := 92) hx hb hts hinX7 hown hK hP 0 rfl rfl 1 (by decide) w_1 rfl rfl dX7_put_25 ?_
  refine lv_iconst (v := 1) hx hb dX7_put_28 (by decide +kernel) ?_
  refine lv_iadd hx hb dX7_put_29 ?_
  refine lv_topi (fun y_29p2p36p36 ey_29p2p36p36 => ?_)
  have f_29p2p36p36_6 : iR y_29p2p36p36 7 1587 := iR_add ey_29p2p36p36 f_29p2p36_4 (iR_c (n := 1) (a := 1) (b := 1) (by decide +kernel) (by decide +kernel)) (by decide +kernel)
  refine k_put (D := (dC, dI)) (ci := 7) (v := .int y_29p2p36p36) (C := RX7) (T := TX7) (N := 92) (ws' := [(h, .inr (7, oM r (upd i 1 y_29p2p36p36) j)), ((r 0), .inl (cI, 1800, .inl (upd (upd (upd f0 (i 1).toNatClampNeg y_21p2) y_29p2.toNatClampNeg y_21p2p36) y_29p2p36.toNatClampNeg y_21p2p36p36)))]) hx hb hts hinX7 tyX7 tyX7_ok nmX7 hown hK hP hD hS 0 rfl rfl 1 (by decide) w_1 rfl rfl rfl rfl (Nat.le_of_ble_eq_true rfl) rfl dX7_put_30 (fun H locs hP hD hS => ?_)
  refine lv_iinc (v := 0) (lv' := [(2, .int 0), (0, .ref h), (1, .int x1)]) hx hb dX7_put_33 hl (k := 0) rfl (by decide +kernel) (by decide) rfl (fun ls hl => ?_)
  refine lv_goto (tgt := 3) hx hb dX7_put_36 (by decide) ?_
  refine lv_iload_n hx hb dX7_put_3 rfl (lv_at hl 0 rfl) ?_
  refine lv_if_lt (tgt := 39) hx hb dX7_put_4 (by decide) (fun q9 => absurd q9 (by decide +kernel)) (fun _ => ?_)
  refine lv_aload_n hx hb dX7_put_7 rfl (lv_at hl 1 rfl) ?_
  refine k_get (D := (dC, dI)) (ci := 7) (v := .ref (r 0)) (C := RX7) (T := TX7) (N := 92) hx hb hts hinX7 hown hK hP 0 rfl rfl 0 (by decide) w_0 rfl rfl dX7_put_8 ?_
  refine lv_aload_n hx hb dX7_put_11 rfl (lv_at hl 1 rfl) ?_
  refine k_get (D := (dC, dI)) (ci := 7) (v := .int y_29p2p36p36) (C := RX7) (T := TX7) (N := 92) hx hb hts hinX7 hown hK hP 0 rfl rfl 1 (by decide) w_1 rfl rfl dX7_put_12 ?_
  refine lv_iload_n hx hb dX7_put_15 rfl (lv_at hl 2 rfl) ?_
  refine lv_iload_n hx hb dX7_put_16 rfl (lv_at hl 0 rfl) ?_
  refine lv_ishr hx hb dX7_put_17 ?_
  refine lv_topi (fun y_17p2p36p36p36 ey_17p2p36p36p36 => ?_)
  refine lv_sipush (v := 255) hx hb dX7_put_18 (by decide +kernel) ?_
  refine lv_iand hx hb dX7_put_21 ?_
  refine lv_topi (fun y_21p2p36p36p36 ey_21p2p36p36p36 => ?_)
  have f_21p2p36p36p36_7 : iR y_21p2p36p36p36 0 255 := iR_andR ey_21p2p36p36p36 (iR_c (n := 255) (a := 255) (b := 255) (by decide +kernel) (by decide +kernel)) (by decide +kernel)
  refine s_iast (g := (upd (upd (upd (upd f0 (i 1).toNatClampNeg y_21p2) y_29p2.toNatClampNeg y_21p2p36) y_29p2p36.toNatClampNeg y_21p2p36p36) y_29p2p36p36.toNatClampNeg y_21p2p36p36p36)) (ws' := [(h, .inr (7, oM r (upd i 1 y_29p2p36p36) j)), ((r 0), .inl (cI, 1800, .inl (upd (upd (upd (upd f0 (i 1).toNatClampNeg y_21p2) y_29p2.toNatClampNeg y_21p2p36) y_29p2p36.toNatClampNeg y_21p2p36p36) y_29p2p36p36.toNatClampNeg y_21p2p36p36p36)))]) hx hb hK hP hD hS 1 0 rfl rfl (iR_vp f_29p2p36p36_6 (by decide +kernel)) rfl rfl dX7_put_22 (fun H locs hP hD hS => ?_)
  refine lv_aload_n hx hb dX7_put_23 rfl (lv_at hl 1 rfl) ?_
  refine lv_dup hx hb dX7_put_24 rfl ?_
  refine k_get (D := (dC, dI)) (ci := 7) (v := .int y_29p2p36p36) (C := RX7) (T := TX7) (N := 92) hx hb hts hinX7 hown hK hP 0 rfl rfl 1 (by decide) w_1 rfl rfl dX7_put_25 ?_
  refine lv_iconst (v := 1) hx hb dX7_put_28 (by decide +kernel) ?_
  refine lv_iadd hx hb dX7_put_29 ?_
  refine lv_topi (fun y_29p2p36p36p36 ey_29p2p36p36p36 => ?_)
  have f_29p2p36p36p36_8 : iR y_29p2p36p36p36 8 1588 := iR_add ey_29p2p36p36p36 f_29p2p36p36_6 (iR_c (n := 1) (a := 1) (b := 1) (by decide +kernel) (by decide +kernel)) (by decide +kernel)
  refine k_put (D := (dC, dI)) (ci := 7) (v := .int y_29p2p36p36p36) (C := RX7) (T := TX7) (N := 92) (ws' := [(h, .inr (7, oM r (upd i 1 y_29p2p36p36p36) j)), ((r 0), .inl (cI, 1800, .inl (upd (upd (upd (upd f0 (i 1).toNatClampNeg y_21p2) y_29p2.toNatClampNeg y_21p2p36) y_29p2p36.toNatClampNeg y_21p2p36p36) y_29p2p36p36.toNatClampNeg y_21p2p36p36p36)))]) hx hb hts hinX7 tyX7 tyX7_ok nmX7 hown hK hP hD hS 0 rfl rfl 1 (by decide) w_1 rfl rfl rfl rfl (Nat.le_of_ble_eq_true rfl) rfl dX7_put_30 (fun H locs hP hD hS => ?_)
  refine lv_iinc (v := (-8)) (lv' := [(2, .int (-8)), (0, .ref h), (1, .int x1)]) hx hb dX7_put_33 hl (k := 0) rfl (by decide +kernel) (by decide) rfl (fun ls hl => ?_)
  refine lv_goto (tgt := 3) hx hb dX7_put_36 (by decide) ?_
  refine lv_iload_n hx hb dX7_put_3 rfl (lv_at hl 0 rfl) ?_
  refine lv_if_lt (tgt := 39) hx hb dX7_put_4 (by decide) (fun _ => ?_) (fun q9 => absurd q9 (by decide +kernel))
  exact k_rv B hP hD hS dX7_put_39 ((fun k9 => match k9 with | 0 => y_29p2p36p36p36 | _ => 0), (fun _ => 0), (fun k9 => match k9 with | 0 => (upd (upd (upd (upd f0 (i 1).toNatClampNeg y_21p2) y_29p2.toNatClampNeg y_21p2p36) y_29p2p36.toNatClampNeg y_21p2p36p36) y_29p2p36p36.toNatClampNeg y_21p2p36p36p36) | _ => (fun _ => 0)), (fun _ => (fun _ => 0)), (fun _ => 0)) [0, 1] rfl rfl (Nat.le_of_ble_eq_true rfl) (Nat.le_of_ble_eq_true rfl) ⟨(show iR y_29p2p36p36p36 8 1588 from f_29p2p36p36p36_8), (show aR (upd (upd (upd (upd f0 (i 1).toNatClampNeg y_21p2) y_29p2.toNatClampNeg y_21p2p36) y_29p2p36.toNatClampNeg y_21p2p36p36) y_29p2p36p36.toNatClampNeg y_21p2p36p36p36) 0 255 from (aR_upd _ (aR_upd _ (aR_upd _ (aR_upd _ hf0 f_21p2_1) f_21p2p36_3) f_21p2p36p36_5) f_21p2p36p36p36_7))⟩
set_option maxHeartbeats 8000000 in
set_option maxRecDepth 100000 in
theorem s_X7_put_v2 (l : Launch) (dC : Nat → ClassId) (dI : Nat → Nat → Nat) (cI cJ cZ cM : ClassId) (h : Nat) (r : Nat → Nat) (i : Nat → Int32) (j : Nat → Int64) (x1 : Int32) (f0 : Nat → Int32) (hm1 : iR (i 1) 8 1588) (hI : mR i) (hf0 : aR f0 0 255) : k_Mv l yX7_put wsX7_put ({ frames := 1, cells := 0, slots := 0, locals := 40 }) (dC, dI) vwCl (tyy cI cJ cZ cM) [(h, .inr (7, oM r i j)), ((r 0), .inl (cI, 1800, .inl f0))] [.ref h, .int x1] 0 0 (fun (u9 : SU) => [(h, .inr (7, oM r (upd i 1 (u9.1 0)) j)), ((r 0), .inl (cI, 1800, .inl (u9.2.2.1 0)))]) (fun (u9 : SU) => (iR (u9.1 0) 12 1592) ∧ (aR (u9.2.2.1 0) 0 255)) := by
  refine fun sz => k_enter (cc := cX7_put) (maxL := 3) (ret := none) (Qc := fun A => va_Qv (fun (u9 : SU) => (iR (u9.1 0) 12 1592) ∧ (aR (u9.2.2.1 0) 0 255)) (fun u => k_B (dC, dI) vwCl (tyy cI cJ cZ cM) A ((fun (u9 : SU) => [(h, .inr (7, oM r (upd i 1 (u9.1 0)) j)), ((r 0), .inl (cI, 1800, .inl (u9.2.2.1 0)))]) u)) A) sz (by decide +kernel) rfl (Nat.le_of_ble_eq_true rfl) (fun p e s m args below meth c A ls H locs B hP hD hS hl => ?_)
  obtain ⟨hx, hb, hml, hown, hts, hr, hlk, hnm, hK, hA, hN, hC⟩ := id B
  have hown : s.vm.findClass RX7 = some m.cls := hown
  have hl : lv_has ls 3 [(0, .ref h), (1, .int x1)] := hl
  have w_0 : (Cond.fieldLink RX7 7 "WishSeaModel" "tape" "[I").before args s = true := hts _ (List.mem_of_getElem? (i := 1) rfl)
  have w_1 : (Cond.fieldLink RX7 13 "WishSeaModel" "taped" "I").before args s = true := hts _ (List.mem_of_getElem? (i := 2) rfl)
  have hinX7 : ∀ w ∈ u_ws RX7 TX7 92, w ∈ wsX7_put := fun _ h => List.mem_cons_of_mem _ (List.mem_append_right _ h)
  refine lv_bipush (v := 24) hx hb dX7_put_0 (by decide +kernel) ?_
  refine lv_istore_n (lv' := [(2, .int 24), (0, .ref h), (1, .int x1)]) hx hb dX7_put_2 rfl hl (by decide) rfl (fun ls hl => ?_)
  refine lv_iload_n hx hb dX7_put_3 rfl (lv_at hl 0 rfl) ?_
  refine lv_if_lt (tgt := 39) hx hb dX7_put_4 (by decide) (fun q9 => absurd q9 (by decide +kernel)) (fun _ => ?_)
  refine lv_aload_n hx hb dX7_put_7 rfl (lv_at hl 1 rfl) ?_
  refine k_get (D := (dC, dI)) (ci := 7) (v := .ref (r 0)) (C := RX7) (T := TX7) (N := 92) hx hb hts hinX7 hown hK hP 0 rfl rfl 0 (by decide) w_0 rfl rfl dX7_put_8 ?_
  refine lv_aload_n hx hb dX7_put_11 rfl (lv_at hl 1 rfl) ?_
  refine k_get (D := (dC, dI)) (ci := 7) (v := .int (i 1)) (C := RX7) (T := TX7) (N := 92) hx hb hts hinX7 hown hK hP 0 rfl rfl 1 (by decide) w_1 rfl rfl dX7_put_12 ?_
  refine lv_iload_n hx hb dX7_put_15 rfl (lv_at hl 2 rfl) ?_
  refine lv_iload_n hx hb dX7_put_16 rfl (lv_at hl 0 rfl) ?_
  refine lv_ishr hx hb dX7_put_17 ?_
  refine lv_topi (fun y_17p2 ey_17p2 => ?_)
  refine lv_sipush (v := 255) hx hb dX7_put_18 (by decide +kernel) ?_
  refine lv_iand hx hb dX7_put_21 ?_
  refine lv_topi (fun y_21p2 ey_21p2 => ?_)
  have f_21p2_1 : iR y_21p2 0 255 := iR_andR ey_21p2 (iR_c (n := 255) (a := 255) (b := 255) (by decide +kernel) (by decide +kernel)) (by decide +kernel)
  refine s_iast (g := (upd f0 (i 1).toNatClampNeg y_21p2)) (ws' := [(h, .inr (7, oM r i j)), ((r 0), .inl (cI, 1800, .inl (upd f0 (i 1).toNatClampNeg y_21p2)))]) hx hb hK hP hD hS 1 0 rfl rfl (iR_vp hm1 (by decide +kernel)) rfl rfl dX7_put_22 (fun H locs hP hD hS => ?_)
  refine lv_aload_n hx hb dX7_put_23 rfl (lv_at hl 1 rfl) ?_
  refine lv_dup hx hb dX7_put_24 rfl ?_
  refine k_get (D := (dC, dI)) (ci := 7) (v := .int (i 1)) (C := RX7) (T := TX7) (N := 92) hx hb hts hinX7 hown hK hP 0 rfl rfl 1 (by decide) w_1 rfl rfl dX7_put_25 ?_
  refine lv_iconst (v := 1) hx hb dX7_put_28 (by decide +kernel) ?_
  refine lv_iadd hx hb dX7_put_29 ?_
  refine lv_topi (fun y_29p2 ey_29p2 => ?_)
  have f_29p2_2 : iR y_29p2 9 1589 := iR_add ey_29p2 hm1 (iR_c (n := 1) (a := 1) (b := 1) (by decide +kernel) (by decide +kernel)) (by decide +kernel)
  refine k_put (D := (dC, dI)) (ci := 7) (v := .int y_29p2) (C := RX7) (T := TX7) (N := 92) (ws' := [(h, .inr (7, oM r (upd i 1 y_29p2) j)), ((r 0), .inl (cI, 1800, .inl (upd f0 (i 1).toNatClampNeg y_21p2)))]) hx hb hts hinX7 tyX7 tyX7_ok nmX7 hown hK hP hD hS 0 rfl rfl 1 (by decide) w_1 rfl rfl rfl rfl (Nat.le_of_ble_eq_true rfl) rfl dX7_put_30 (fun H locs hP hD hS => ?_)
  refine lv_iinc (v := 16) (lv' := [(2, .int 16), (0, .ref h), (1, .int x1)]) hx hb dX7_put_33 hl (k := 0) rfl (by decide +kernel) (by decide) rfl (fun ls hl => ?_)
  refine lv_goto (tgt := 3) hx hb dX7_put_36 (by decide) ?_
  refine lv_iload_n hx hb dX7_put_3 rfl (lv_at hl 0 rfl) ?_
  refine lv_if_lt (tgt := 39) hx hb dX7_put_4 (by decide) (fun q9 => absurd q9 (by decide +kernel)) (fun _ => ?_)
  refine lv_aload_n hx hb dX7_put_7 rfl (lv_at hl 1 rfl) ?_
  refine k_get (D := (dC, dI)) (ci := 7) (v := .ref (r 0)) (C := RX7) (T := TX7) (N := 92) hx hb hts hinX7 hown hK hP 0 rfl rfl 0 (by decide) w_0 rfl rfl dX7_put_8 ?_
  refine lv_aload_n hx hb dX7_put_11 rfl (lv_at hl 1 rfl) ?_
  refine k_get (D := (dC, dI)) (ci := 7) (v := .int y_29p2) (C := RX7) (T := TX7) (N := 92) hx hb hts hinX7 hown hK hP 0 rfl rfl 1 (by decide) w_1 rfl rfl dX7_put_12 ?_
  refine lv_iload_n hx hb dX7_put_15 rfl (lv_at hl 2 rfl) ?_
  refine lv_iload_n hx hb dX7_put_16 rfl (lv_at hl 0 rfl) ?_
  refine lv_ishr hx hb dX7_put_17 ?_
  refine lv_topi (fun y_17p2p36 ey_17p2p36 => ?_)
  refine lv_sipush (v := 255) hx hb dX7_put_18 (by decide +kernel) ?_
  refine lv_iand hx hb dX7_put_21 ?_
  refine lv_topi (fun y_21p2p36 ey_21p2p36 => ?_)
  have f_21p2p36_3 : iR y_21p2p36 0 255 := iR_andR ey_21p2p36 (iR_c (n := 255) (a := 255) (b := 255) (by decide +kernel) (by decide +kernel)) (by decide +kernel)
  refine s_iast (g := (upd (upd f0 (i 1).toNatClampNeg y_21p2) y_29p2.toNatClampNeg y_21p2p36)) (ws' := [(h, .inr (7, oM r (upd i 1 y_29p2) j)), ((r 0), .inl (cI, 1800, .inl (upd (upd f0 (i 1).toNatClampNeg y_21p2) y_29p2.toNatClampNeg y_21p2p36)))]) hx hb hK hP hD hS 1 0 rfl rfl (iR_vp f_29p2_2 (by decide +kernel)) rfl rfl dX7_put_22 (fun H locs hP hD hS => ?_)
  refine lv_aload_n hx hb dX7_put_23 rfl (lv_at hl 1 rfl) ?_
  refine lv_dup hx hb dX7_put_24 rfl ?_
  refine k_get (D := (dC, dI)) (ci := 7) (v := .int y_29p2) (C := RX7) (T := TX7) (N := 92) hx hb hts hinX7 hown hK hP 0 rfl rfl 1 (by decide) w_1 rfl rfl dX7_put_25 ?_
  refine lv_iconst (v := 1) hx hb dX7_put_28 (by decide +kernel) ?_
  refine lv_iadd hx hb dX7_put_29 ?_
  refine lv_topi (fun y_29p2p36 ey_29p2p36 => ?_)
  have f_29p2p36_4 : iR y_29p2p36 10 1590 := iR_add ey_29p2p36 f_29p2_2 (iR_c (n := 1) (a := 1) (b := 1) (by decide +kernel) (by decide +kernel)) (by decide +kernel)
  refine k_put (D := (dC, dI)) (ci := 7) (v := .int y_29p2p36) (C := RX7) (T := TX7) (N := 92) (ws' := [(h, .inr (7, oM r (upd i 1 y_29p2p36) j)), ((r 0), .inl (cI, 1800, .inl (upd (upd f0 (i 1).toNatClampNeg y_21p2) y_29p2.toNatClampNeg y_21p2p36)))]) hx hb hts hinX7 tyX7 tyX7_ok nmX7 hown hK hP hD hS 0 rfl rfl 1 (by decide) w_1 rfl rfl rfl rfl (Nat.le_of_ble_eq_true rfl) rfl dX7_put_30 (fun H locs hP hD hS => ?_)
  refine lv_iinc (v := 8) (lv' := [(2, .int 8), (0, .ref h), (1, .int x1)]) hx hb dX7_put_33 hl (k := 0) rfl (by decide +kernel) (by decide) rfl (fun ls hl => ?_)
  refine lv_goto (tgt := 3) hx hb dX7_put_36 (by decide) ?_
  refine lv_iload_n hx hb dX7_put_3 rfl (lv_at hl 0 rfl) ?_
  refine lv_if_lt (tgt := 39) hx hb dX7_put_4 (by decide) (fun q9 => absurd q9 (by decide +kernel)) (fun _ => ?_)
  refine lv_aload_n hx hb dX7_put_7 rfl (lv_at hl 1 rfl) ?_
  refine k_get (D := (dC, dI)) (ci := 7) (v := .ref (r 0)) (C := RX7) (T := TX7) (N := 92) hx hb hts hinX7 hown hK hP 0 rfl rfl 0 (by decide) w_0 rfl rfl dX7_put_8 ?_
  refine lv_aload_n hx hb dX7_put_11 rfl (lv_at hl 1 rfl) ?_
  refine k_get (D := (dC, dI)) (ci := 7) (v := .int y_29p2p36) (C := RX7) (T := TX7) (N := 92) hx hb hts hinX7 hown hK hP 0 rfl rfl 1 (by decide) w_1 rfl rfl dX7_put_12 ?_
  refine lv_iload_n hx hb dX7_put_15 rfl (lv_at hl 2 rfl) ?_
  refine lv_iload_n hx hb dX7_put_16 rfl (lv_at hl 0 rfl) ?_
  refine lv_ishr hx hb dX7_put_17 ?_
  refine lv_topi (fun y_17p2p36p36 ey_17p2p36p36 => ?_)
  refine lv_sipush (v := 255) hx hb dX7_put_18 (by decide +kernel) ?_
  refine lv_iand hx hb dX7_put_21 ?_
  refine lv_topi (fun y_21p2p36p36 ey_21p2p36p36 => ?_)
  have f_21p2p36p36_5 : iR y_21p2p36p36 0 255 := iR_andR ey_21p2p36p36 (iR_c (n := 255) (a := 255) (b := 255) (by decide +kernel) (by decide +kernel)) (by decide +kernel)
  refine s_iast (g := (upd (upd (upd f0 (i 1).toNatClampNeg y_21p2) y_29p2.toNatClampNeg y_21p2p36) y_29p2p36.toNatClampNeg y_21p2p36p36)) (ws' := [(h, .inr (7, oM r (upd i 1 y_29p2p36) j)), ((r 0), .inl (cI, 1800, .inl (upd (upd (upd f0 (i 1).toNatClampNeg y_21p2) y_29p2.toNatClampNeg y_21p2p36) y_29p2p36.toNatClampNeg y_21p2p36p36)))]) hx hb hK hP hD hS 1 0 rfl rfl (iR_vp f_29p2p36_4 (by decide +kernel)) rfl rfl dX7_put_22 (fun H locs hP hD hS => ?_)
  refine lv_aload_n hx hb dX7_put_23 rfl (lv_at hl 1 rfl) ?_
  refine lv_dup hx hb dX7_put_24 rfl ?_
  refine k_get (D := (dC, dI)) (ci := 7) (v := .int y_29p2p36) (C := RX7) (T := TX7) (N := 92) hx hb hts hinX7 hown hK hP 0 rfl rfl 1 (by decide) w_1 rfl rfl dX7_put_25 ?_
  refine lv_iconst (v := 1) hx hb dX7_put_28 (by decide +kernel) ?_
  refine lv_iadd hx hb dX7_put_29 ?_
  refine lv_topi (fun y_29p2p36p36 ey_29p2p36p36 => ?_)
  have f_29p2p36p36_6 : iR y_29p2p36p36 11 1591 := iR_add ey_29p2p36p36 f_29p2p36_4 (iR_c (n := 1) (a := 1) (b := 1) (by decide +kernel) (by decide +kernel)) (by decide +kernel)
  refine k_put (D := (dC, dI)) (ci := 7) (v := .int y_29p2p36p36) (C := RX7) (T := TX7) (N := 92) (ws' := [(h, .inr (7, oM r (upd i 1 y_29p2p36p36) j)), ((r 0), .inl (cI, 1800, .inl (upd (upd (upd f0 (i 1).toNatClampNeg y_21p2) y_29p2.toNatClampNeg y_21p2p36) y_29p2p36.toNatClampNeg y_21p2p36p36)))]) hx hb hts hinX7 tyX7 tyX7_ok nmX7 hown hK hP hD hS 0 rfl rfl 1 (by decide) w_1 rfl rfl rfl rfl (Nat.le_of_ble_eq_true rfl) rfl dX7_put_30 (fun H locs hP hD hS => ?_)
  refine lv_iinc (v := 0) (lv' := [(2, .int 0), (0, .ref h), (1, .int x1)]) hx hb dX7_put_33 hl (k := 0) rfl (by decide +kernel) (by decide) rfl (fun ls hl => ?_)
  refine lv_goto (tgt := 3) hx hb dX7_put_36 (by decide) ?_
  refine lv_iload_n hx hb dX7_put_3 rfl (lv_at hl 0 rfl) ?_
  refine lv_if_lt (tgt := 39) hx hb dX7_put_4 (by decide) (fun q9 => absurd q9 (by decide +kernel)) (fun _ => ?_)
  refine lv_aload_n hx hb dX7_put_7 rfl (lv_at hl 1 rfl) ?_
  refine k_get (D := (dC, dI)) (ci := 7) (v := .ref (r 0)) (C := RX7) (T := TX7) (N := 92) hx hb hts hinX7 hown hK hP 0 rfl rfl 0 (by decide) w_0 rfl rfl dX7_put_8 ?_
  refine lv_aload_n hx hb dX7_put_11 rfl (lv_at hl 1 rfl) ?_
  refine k_get (D := (dC, dI)) (ci := 7) (v := .int y_29p2p36p36) (C := RX7) (T := TX7) (N := 92) hx hb hts hinX7 hown hK hP 0 rfl rfl 1 (by decide) w_1 rfl rfl dX7_put_12 ?_
  refine lv_iload_n hx hb dX7_put_15 rfl (lv_at hl 2 rfl) ?_
  refine lv_iload_n hx hb dX7_put_16 rfl (lv_at hl 0 rfl) ?_
  refine lv_ishr hx hb dX7_put_17 ?_
  refine lv_topi (fun y_17p2p36p36p36 ey_17p2p36p36p36 => ?_)
  refine lv_sipush (v := 255) hx hb dX7_put_18 (by decide +kernel) ?_
  refine lv_iand hx hb dX7_put_21 ?_
  refine lv_topi (fun y_21p2p36p36p36 ey_21p2p36p36p36 => ?_)
  have f_21p2p36p36p36_7 : iR y_21p2p36p36p36 0 255 := iR_andR ey_21p2p36p36p36 (iR_c (n := 255) (a := 255) (b := 255) (by decide +kernel) (by decide +kernel)) (by decide +kernel)
  refine s_iast (g := (upd (upd (upd (upd f0 (i 1).toNatClampNeg y_21p2) y_29p2.toNatClampNeg y_21p2p36) y_29p2p36.toNatClampNeg y_21p2p36p36) y_29p2p36p36.toNatClampNeg y_21p2p36p36p36)) (ws' := [(h, .inr (7, oM r (upd i 1 y_29p2p36p36) j)), ((r 0), .inl (cI, 1800, .inl (upd (upd (upd (upd f0 (i 1).toNatClampNeg y_21p2) y_29p2.toNatClampNeg y_21p2p36) y_29p2p36.toNatClampNeg y_21p2p36p36) y_29p2p36p36.toNatClampNeg y_21p2p36p36p36)))]) hx hb hK hP hD hS 1 0 rfl rfl (iR_vp f_29p2p36p36_6 (by decide +kernel)) rfl rfl dX7_put_22 (fun H locs hP hD hS => ?_)
  refine lv_aload_n hx hb dX7_put_23 rfl (lv_at hl 1 rfl) ?_
  refine lv_dup hx hb dX7_put_24 rfl ?_
  refine k_get (D := (dC, dI)) (ci := 7) (v := .int y_29p2p36p36) (C := RX7) (T := TX7) (N := 92) hx hb hts hinX7 hown hK hP 0 rfl rfl 1 (by decide) w_1 rfl rfl dX7_put_25 ?_
  refine lv_iconst (v := 1) hx hb dX7_put_28 (by decide +kernel) ?_
  refine lv_iadd hx hb dX7_put_29 ?_
  refine lv_topi (fun y_29p2p36p36p36 ey_29p2p36p36p36 => ?_)
  have f_29p2p36p36p36_8 : iR y_29p2p36p36p36 12 1592 := iR_add ey_29p2p36p36p36 f_29p2p36p36_6 (iR_c (n := 1) (a := 1) (b := 1) (by decide +kernel) (by decide +kernel)) (by decide +kernel)
  refine k_put (D := (dC, dI)) (ci := 7) (v := .int y_29p2p36p36p36) (C := RX7) (T := TX7) (N := 92) (ws' := [(h, .inr (7, oM r (upd i 1 y_29p2p36p36p36) j)), ((r 0), .inl (cI, 1800, .inl (upd (upd (upd (upd f0 (i 1).toNatClampNeg y_21p2) y_29p2.toNatClampNeg y_21p2p36) y_29p2p36.toNatClampNeg y_21p2p36p36) y_29p2p36p36.toNatClampNeg y_21p2p36p36p36)))]) hx hb hts hinX7 tyX7 tyX7_ok nmX7 hown hK hP hD hS 0 rfl rfl 1 (by decide) w_1 rfl rfl rfl rfl (Nat.le_of_ble_eq_true rfl) rfl dX7_put_30 (fun H locs hP hD hS => ?_)
  refine lv_iinc (v := (-8)) (lv' := [(2, .int (-8)), (0, .ref h), (1, .int x1)]) hx hb dX7_put_33 hl (k := 0) rfl (by decide +kernel) (by decide) rfl (fun ls hl => ?_)
  refine lv_goto (tgt := 3) hx hb dX7_put_36 (by decide) ?_
  refine lv_iload_n hx hb dX7_put_3 rfl (lv_at hl 0 rfl) ?_
  refine lv_if_lt (tgt := 39) hx hb dX7_put_4 (by decide) (fun _ => ?_) (fun q9 => absurd q9 (by decide +kernel))
  exact k_rv B hP hD hS dX7_put_39 ((fun k9 => match k9 with | 0 => y_29p2p36p36p36 | _ => 0), (fun _ => 0), (fun k9 => match k9 with | 0 => (upd (upd (upd (upd f0 (i 1).toNatClampNeg y_21p2) y_29p2.toNatClampNeg y_21p2p36) y_29p2p36.toNatClampNeg y_21p2p36p36) y_29p2p36p36.toNatClampNeg y_21p2p36p36p36) | _ => (fun _ => 0)), (fun _ => (fun _ => 0)), (fun _ => 0)) [0, 1] rfl rfl (Nat.le_of_ble_eq_true rfl) (Nat.le_of_ble_eq_true rfl) ⟨(show iR y_29p2p36p36p36 12 1592 from f_29p2p36p36p36_8), (show aR (upd (upd (upd (upd f0 (i 1).toNatClampNeg y_21p2) y_29p2.toNatClampNeg y_21p2p36) y_29p2p36.toNatClampNeg y_21p2p36p36) y_29p2p36p36.toNatClampNeg y_21p2p36p36p36) 0 255 from (aR_upd _ (aR_upd _ (aR_upd _ (aR_upd _ hf0 f_21p2_1) f_21p2p36_3) f_21p2p36p36_5) f_21p2p36p36p36_7))⟩
set_option maxHeartbeats 8000000 in
set_option maxRecDepth 100000 in
theorem s_X7_put_v3 (l : Launch) (dC : Nat → ClassId) (dI : Nat → Nat → Nat) (cI cJ cZ cM : ClassId) (h : Nat) (r : Nat → Nat) (i : Nat → Int32) (j : Nat → Int64) (x1 : Int32) (f0 : Nat → Int32) (hm1 : iR (i 1) 12 1592) (hI : mR i) (hf0 : aR f0 0 255) : k_Mv l yX7_put wsX7_put ({ frames := 1, cells := 0, slots := 0, locals := 40 }) (dC, dI) vwCl (tyy cI cJ cZ cM) [(h, .inr (7, oM r i j)), ((r 0), .inl (cI, 1800, .inl f0))] [.ref h, .int x1] 0 0 (fun (u9 : SU) => [(h, .inr (7, oM r (upd i 1 (u9.1 0)) j)), ((r 0), .inl (cI, 1800, .inl (u9.2.2.1 0)))]) (fun (u9 : SU) => (iR (u9.1 0) 16 1596) ∧ (aR (u9.2.2.1 0) 0 255)) := by
  refine fun sz => k_enter (cc := cX7_put) (maxL := 3) (ret := none) (Qc := fun A => va_Qv (fun (u9 : SU) => (iR (u9.1 0) 16 1596) ∧ (aR (u9.2.2.1 0) 0 255)) (fun u => k_B (dC, dI) vwCl (tyy cI cJ cZ cM) A ((fun (u9 : SU) => [(h, .inr (7, oM r (upd i 1 (u9.1 0)) j)), ((r 0), .inl (cI, 1800, .inl (u9.2.2.1 0)))]) u)) A) sz (by decide +kernel) rfl (Nat.le_of_ble_eq_true rfl) (fun p e s m args below meth c A ls H locs B hP hD hS hl => ?_)
  obtain ⟨hx, hb, hml, hown, hts, hr, hlk, hnm, hK, hA, hN, hC⟩ := id B
  have hown : s.vm.findClass RX7 = some m.cls := hown
  have hl : lv_has ls 3 [(0, .ref h), (1, .int x1)] := hl
  have w_0 : (Cond.fieldLink RX7 7 "WishSeaModel" "tape" "[I").before args s = true := hts _ (List.mem_of_getElem? (i := 1) rfl)
  have w_1 : (Cond.fieldLink RX7 13 "WishSeaModel" "taped" "I").before args s = true := hts _ (List.mem_of_getElem? (i := 2) rfl)
  have hinX7 : ∀ w ∈ u_ws RX7 TX7 92, w ∈ wsX7_put := fun _ h => List.mem_cons_of_mem _ (List.mem_append_right _ h)
  refine lv_bipush (v := 24) hx hb dX7_put_0 (by decide +kernel) ?_
  refine lv_istore_n (lv' := [(2, .int 24), (0, .ref h), (1, .int x1)]) hx hb dX7_put_2 rfl hl (by decide) rfl (fun ls hl => ?_)
  refine lv_iload_n hx hb dX7_put_3 rfl (lv_at hl 0 rfl) ?_
  refine lv_if_lt (tgt := 39) hx hb dX7_put_4 (by decide) (fun q9 => absurd q9 (by decide +kernel)) (fun _ => ?_)
  refine lv_aload_n hx hb dX7_put_7 rfl (lv_at hl 1 rfl) ?_
  refine k_get (D := (dC, dI)) (ci := 7) (v := .ref (r 0)) (C := RX7) (T := TX7) (N := 92) hx hb hts hinX7 hown hK hP 0 rfl rfl 0 (by decide) w_0 rfl rfl dX7_put_8 ?_
  refine lv_aload_n hx hb dX7_put_11 rfl (lv_at hl 1 rfl) ?_
  refine k_get (D := (dC, dI)) (ci := 7) (v := .int (i 1)) (C := RX7) (T := TX7) (N := 92) hx hb hts hinX7 hown hK hP 0 rfl rfl 1 (by decide) w_1 rfl rfl dX7_put_12 ?_
  refine lv_iload_n hx hb dX7_put_15 rfl (lv_at hl 2 rfl) ?_
  refine lv_iload_n hx hb dX7_put_16 rfl (lv_at hl 0 rfl) ?_
  refine lv_ishr hx hb dX7_put_17 ?_
  refine lv_topi (fun y_17p2 ey_17p2 => ?_)
  refine lv_sipush (v := 255) hx hb dX7_put_18 (by decide +kernel) ?_
  refine lv_iand hx hb dX7_put_21 ?_
  refine lv_topi (fun y_21p2 ey_21p2 => ?_)
  have f_21p2_1 : iR y_21p2 0 255 := iR_andR ey_21p2 (iR_c (n := 255) (a := 255) (b := 255) (by decide +kernel) (by decide +kernel)) (by decide +kernel)
  refine s_iast (g := (upd f0 (i 1).toNatClampNeg y_21p2)) (ws' := [(h, .inr (7, oM r i j)), ((r 0), .inl (cI, 1800, .inl (upd f0 (i 1).toNatClampNeg y_21p2)))]) hx hb hK hP hD hS 1 0 rfl rfl (iR_vp hm1 (by decide +kernel)) rfl rfl dX7_put_22 (fun H locs hP hD hS => ?_)
  refine lv_aload_n hx hb dX7_put_23 rfl (lv_at hl 1 rfl) ?_
  refine lv_dup hx hb dX7_put_24 rfl ?_
  refine k_get (D := (dC, dI)) (ci := 7) (v := .int (i 1)) (C := RX7) (T := TX7) (N := 92) hx hb hts hinX7 hown hK hP 0 rfl rfl 1 (by decide) w_1 rfl rfl dX7_put_25 ?_
  refine lv_iconst (v := 1) hx hb dX7_put_28 (by decide +kernel) ?_
  refine lv_iadd hx hb dX7_put_29 ?_
  refine lv_topi (fun y_29p2 ey_29p2 => ?_)
  have f_29p2_2 : iR y_29p2 13 1593 := iR_add ey_29p2 hm1 (iR_c (n := 1) (a := 1) (b := 1) (by decide +kernel) (by decide +kernel)) (by decide +kernel)
  refine k_put (D := (dC, dI)) (ci := 7) (v := .int y_29p2) (C := RX7) (T := TX7) (N := 92) (ws' := [(h, .inr (7, oM r (upd i 1 y_29p2) j)), ((r 0), .inl (cI, 1800, .inl (upd f0 (i 1).toNatClampNeg y_21p2)))]) hx hb hts hinX7 tyX7 tyX7_ok nmX7 hown hK hP hD hS 0 rfl rfl 1 (by decide) w_1 rfl rfl rfl rfl (Nat.le_of_ble_eq_true rfl) rfl dX7_put_30 (fun H locs hP hD hS => ?_)
  refine lv_iinc (v := 16) (lv' := [(2, .int 16), (0, .ref h), (1, .int x1)]) hx hb dX7_put_33 hl (k := 0) rfl (by decide +kernel) (by decide) rfl (fun ls hl => ?_)
  refine lv_goto (tgt := 3) hx hb dX7_put_36 (by decide) ?_
  refine lv_iload_n hx hb dX7_put_3 rfl (lv_at hl 0 rfl) ?_
  refine lv_if_lt (tgt := 39) hx hb dX7_put_4 (by decide) (fun q9 => absurd q9 (by decide +kernel)) (fun _ => ?_)
  refine lv_aload_n hx hb dX7_put_7 rfl (lv_at hl 1 rfl) ?_
  refine k_get (D := (dC, dI)) (ci := 7) (v := .ref (r 0)) (C := RX7) (T := TX7) (N := 92) hx hb hts hinX7 hown hK hP 0 rfl rfl 0 (by decide) w_0 rfl rfl dX7_put_8 ?_
  refine lv_aload_n hx hb dX7_put_11 rfl (lv_at hl 1 rfl) ?_
  refine k_get (D := (dC, dI)) (ci := 7) (v := .int y_29p2) (C := RX7) (T := TX7) (N := 92) hx hb hts hinX7 hown hK hP 0 rfl rfl 1 (by decide) w_1 rfl rfl dX7_put_12 ?_
  refine lv_iload_n hx hb dX7_put_15 rfl (lv_at hl 2 rfl) ?_
  refine lv_iload_n hx hb dX7_put_16 rfl (lv_at hl 0 rfl) ?_
  refine lv_ishr hx hb dX7_put_17 ?_
  refine lv_topi (fun y_17p2p36 ey_17p2p36 => ?_)
  refine lv_sipush (v := 255) hx hb dX7_put_18 (by decide +kernel) ?_
  refine lv_iand hx hb dX7_put_21 ?_
  refine lv_topi (fun y_21p2p36 ey_21p2p36 => ?_)
  have f_21p2p36_3 : iR y_21p2p36 0 255 := iR_andR ey_21p2p36 (iR_c (n := 255) (a := 255) (b := 255) (by decide +kernel) (by decide +kernel)) (by decide +kernel)
  refine s_iast (g := (upd (upd f0 (i 1).toNatClampNeg y_21p2) y_29p2.toNatClampNeg y_21p2p36)) (ws' := [(h, .inr (7, oM r (upd i 1 y_29p2) j)), ((r 0), .inl (cI, 1800, .inl (upd (upd f0 (i 1).toNatClampNeg y_21p2) y_29p2.toNatClampNeg y_21p2p36)))]) hx hb hK hP hD hS 1 0 rfl rfl (iR_vp f_29p2_2 (by decide +kernel)) rfl rfl dX7_put_22 (fun H locs hP hD hS => ?_)
  refine lv_aload_n hx hb dX7_put_23 rfl (lv_at hl 1 rfl) ?_
  refine lv_dup hx hb dX7_put_24 rfl ?_
  refine k_get (D := (dC, dI)) (ci := 7) (v := .int y_29p2) (C := RX7) (T := TX7) (N := 92) hx hb hts hinX7 hown hK hP 0 rfl rfl 1 (by decide) w_1 rfl rfl dX7_put_25 ?_
  refine lv_iconst (v := 1) hx hb dX7_put_28 (by decide +kernel) ?_
  refine lv_iadd hx hb dX7_put_29 ?_
  refine lv_topi (fun y_29p2p36 ey_29p2p36 => ?_)
  have f_29p2p36_4 : iR y_29p2p36 14 1594 := iR_add ey_29p2p36 f_29p2_2 (iR_c (n := 1) (a := 1) (b := 1) (by decide +kernel) (by decide +kernel)) (by decide +kernel)
  refine k_put (D := (dC, dI)) (ci := 7) (v := .int y_29p2p36) (C := RX7) (T := TX7) (N := 92) (ws' := [(h, .inr (7, oM r (upd i 1 y_29p2p36) j)), ((r 0), .inl (cI, 1800, .inl (upd (upd f0 (i 1).toNatClampNeg y_21p2) y_29p2.toNatClampNeg y_21p2p36)))]) hx hb hts hinX7 tyX7 tyX7_ok nmX7 hown hK hP hD hS 0 rfl rfl 1 (by decide) w_1 rfl rfl rfl rfl (Nat.le_of_ble_eq_true rfl) rfl dX7_put_30 (fun H locs hP hD hS => ?_)
  refine lv_iinc (v := 8) (lv' := [(2, .int 8), (0, .ref h), (1, .int x1)]) hx hb dX7_put_33 hl (k := 0) rfl (by decide +kernel) (by decide) rfl (fun ls hl => ?_)
  refine lv_goto (tgt := 3) hx hb dX7_put_36 (by decide) ?_
  refine lv_iload_n hx hb dX7_put_3 rfl (lv_at hl 0 rfl) ?_
  refine lv_if_lt (tgt := 39) hx hb dX7_put_4 (by decide) (fun q9 => absurd q9 (by decide +kernel)) (fun _ => ?_)
  refine lv_aload_n hx hb dX7_put_7 rfl (lv_at hl 1 rfl) ?_
  refine k_get (D := (dC, dI)) (ci := 7) (v := .ref (r 0)) (C := RX7) (T := TX7) (N := 92) hx hb hts hinX7 hown hK hP 0 rfl rfl 0 (by decide) w_0 rfl rfl dX7_put_8 ?_
  refine lv_aload_n hx hb dX7_put_11 rfl (lv_at hl 1 rfl) ?_
  refine k_get (D := (dC, dI)) (ci := 7) (v := .int y_29p2p36) (C := RX7) (T := TX7) (N := 92) hx hb hts hinX7 hown hK hP 0 rfl rfl 1 (by decide) w_1 rfl rfl dX7_put_12 ?_
  refine lv_iload_n hx hb dX7_put_15 rfl (lv_at hl 2 rfl) ?_
  refine lv_iload_n hx hb dX7_put_16 rfl (lv_at hl 0 rfl) ?_
  refine lv_ishr hx hb dX7_put_17 ?_
  refine lv_topi (fun y_17p2p36p36 ey_17p2p36p36 => ?_)
  refine lv_sipush (v := 255) hx hb dX7_put_18 (by decide +kernel) ?_
  refine lv_iand hx hb dX7_put_21 ?_
  refine lv_topi (fun y_21p2p36p36 ey_21p2p36p36 => ?_)
  have f_21p2p36p36_5 : iR y_21p2p36p36 0 255 := iR_andR ey_21p2p36p36 (iR_c (n := 255) (a := 255) (b := 255) (by decide +kernel) (by decide +kernel)) (by decide +kernel)
  refine s_iast (g := (upd (upd (upd f0 (i 1).toNatClampNeg y_21p2) y_29p2.toNatClampNeg y_21p2p36) y_29p2p36.toNatClampNeg y_21p2p36p36)) (ws' := [(h, .inr (7, oM r (upd i 1 y_29p2p36) j)), ((r 0), .inl (cI, 1800, .inl (upd (upd (upd f0 (i 1).toNatClampNeg y_21p2) y_29p2.toNatClampNeg y_21p2p36) y_29p2p36.toNatClampNeg y_21p2p36p36)))]) hx hb hK hP hD hS 1 0 rfl rfl (iR_vp f_29p2p36_4 (by decide +kernel)) rfl rfl dX7_put_22 (fun H locs hP hD hS => ?_)
  refine lv_aload_n hx hb dX7_put_23 rfl (lv_at hl 1 rfl) ?_
  refine lv_dup hx hb dX7_put_24 rfl ?_
  refine k_get (D := (dC, dI)) (ci := 7) (v := .int y_29p2p36) (C := RX7) (T := TX7) (N := 92) hx hb hts hinX7 hown hK hP 0 rfl rfl 1 (by decide) w_1 rfl rfl dX7_put_25 ?_
  refine lv_iconst (v := 1) hx hb dX7_put_28 (by decide +kernel) ?_
  refine lv_iadd hx hb dX7_put_29 ?_
  refine lv_topi (fun y_29p2p36p36 ey_29p2p36p36 => ?_)
  have f_29p2p36p36_6 : iR y_29p2p36p36 15 1595 := iR_add ey_29p2p36p36 f_29p2p36_4 (iR_c (n := 1) (a := 1) (b := 1) (by decide +kernel) (by decide +kernel)) (by decide +kernel)
  refine k_put (D := (dC, dI)) (ci := 7) (v := .int y_29p2p36p36) (C := RX7) (T := TX7) (N := 92) (ws' := [(h, .inr (7, oM r (upd i 1 y_29p2p36p36) j)), ((r 0), .inl (cI, 1800, .inl (upd (upd (upd f0 (i 1).toNatClampNeg y_21p2) y_29p2.toNatClampNeg y_21p2p36) y_29p2p36.toNatClampNeg y_21p2p36p36)))]) hx hb hts hinX7 tyX7 tyX7_ok nmX7 hown hK hP hD hS 0 rfl rfl 1 (by decide) w_1 rfl rfl rfl rfl (Nat.le_of_ble_eq_true rfl) rfl dX7_put_30 (fun H locs hP hD hS => ?_)
  refine lv_iinc (v := 0) (lv' := [(2, .int 0), (0, .ref h), (1, .int x1)]) hx hb dX7_put_33 hl (k := 0) rfl (by decide +kernel) (by decide) rfl (fun ls hl => ?_)
  refine lv_goto (tgt := 3) hx hb dX7_put_36 (by decide) ?_
  refine lv_iload_n hx hb dX7_put_3 rfl (lv_at hl 0 rfl) ?_
  refine lv_if_lt (tgt := 39) hx hb dX7_put_4 (by decide) (fun q9 => absurd q9 (by decide +kernel)) (fun _ => ?_)
  refine lv_aload_n hx hb dX7_put_7 rfl (lv_at hl 1 rfl) ?_
  refine k_get (D := (dC, dI)) (ci := 7) (v := .ref (r 0)) (C := RX7) (T := TX7) (N := 92) hx hb hts hinX7 hown hK hP 0 rfl rfl 0 (by decide) w_0 rfl rfl dX7_put_8 ?_
  refine lv_aload_n hx hb dX7_put_11 rfl (lv_at hl 1 rfl) ?_
  refine k_get (D := (dC, dI)) (ci := 7) (v := .int y_29p2p36p36) (C := RX7) (T := TX7) (N := 92) hx hb hts hinX7 hown hK hP 0 rfl rfl 1 (by decide) w_1 rfl rfl dX7_put_12 ?_
  refine lv_iload_n hx hb dX7_put_15 rfl (lv_at hl 2 rfl) ?_
  refine lv_iload_n hx hb dX7_put_16 rfl (lv_at hl 0 rfl) ?_
  refine lv_ishr hx hb dX7_put_17 ?_
  refine lv_topi (fun y_17p2p36p36p36 ey_17p2p36p36p36 => ?_)
  refine lv_sipush (v := 255) hx hb dX7_put_18 (by decide +kernel) ?_
  refine lv_iand hx hb dX7_put_21 ?_
  refine lv_topi (fun y_21p2p36p36p36 ey_21p2p36p36p36 => ?_)
  have f_21p2p36p36p36_7 : iR y_21p2p36p36p36 0 255 := iR_andR ey_21p2p36p36p36 (iR_c (n := 255) (a := 255) (b := 255) (by decide +kernel) (by decide +kernel)) (by decide +kernel)
  refine s_iast (g := (upd (upd (upd (upd f0 (i 1).toNatClampNeg y_21p2) y_29p2.toNatClampNeg y_21p2p36) y_29p2p36.toNatClampNeg y_21p2p36p36) y_29p2p36p36.toNatClampNeg y_21p2p36p36p36)) (ws' := [(h, .inr (7, oM r (upd i 1 y_29p2p36p36) j)), ((r 0), .inl (cI, 1800, .inl (upd (upd (upd (upd f0 (i 1).toNatClampNeg y_21p2) y_29p2.toNatClampNeg y_21p2p36) y_29p2p36.toNatClampNeg y_21p2p36p36) y_29p2p36p36.toNatClampNeg y_21p2p36p36p36)))]) hx hb hK hP hD hS 1 0 rfl rfl (iR_vp f_29p2p36p36_6 (by decide +kernel)) rfl rfl dX7_put_22 (fun H locs hP hD hS => ?_)
  refine lv_aload_n hx hb dX7_put_23 rfl (lv_at hl 1 rfl) ?_
  refine lv_dup hx hb dX7_put_24 rfl ?_
  refine k_get (D := (dC, dI)) (ci := 7) (v := .int y_29p2p36p36) (C := RX7) (T := TX7) (N := 92) hx hb hts hinX7 hown hK hP 0 rfl rfl 1 (by decide) w_1 rfl rfl dX7_put_25 ?_
  refine lv_iconst (v := 1) hx hb dX7_put_28 (by decide +kernel) ?_
  refine lv_iadd hx hb dX7_put_29 ?_
  refine lv_topi (fun y_29p2p36p36p36 ey_29p2p36p36p36 => ?_)
  have f_29p2p36p36p36_8 : iR y_29p2p36p36p36 16 1596 := iR_add ey_29p2p36p36p36 f_29p2p36p36_6 (iR_c (n := 1) (a := 1) (b := 1) (by decide +kernel) (by decide +kernel)) (by decide +kernel)
  refine k_put (D := (dC, dI)) (ci := 7) (v := .int y_29p2p36p36p36) (C := RX7) (T := TX7) (N := 92) (ws' := [(h, .inr (7, oM r (upd i 1 y_29p2p36p36p36) j)), ((r 0), .inl (cI, 1800, .inl (upd (upd (upd (upd f0 (i 1).toNatClampNeg y_21p2) y_29p2.toNatClampNeg y_21p2p36) y_29p2p36.toNatClampNeg y_21p2p36p36) y_29p2p36p36.toNatClampNeg y_21p2p36p36p36)))]) hx hb hts hinX7 tyX7 tyX7_ok nmX7 hown hK hP hD hS 0 rfl rfl 1 (by decide) w_1 rfl rfl rfl rfl (Nat.le_of_ble_eq_true rfl) rfl dX7_put_30 (fun H locs hP hD hS => ?_)
  refine lv_iinc (v := (-8)) (lv' := [(2, .int (-8)), (0, .ref h), (1, .int x1)]) hx hb dX7_put_33 hl (k := 0) rfl (by decide +kernel) (by decide) rfl (fun ls hl => ?_)
  refine lv_goto (tgt := 3) hx hb dX7_put_36 (by decide) ?_
  refine lv_iload_n hx hb dX7_put_3 rfl (lv_at hl 0 rfl) ?_
  refine lv_if_lt (tgt := 39) hx hb dX7_put_4 (by decide) (fun _ => ?_) (fun q9 => absurd q9 (by decide +kernel))
  exact k_rv B hP hD hS dX7_put_39 ((fun k9 => match k9 with | 0 => y_29p2p36p36p36 | _ => 0), (fun _ => 0), (fun k9 => match k9 with | 0 => (upd (upd (upd (upd f0 (i 1).toNatClampNeg y_21p2) y_29p2.toNatClampNeg y_21p2p36) y_29p2p36.toNatClampNeg y_21p2p36p36) y_29p2p36p36.toNatClampNeg y_21p2p36p36p36) | _ => (fun _ => 0)), (fun _ => (fun _ => 0)), (fun _ => 0)) [0, 1] rfl rfl (Nat.le_of_ble_eq_true rfl) (Nat.le_of_ble_eq_true rfl) ⟨(show iR y_29p2p36p36p36 16 1596 from f_29p2p36p36p36_8), (show aR (upd (upd (upd (upd f0 (i 1).toNatClampNeg y_21p2) y_29p2.toNatClampNeg y_21p2p36) y_29p2p36.toNatClampNeg y_21p2p36p36) y_29p2p36p36.toNatClampNeg y_21p2p36p36p36) 0 255 from (aR_upd _ (aR_upd _ (aR_upd _ (aR_upd _ hf0 f_21p2_1) f_21p2p36_3) f_21p2p36p36_5) f_21p2p36p36p36_7))⟩
set_option maxHeartbeats 8000000 in
set_option maxRecDepth 100000 in
theorem s_X7_put_v4 (l : Launch) (dC : Nat → ClassId) (dI : Nat → Nat → Nat) (cI cJ cZ cM : ClassId) (h : Nat) (r : Nat → Nat) (i : Nat → Int32) (j : Nat → Int64) (x1 : Int32) (f0 : Nat → Int32) (hm1 : iR (i 1) 16 1596) (hI : mR i) (hf0 : aR f0 0 255) : k_Mv l yX7_put wsX7_put ({ frames := 1, cells := 0, slots := 0, locals := 40 }) (dC, dI) vwCl (tyy cI cJ cZ cM) [(h, .inr (7, oM r i j)), ((r 0), .inl (cI, 1800, .inl f0))] [.ref h, .int x1] 0 0 (fun (u9 : SU) => [(h, .inr (7, oM r (upd i 1 (u9.1 0)) j)), ((r 0), .inl (cI, 1800, .inl (u9.2.2.1 0)))]) (fun (u9 : SU) => (iR (u9.1 0) 20 1600) ∧ (aR (u9.2.2.1 0) 0 255)) := by
  refine fun sz => k_enter (cc := cX7_put) (maxL := 3) (ret := none) (Qc := fun A => va_Qv (fun (u9 : SU) => (iR (u9.1 0) 20 1600) ∧ (aR (u9.2.2.1 0) 0 255)) (fun u => k_B (dC, dI) vwCl (tyy cI cJ cZ cM) A ((fun (u9 : SU) => [(h, .inr (7, oM r (upd i 1 (u9.1 0)) j)), ((r 0), .inl (cI, 1800, .inl (u9.2.2.1 0)))]) u)) A) sz (by decide +kernel) rfl (Nat.le_of_ble_eq_true rfl) (fun p e s m args below meth c A ls H locs B hP hD hS hl => ?_)
  obtain ⟨hx, hb, hml, hown, hts, hr, hlk, hnm, hK, hA, hN, hC⟩ := id B
  have hown : s.vm.findClass RX7 = some m.cls := hown
  have hl : lv_has ls 3 [(0, .ref h), (1, .int x1)] := hl
  have w_0 : (Cond.fieldLink RX7 7 "WishSeaModel" "tape" "[I").before args s = true := hts _ (List.mem_of_getElem? (i := 1) rfl)
  have w_1 : (Cond.fieldLink RX7 13 "WishSeaModel" "taped" "I").before args s = true := hts _ (List.mem_of_getElem? (i := 2) rfl)
  have hinX7 : ∀ w ∈ u_ws RX7 TX7 92, w ∈ wsX7_put := fun _ h => List.mem_cons_of_mem _ (List.mem_append_right _ h)
  refine lv_bipush (v := 24) hx hb dX7_put_0 (by decide +kernel) ?_
  refine lv_istore_n (lv' := [(2, .int 24), (0, .ref h), (1, .int x1)]) hx hb dX7_put_2 rfl hl (by decide) rfl (fun ls hl => ?_)
  refine lv_iload_n hx hb dX7_put_3 rfl (lv_at hl 0 rfl) ?_
  refine lv_if_lt (tgt := 39) hx hb dX7_put_4 (by decide) (fun q9 => absurd q9 (by decide +kernel)) (fun _ => ?_)
  refine lv_aload_n hx hb dX7_put_7 rfl (lv_at hl 1 rfl) ?_
  refine k_get (D := (dC, dI)) (ci := 7) (v := .ref (r 0)) (C := RX7) (T := TX7) (N := 92) hx hb hts hinX7 hown hK hP 0 rfl rfl 0 (by decide) w_0 rfl rfl dX7_put_8 ?_
  refine lv_aload_n hx hb dX7_put_11 rfl (lv_at hl 1 rfl) ?_
  refine k_get (D := (dC, dI)) (ci := 7) (v := .int (i 1)) (C := RX7) (T := TX7) (N := 92) hx hb hts hinX7 hown hK hP 0 rfl rfl 1 (by decide) w_1 rfl rfl dX7_put_12 ?_
  refine lv_iload_n hx hb dX7_put_15 rfl (lv_at hl 2 rfl) ?_
  refine lv_iload_n hx hb dX7_put_16 rfl (lv_at hl 0 rfl) ?_
  refine lv_ishr hx hb dX7_put_17 ?_
  refine lv_topi (fun y_17p2 ey_17p2 => ?_)
  refine lv_sipush (v := 255) hx hb dX7_put_18 (by decide +kernel) ?_
  refine lv_iand hx hb dX7_put_21 ?_
  refine lv_topi (fun y_21p2 ey_21p2 => ?_)
  have f_21p2_1 : iR y_21p2 0 255 := iR_andR ey_21p2 (iR_c (n := 255) (a := 255) (b := 255) (by decide +kernel) (by decide +kernel)) (by decide +kernel)
  refine s_iast (g := (upd f0 (i 1).toNatClampNeg y_21p2)) (ws' := [(h, .inr (7, oM r i j)), ((r 0), .inl (cI, 1800, .inl (upd f0 (i 1).toNatClampNeg y_21p2)))]) hx hb hK hP hD hS 1 0 rfl rfl (iR_vp hm1 (by decide +kernel)) rfl rfl dX7_put_22 (fun H locs hP hD hS => ?_)
  refine lv_aload_n hx hb dX7_put_23 rfl (lv_at hl 1 rfl) ?_
  refine lv_dup hx hb dX7_put_24 rfl ?_
  refine k_get (D := (dC, dI)) (ci := 7) (v := .int (i 1)) (C := RX7) (T := TX7) (N := 92) hx hb hts hinX7 hown hK hP 0 rfl rfl 1 (by decide) w_1 rfl rfl dX7_put_25 ?_
  refine lv_iconst (v := 1) hx hb dX7_put_28 (by decide +kernel) ?_
  refine lv_iadd hx hb dX7_put_29 ?_
  refine lv_topi (fun y_29p2 ey_29p2 => ?_)
  have f_29p2_2 : iR y_29p2 17 1597 := iR_add ey_29p2 hm1 (iR_c (n := 1) (a := 1) (b := 1) (by decide +kernel) (by decide +kernel)) (by decide +kernel)
  refine k_put (D := (dC, dI)) (ci := 7) (v := .int y_29p2) (C := RX7) (T := TX7) (N := 92) (ws' := [(h, .inr (7, oM r (upd i 1 y_29p2) j)), ((r 0), .inl (cI, 1800, .inl (upd f0 (i 1).toNatClampNeg y_21p2)))]) hx hb hts hinX7 tyX7 tyX7_ok nmX7 hown hK hP hD hS 0 rfl rfl 1 (by decide) w_1 rfl rfl rfl rfl (Nat.le_of_ble_eq_true rfl) rfl dX7_put_30 (fun H locs hP hD hS => ?_)
  refine lv_iinc (v := 16) (lv' := [(2, .int 16), (0, .ref h), (1, .int x1)]) hx hb dX7_put_33 hl (k := 0) rfl (by decide +kernel) (by decide) rfl (fun ls hl => ?_)
  refine lv_goto (tgt := 3) hx hb dX7_put_36 (by decide) ?_
  refine lv_iload_n hx hb dX7_put_3 rfl (lv_at hl 0 rfl) ?_
  refine lv_if_lt (tgt := 39) hx hb dX7_put_4 (by decide) (fun q9 => absurd q9 (by decide +kernel)) (fun _ => ?_)
  refine lv_aload_n hx hb dX7_put_7 rfl (lv_at hl 1 rfl) ?_
  refine k_get (D := (dC, dI)) (ci := 7) (v := .ref (r 0)) (C := RX7) (T := TX7) (N := 92) hx hb hts hinX7 hown hK hP 0 rfl rfl 0 (by decide) w_0 rfl rfl dX7_put_8 ?_
  refine lv_aload_n hx hb dX7_put_11 rfl (lv_at hl 1 rfl) ?_
  refine k_get (D := (dC, dI)) (ci := 7) (v := .int y_29p2) (C := RX7) (T := TX7) (N := 92) hx hb hts hinX7 hown hK hP 0 rfl rfl 1 (by decide) w_1 rfl rfl dX7_put_12 ?_
  refine lv_iload_n hx hb dX7_put_15 rfl (lv_at hl 2 rfl) ?_
  refine lv_iload_n hx hb dX7_put_16 rfl (lv_at hl 0 rfl) ?_
  refine lv_ishr hx hb dX7_put_17 ?_
  refine lv_topi (fun y_17p2p36 ey_17p2p36 => ?_)
  refine lv_sipush (v := 255) hx hb dX7_put_18 (by decide +kernel) ?_
  refine lv_iand hx hb dX7_put_21 ?_
  refine lv_topi (fun y_21p2p36 ey_21p2p36 => ?_)
  have f_21p2p36_3 : iR y_21p2p36 0 255 := iR_andR ey_21p2p36 (iR_c (n := 255) (a := 255) (b := 255) (by decide +kernel) (by decide +kernel)) (by decide +kernel)
  refine s_iast (g := (upd (upd f0 (i 1).toNatClampNeg y_21p2) y_29p2.toNatClampNeg y_21p2p36)) (ws' := [(h, .inr (7, oM r (upd i 1 y_29p2) j)), ((r 0), .inl (cI, 1800, .inl (upd (upd f0 (i 1).toNatClampNeg y_21p2) y_29p2.toNatClampNeg y_21p2p36)))]) hx hb hK hP hD hS 1 0 rfl rfl (iR_vp f_29p2_2 (by decide +kernel)) rfl rfl dX7_put_22 (fun H locs hP hD hS => ?_)
  refine lv_aload_n hx hb dX7_put_23 rfl (lv_at hl 1 rfl) ?_
  refine lv_dup hx hb dX7_put_24 rfl ?_
  refine k_get (D := (dC, dI)) (ci := 7) (v := .int y_29p2) (C := RX7) (T := TX7) (N := 92) hx hb hts hinX7 hown hK hP 0 rfl rfl 1 (by decide) w_1 rfl rfl dX7_put_25 ?_
  refine lv_iconst (v := 1) hx hb dX7_put_28 (by decide +kernel) ?_
  refine lv_iadd hx hb dX7_put_29 ?_
  refine lv_topi (fun y_29p2p36 ey_29p2p36 => ?_)
  have f_29p2p36_4 : iR y_29p2p36 18 1598 := iR_add ey_29p2p36 f_29p2_2 (iR_c (n := 1) (a := 1) (b := 1) (by decide +kernel) (by decide +kernel)) (by decide +kernel)
  refine k_put (D := (dC, dI)) (ci := 7) (v := .int y_29p2p36) (C := RX7) (T := TX7) (N := 92) (ws' := [(h, .inr (7, oM r (upd i 1 y_29p2p36) j)), ((r 0), .inl (cI, 1800, .inl (upd (upd f0 (i 1).toNatClampNeg y_21p2) y_29p2.toNatClampNeg y_21p2p36)))]) hx hb hts hinX7 tyX7 tyX7_ok nmX7 hown hK hP hD hS 0 rfl rfl 1 (by decide) w_1 rfl rfl rfl rfl (Nat.le_of_ble_eq_true rfl) rfl dX7_put_30 (fun H locs hP hD hS => ?_)
  refine lv_iinc (v := 8) (lv' := [(2, .int 8), (0, .ref h), (1, .int x1)]) hx hb dX7_put_33 hl (k := 0) rfl (by decide +kernel) (by decide) rfl (fun ls hl => ?_)
  refine lv_goto (tgt := 3) hx hb dX7_put_36 (by decide) ?_
  refine lv_iload_n hx hb dX7_put_3 rfl (lv_at hl 0 rfl) ?_
  refine lv_if_lt (tgt := 39) hx hb dX7_put_4 (by decide) (fun q9 => absurd q9 (by decide +kernel)) (fun _ => ?_)
  refine lv_aload_n hx hb dX7_put_7 rfl (lv_at hl 1 rfl) ?_
  refine k_get (D := (dC, dI)) (ci := 7) (v := .ref (r 0)) (C := RX7) (T := TX7) (N := 92) hx hb hts hinX7 hown hK hP 0 rfl rfl 0 (by decide) w_0 rfl rfl dX7_put_8 ?_
  refine lv_aload_n hx hb dX7_put_11 rfl (lv_at hl 1 rfl) ?_
  refine k_get (D := (dC, dI)) (ci := 7) (v := .int y_29p2p36) (C := RX7) (T := TX7) (N := 92) hx hb hts hinX7 hown hK hP 0 rfl rfl 1 (by decide) w_1 rfl rfl dX7_put_12 ?_
  refine lv_iload_n hx hb dX7_put_15 rfl (lv_at hl 2 rfl) ?_
  refine lv_iload_n hx hb dX7_put_16 rfl (lv_at hl 0 rfl) ?_
  refine lv_ishr hx hb dX7_put_17 ?_
  refine lv_topi (fun y_17p2p36p36 ey_17p2p36p36 => ?_)
  refine lv_sipush (v := 255) hx hb dX7_put_18 (by decide +kernel) ?_
  refine lv_iand hx hb dX7_put_21 ?_
  refine lv_topi (fun y_21p2p36p36 ey_21p2p36p36 => ?_)
  have f_21p2p36p36_5 : iR y_21p2p36p36 0 255 := iR_andR ey_21p2p36p36 (iR_c (n := 255) (a := 255) (b := 255) (by decide +kernel) (by decide +kernel)) (by decide +kernel)
  refine s_iast (g := (upd (upd (upd f0 (i 1).toNatClampNeg y_21p2) y_29p2.toNatClampNeg y_21p2p36) y_29p2p36.toNatClampNeg y_21p2p36p36)) (ws' := [(h, .inr (7, oM r (upd i 1 y_29p2p36) j)), ((r 0), .inl (cI, 1800, .inl (upd (upd (upd f0 (i 1).toNatClampNeg y_21p2) y_29p2.toNatClampNeg y_21p2p36) y_29p2p36.toNatClampNeg y_21p2p36p36)))]) hx hb hK hP hD hS 1 0 rfl rfl (iR_vp f_29p2p36_4 (by decide +kernel)) rfl rfl dX7_put_22 (fun H locs hP hD hS => ?_)
  refine lv_aload_n hx hb dX7_put_23 rfl (lv_at hl 1 rfl) ?_
  refine lv_dup hx hb dX7_put_24 rfl ?_
  refine k_get (D := (dC, dI)) (ci := 7) (v := .int y_29p2p36) (C := RX7) (T := TX7) (N := 92) hx hb hts hinX7 hown hK hP 0 rfl rfl 1 (by decide) w_1 rfl rfl dX7_put_25 ?_
  refine lv_iconst (v := 1) hx hb dX7_put_28 (by decide +kernel) ?_
  refine lv_iadd hx hb dX7_put_29 ?_
  refine lv_topi (fun y_29p2p36p36 ey_29p2p36p36 => ?_)
  have f_29p2p36p36_6 : iR y_29p2p36p36 19 1599 := iR_add ey_29p2p36p36 f_29p2p36_4 (iR_c (n := 1) (a := 1) (b := 1) (by decide +kernel) (by decide +kernel)) (by decide +kernel)
  refine k_put (D := (dC, dI)) (ci := 7) (v := .int y_29p2p36p36) (C := RX7) (T := TX7) (N := 92) (ws' := [(h, .inr (7, oM r (upd i 1 y_29p2p36p36) j)), ((r 0), .inl (cI, 1800, .inl (upd (upd (upd f0 (i 1).toNatClampNeg y_21p2) y_29p2.toNatClampNeg y_21p2p36) y_29p2p36.toNatClampNeg y_21p2p36p36)))]) hx hb hts hinX7 tyX7 tyX7_ok nmX7 hown hK hP hD hS 0 rfl rfl 1 (by decide) w_1 rfl rfl rfl rfl (Nat.le_of_ble_eq_true rfl) rfl dX7_put_30 (fun H locs hP hD hS => ?_)
  refine lv_iinc (v := 0) (lv' := [(2, .int 0), (0, .ref h), (1, .int x1)]) hx hb dX7_put_33 hl (k := 0) rfl (by decide +kernel) (by decide) rfl (fun ls hl => ?_)
  refine lv_goto (tgt := 3) hx hb dX7_put_36 (by decide) ?_
  refine lv_iload_n hx hb dX7_put_3 rfl (lv_at hl 0 rfl) ?_
  refine lv_if_lt (tgt := 39) hx hb dX7_put_4 (by decide) (fun q9 => absurd q9 (by decide +kernel)) (fun _ => ?_)
  refine lv_aload_n hx hb dX7_put_7 rfl (lv_at hl 1 rfl) ?_
  refine k_get (D := (dC, dI)) (ci := 7) (v := .ref (r 0)) (C := RX7) (T := TX7) (N := 92) hx hb hts hinX7 hown hK hP 0 rfl rfl 0 (by decide) w_0 rfl rfl dX7_put_8 ?_
  refine lv_aload_n hx hb dX7_put_11 rfl (lv_at hl 1 rfl) ?_
  refine k_get (D := (dC, dI)) (ci := 7) (v := .int y_29p2p36p36) (C := RX7) (T := TX7) (N := 92) hx hb hts hinX7 hown hK hP 0 rfl rfl 1 (by decide) w_1 rfl rfl dX7_put_12 ?_
  refine lv_iload_n hx hb dX7_put_15 rfl (lv_at hl 2 rfl) ?_
  refine lv_iload_n hx hb dX7_put_16 rfl (lv_at hl 0 rfl) ?_
  refine lv_ishr hx hb dX7_put_17 ?_
  refine lv_topi (fun y_17p2p36p36p36 ey_17p2p36p36p36 => ?_)
  refine lv_sipush (v := 255) hx hb dX7_put_18 (by decide +kernel) ?_
  refine lv_iand hx hb dX7_put_21 ?_
  refine lv_topi (fun y_21p2p36p36p36 ey_21p2p36p36p36 => ?_)
  have f_21p2p36p36p36_7 : iR y_21p2p36p36p36 0 255 := iR_andR ey_21p2p36p36p36 (iR_c (n := 255) (a := 255) (b := 255) (by decide +kernel) (by decide +kernel)) (by decide +kernel)
  refine s_iast (g := (upd (upd (upd (upd f0 (i 1).toNatClampNeg y_21p2) y_29p2.toNatClampNeg y_21p2p36) y_29p2p36.toNatClampNeg y_21p2p36p36) y_29p2p36p36.toNatClampNeg y_21p2p36p36p36)) (ws' := [(h, .inr (7, oM r (upd i 1 y_29p2p36p36) j)), ((r 0), .inl (cI, 1800, .inl (upd (upd (upd (upd f0 (i 1).toNatClampNeg y_21p2) y_29p2.toNatClampNeg y_21p2p36) y_29p2p36.toNatClampNeg y_21p2p36p36) y_29p2p36p36.toNatClampNeg y_21p2p36p36p36)))]) hx hb hK hP hD hS 1 0 rfl rfl (iR_vp f_29p2p36p36_6 (by decide +kernel)) rfl rfl dX7_put_22 (fun H locs hP hD hS => ?_)
  refine lv_aload_n hx hb dX7_put_23 rfl (lv_at hl 1 rfl) ?_
  refine lv_dup hx hb dX7_put_24 rfl ?_
  refine k_get (D := (dC, dI)) (ci := 7) (v := .int y_29p2p36p36) (C := RX7) (T := TX7) (N := 92) hx hb hts hinX7 hown hK hP 0 rfl rfl 1 (by decide) w_1 rfl rfl dX7_put_25 ?_
  refine lv_iconst (v := 1) hx hb dX7_put_28 (by decide +kernel) ?_
  refine lv_iadd hx hb dX7_put_29 ?_
  refine lv_topi (fun y_29p2p36p36p36 ey_29p2p36p36p36 => ?_)
  have f_29p2p36p36p36_8 : iR y_29p2p36p36p36 20 1600 := iR_add ey_29p2p36p36p36 f_29p2p36p36_6 (iR_c (n := 1) (a := 1) (b := 1) (by decide +kernel) (by decide +kernel)) (by decide +kernel)
  refine k_put (D := (dC, dI)) (ci := 7) (v := .int y_29p2p36p36p36) (C := RX7) (T := TX7) (N := 92) (ws' := [(h, .inr (7, oM r (upd i 1 y_29p2p36p36p36) j)), ((r 0), .inl (cI, 1800, .inl (upd (upd (upd (upd f0 (i 1).toNatClampNeg y_21p2) y_29p2.toNatClampNeg y_21p2p36) y_29p2p36.toNatClampNeg y_21p2p36p36) y_29p2p36p36.toNatClampNeg y_21p2p36p36p36)))]) hx hb hts hinX7 tyX7 tyX7_ok nmX7 hown hK hP hD hS 0 rfl rfl 1 (by decide) w_1 rfl rfl rfl rfl (Nat.le_of_ble_eq_true rfl) rfl dX7_put_30 (fun H locs hP hD hS => ?_)
  refine lv_iinc (v := (-8)) (lv' := [(2, .int (-8)), (0, .ref h), (1, .int x1)]) hx hb dX7_put_33 hl (k := 0) rfl (by decide +kernel) (by decide) rfl (fun ls hl => ?_)
  refine lv_goto (tgt := 3) hx hb dX7_put_36 (by decide) ?_
  refine lv_iload_n hx hb dX7_put_3 rfl (lv_at hl 0 rfl) ?_
  refine lv_if_lt (tgt := 39) hx hb dX7_put_4 (by decide) (fun _ => ?_) (fun q9 => absurd q9 (by decide +kernel))
  exact k_rv B hP hD hS dX7_put_39 ((fun k9 => match k9 with | 0 => y_29p2p36p36p36 | _ => 0), (fun _ => 0), (fun k9 => match k9 with | 0 => (upd (upd (upd (upd f0 (i 1).toNatClampNeg y_21p2) y_29p2.toNatClampNeg y_21p2p36) y_29p2p36.toNatClampNeg y_21p2p36p36) y_29p2p36p36.toNatClampNeg y_21p2p36p36p36) | _ => (fun _ => 0)), (fun _ => (fun _ => 0)), (fun _ => 0)) [0, 1] rfl rfl (Nat.le_of_ble_eq_true rfl) (Nat.le_of_ble_eq_true rfl) ⟨(show iR y_29p2p36p36p36 20 1600 from f_29p2p36p36p36_8), (show aR (upd (upd (upd (upd f0 (i 1).toNatClampNeg y_21p2) y_29p2.toNatClampNeg y_21p2p36) y_29p2p36.toNatClampNeg y_21p2p36p36) y_29p2p36p36.toNatClampNeg y_21p2p36p36p36) 0 255 from (aR_upd _ (aR_upd _ (aR_upd _ (aR_upd _ hf0 f_21p2_1) f_21p2p36_3) f_21p2p36p36_5) f_21p2p36p36p36_7))⟩
set_option maxHeartbeats 8000000 in
set_option maxRecDepth 100000 in
theorem s_X7_refuses_v0 (l : Launch) (dC : Nat → ClassId) (dI : Nat → Nat → Nat) (cI cJ cZ cM : ClassId) (h : Nat) (r : Nat → Nat) (i : Nat → Int32) (j : Nat → Int64) (x1 : Int32) (f48 : Nat → Int32) (hx1 : iR x1 0 5) (hI : mR i) : k_Mi l yX7_refuses wsX7_refuses ({ frames := 1, cells := 0, slots := 0, locals := 40 }) (dC, dI) vwCl (tyy cI cJ cZ cM) [(h, .inr (7, oM r i j)), ((r 48), .inl (cI, 6, .inl f48))] [.ref h, .int x1] 0 0 (fun (u9 : SU) => [(h, .inr (7, oM r i j)), ((r 48), .inl (cI, 6, .inl (u9.2.2.1 0)))]) (fun (r9 : Int32) (u9 : SU) => (r9 = (-1))) := by
  refine fun sz => k_enter (cc := cX7_refuses) (maxL := 2) (ret := some (.int)) (Qc := fun A => va_Qi (fun (r9 : Int32) (u9 : SU) => (r9 = (-1))) (fun u => k_B (dC, dI) vwCl (tyy cI cJ cZ cM) A ((fun (u9 : SU) => [(h, .inr (7, oM r i j)), ((r 48), .inl (cI, 6, .inl (u9.2.2.1 0)))]) u)) A) sz (by decide +kernel) rfl (Nat.le_of_ble_eq_true rfl) (fun p e s m args below meth c A ls H locs B hP hD hS hl => ?_)
  obtain ⟨hx, hb, hml, hown, hts, hr, hlk, hnm, hK, hA, hN, hC⟩ := id B
  have hown : s.vm.findClass RX7 = some m.cls := hown
  have hl : lv_has ls 2 [(0, .ref h), (1, .int x1)] := hl
  have w_0 : (Cond.fieldLink RX7 159 "WishSeaModel" "refused" "[I").before args s = true := hts _ (List.mem_of_getElem? (i := 1) rfl)
  have hinX7 : ∀ w ∈ u_ws RX7 TX7 92, w ∈ wsX7_refuses := fun _ h => List.mem_cons_of_mem _ (List.mem_append_right _ h)
  refine lv_aload_n hx hb dX7_refuses_0 rfl (lv_at hl 0 rfl) ?_
  refine k_get (D := (dC, dI)) (ci := 7) (v := .ref (r 48)) (C := RX7) (T := TX7) (N := 92) hx hb hts hinX7 hown hK hP 0 rfl rfl 48 (by decide) w_0 rfl rfl dX7_refuses_1 ?_
  refine lv_iload_n hx hb dX7_refuses_4 rfl (lv_at hl 1 rfl) ?_
  refine lv_dup2_11 hx hb dX7_refuses_5 rfl rfl ?_
  refine va_iald hx hb hK hP 1 0 rfl rfl (iR_vp hx1 (by decide +kernel)) dX7_refuses_6 ?_
  refine lv_iconst (v := 1) hx hb dX7_refuses_7 (by decide +kernel) ?_
  refine lv_iadd hx hb dX7_refuses_8 ?_
  refine lv_topi (fun y_8 ey_8 => ?_)
  refine s_iast (g := (upd f48 x1.toNatClampNeg y_8)) (ws' := [(h, .inr (7, oM r i j)), ((r 48), .inl (cI, 6, .inl (upd f48 x1.toNatClampNeg y_8)))]) hx hb hK hP hD hS 1 0 rfl rfl (iR_vp hx1 (by decide +kernel)) rfl rfl dX7_refuses_9 (fun H locs hP hD hS => ?_)
  refine lv_iconst (v := (-1)) hx hb dX7_refuses_10 (by decide +kernel) ?_
  exact k_ri B hP hD hS dX7_refuses_11 ((fun _ => 0), (fun _ => 0), (fun k9 => match k9 with | 0 => (upd f48 x1.toNatClampNeg y_8) | _ => (fun _ => 0)), (fun _ => (fun _ => 0)), (fun _ => 0)) [0, 1] rfl rfl rfl (Nat.le_of_ble_eq_true rfl) (Nat.le_of_ble_eq_true rfl) rfl
set_option maxHeartbeats 8000000 in
set_option maxRecDepth 100000 in
theorem s_X7_feed_v0 (l : Launch) (dC : Nat → ClassId) (dI : Nat → Nat → Nat) (cI cJ cZ cM : ClassId) (h : Nat) (r : Nat → Nat) (i : Nat → Int32) (j : Nat → Int64) (x1 : Int32) (x2 : Int32) (x3 : Int32) (x4 : Int32) (x5 : Int32) (f0 : Nat → Int32) (f48 : Nat → Int32) (hI : mR i) (hf0 : aR f0 0 255) : k_Mi l yX7_feed wsX7_feed ({ frames := 2, cells := 0, slots := 0, locals := 62 }) (dC, dI) vwCl (tyy cI cJ cZ cM) [(h, .inr (7, oM r i j)), ((r 0), .inl (cI, 1800, .inl f0)), ((r 48), .inl (cI, 6, .inl f48))] [.ref h, .int x1, .int x2, .int x3, .int x4, .int x5] 0 0 (fun (u9 : SU) => [(h, .inr (7, oM r (upd i 1 (u9.1 0)) j)), ((r 0), .inl (cI, 1800, .inl (u9.2.2.1 0))), ((r 48), .inl (cI, 6, .inl (u9.2.2.1 1)))]) (fun (r9 : Int32) (u9 : SU) => (iR r9 (-1) 1600) ∧ (iR (u9.1 0) 20 1600) ∧ (aR (u9.2.2.1 0) 0 255)) := by
  refine fun sz => k_enter (cc := cX7_feed) (maxL := 6) (ret := some (.int)) (Qc := fun A => va_Qi (fun (r9 : Int32) (u9 : SU) => (iR r9 (-1) 1600) ∧ (iR (u9.1 0) 20 1600) ∧ (aR (u9.2.2.1 0) 0 255)) (fun u => k_B (dC, dI) vwCl (tyy cI cJ cZ cM) A ((fun (u9 : SU) => [(h, .inr (7, oM r (upd i 1 (u9.1 0)) j)), ((r 0), .inl (cI, 1800, .inl (u9.2.2.1 0))), ((r 48), .inl (cI, 6, .inl (u9.2.2.1 1)))]) u)) A) sz (by decide +kernel) rfl (Nat.le_of_ble_eq_true rfl) (fun p e s m args below meth c A ls H locs B hP hD hS hl => ?_)
  obtain ⟨hx, hb, hml, hown, hts, hr, hlk, hnm, hK, hA, hN, hC⟩ := id B
  have hown : s.vm.findClass RX7 = some m.cls := hown
  have hl : lv_has ls 6 [(0, .ref h), (1, .int x1), (2, .int x2), (3, .int x3), (4, .int x4), (5, .int x5)] := hl
  have w_0 : (Cond.fieldLink RX7 13 "WishSeaModel" "taped" "I").before args s = true := hts _ (List.mem_of_getElem? (i := 1) rfl)
  have hinX7 : ∀ w ∈ u_ws RX7 TX7 92, w ∈ wsX7_feed := fun _ h => List.mem_cons_of_mem _ (List.mem_append_right _ h)
  refine lv_aload_n hx hb dX7_feed_0 rfl (lv_at hl 0 rfl) ?_
  have f_1_1 : iR (i 1) 0 1600 := hI 1
  refine k_get (D := (dC, dI)) (ci := 7) (v := .int (i 1)) (C := RX7) (T := TX7) (N := 92) hx hb hts hinX7 hown hK hP 0 rfl rfl 1 (by decide) w_0 rfl rfl dX7_feed_1 ?_
  refine lv_bipush (v := 20) hx hb dX7_feed_4 (by decide +kernel) ?_
  refine lv_iadd hx hb dX7_feed_6 ?_
  refine lv_topi (fun y_6 ey_6 => ?_)
  have f_6_2 : iR y_6 20 1620 := iR_add ey_6 f_1_1 (iR_c (n := 20) (a := 20) (b := 20) (by decide +kernel) (by decide +kernel)) (by decide +kernel)
  refine lv_sipush (v := 1600) hx hb dX7_feed_7 (by decide +kernel) ?_
  refine lv_icmp_le (tgt := 19) hx hb dX7_feed_10 (by decide) (fun c_10 => ?_) (fun c_10 => ?_)
  · have c_10 : y_6 ≤ 1600 := c_10
    have f_19_3 : iR y_6 20 1600 := iR_leL c_10 f_6_2 (iR_c (n := 1600) (a := 1600) (b := 1600) (by decide +kernel) (by decide +kernel)) (by decide +kernel)
    have f_19_4 : iR (i 1) 0 1580 := iR_addB ey_6 f_1_1 (iR_c (n := 20) (a := 20) (b := 20) (by decide +kernel) (by decide +kernel)) f_19_3 (by decide +kernel)
    refine lv_aload_n hx hb dX7_feed_19 rfl (lv_at hl 0 rfl) ?_
    refine lv_iload_n hx hb dX7_feed_20 rfl (lv_at hl 1 rfl) ?_
    refine k_cv (wc := [(h, .inr (7, oM r i j)), ((r 0), .inl (cI, 1800, .inl f0))]) (wr := [((r 48), .inl (cI, 6, .inl f48))]) (fun hPc hDc hFc => va_runV (As := [.int x1]) (rest := []) ⟨hx, hb, hml, hown, hts⟩ (s_X7_put_v0 l dC dI cI cJ cZ cM h r i j x1 f0 (show iR (i 1) 0 1580 from f_19_4) hI hf0 H.size) (cwV 1 hts gX7_feed_X7_put rfl rfl rfl (by decide +kernel) ⟨(Nat.le_of_ble_eq_true rfl), (Nat.le_of_ble_eq_true rfl)⟩) (k_pV hPc hDc hK hN hC hS hFc hP (q0 := 0) (ci := 7) rfl rfl) rfl rfl hl.1 rfl (lv_room (Nat.le_of_ble_eq_true rfl)) dX7_feed_21 ⟨(Nat.le_of_ble_eq_true rfl), (Nat.le_of_ble_eq_true rfl)⟩) hP hD hS hA [0, 1] [2] rfl rfl rfl rfl (by decide) (fun _ => rfl) 0 0 rfl rfl (fun u_21 H locs hw hP hD hS => ?_)
    obtain ⟨g_21_0, g_21_1⟩ := hw
    have hP : va_P (dC, dI) vwCl [((r 48), .inl (cI, 6, .inl f48)), (h, .inr (7, oM r (upd i 1 (u_21.1 0)) j)), ((r 0), .inl (cI, 1800, .inl (u_21.2.2.1 0)))] H := hP
    have hD : va_D A [((r 48), .inl (cI, 6, .inl f48)), (h, .inr (7, oM r (upd i 1 (u_21.1 0)) j)), ((r 0), .inl (cI, 1800, .inl (u_21.2.2.1 0)))] := hD
    refine lv_aload_n hx hb dX7_feed_24 rfl (lv_at hl 0 rfl) ?_
    refine lv_iload_n hx hb dX7_feed_25 rfl (lv_at hl 2 rfl) ?_
    refine k_cv (wc := [(h, .inr (7, oM r (upd i 1 (u_21.1 0)) j)), ((r 0), .inl (cI, 1800, .inl (u_21.2.2.1 0)))]) (wr := [((r 48), .inl (cI, 6, .inl f48))]) (fun hPc hDc hFc => va_runV (As := [.int x2]) (rest := []) ⟨hx, hb, hml, hown, hts⟩ (s_X7_put_v1 l dC dI cI cJ cZ cM h r (upd i 1 (u_21.1 0)) j x2 (u_21.2.2.1 0) (show iR (u_21.1 0) 4 1584 from g_21_0) (mR_upd 1 hI (show iR _ (loI 1) (hiI 1) from (iR_w g_21_0 (by decide +kernel)))) g_21_1 H.size) (cwV 1 hts gX7_feed_X7_put rfl rfl rfl (by decide +kernel) ⟨(Nat.le_of_ble_eq_true rfl), (Nat.le_of_ble_eq_true rfl)⟩) (k_pV hPc hDc hK hN hC hS hFc hP (q0 := 1) (ci := 7) rfl rfl) rfl rfl hl.1 rfl (lv_room (Nat.le_of_ble_eq_true rfl)) dX7_feed_26 ⟨(Nat.le_of_ble_eq_true rfl), (Nat.le_of_ble_eq_true rfl)⟩) hP hD hS hA [1, 2] [0] rfl rfl rfl rfl (by decide) (fun _ => rfl) 0 0 rfl rfl (fun u_26 H locs hw hP hD hS => ?_)
    obtain ⟨g_26_0, g_26_1⟩ := hw
    have hP : va_P (dC, dI) vwCl [((r 48), .inl (cI, 6, .inl f48)), (h, .inr (7, oM r (upd i 1 (u_26.1 0)) j)), ((r 0), .inl (cI, 1800, .inl (u_26.2.2.1 0)))] H := hP
    have hD : va_D A [((r 48), .inl (cI, 6, .inl f48)), (h, .inr (7, oM r (upd i 1 (u_26.1 0)) j)), ((r 0), .inl (cI, 1800, .inl (u_26.2.2.1 0)))] := hD
    refine lv_aload_n hx hb dX7_feed_29 rfl (lv_at hl 0 rfl) ?_
    refine lv_iload_n hx hb dX7_feed_30 rfl (lv_at hl 3 rfl) ?_
    refine k_cv (wc := [(h, .inr (7, oM r (upd i 1 (u_26.1 0)) j)), ((r 0), .inl (cI, 1800, .inl (u_26.2.2.1 0)))]) (wr := [((r 48), .inl (cI, 6, .inl f48))]) (fun hPc hDc hFc => va_runV (As := [.int x3]) (rest := []) ⟨hx, hb, hml, hown, hts⟩ (s_X7_put_v2 l dC dI cI cJ cZ cM h r (upd i 1 (u_26.1 0)) j x3 (u_26.2.2.1 0) (show iR (u_26.1 0) 8 1588 from g_26_0) (mR_upd 1 hI (show iR _ (loI 1) (hiI 1) from (iR_w g_26_0 (by decide +kernel)))) g_26_1 H.size) (cwV 1 hts gX7_feed_X7_put rfl rfl rfl (by decide +kernel) ⟨(Nat.le_of_ble_eq_true rfl), (Nat.le_of_ble_eq_true rfl)⟩) (k_pV hPc hDc hK hN hC hS hFc hP (q0 := 1) (ci := 7) rfl rfl) rfl rfl hl.1 rfl (lv_room (Nat.le_of_ble_eq_true rfl)) dX7_feed_31 ⟨(Nat.le_of_ble_eq_true rfl), (Nat.le_of_ble_eq_true rfl)⟩) hP hD hS hA [1, 2] [0] rfl rfl rfl rfl (by decide) (fun _ => rfl) 0 0 rfl rfl (fun u_31 H locs hw hP hD hS => ?_)
    obtain ⟨g_31_0, g_31_1⟩ := hw
    have hP : va_P (dC, dI) vwCl [((r 48), .inl (cI, 6, .inl f48)), (h, .inr (7, oM r (upd i 1 (u_31.1 0)) j)), ((r 0), .inl (cI, 1800, .inl (u_31.2.2.1 0)))] H := hP
    have hD : va_D A [((r 48), .inl (cI, 6, .inl f48)), (h, .inr (7, oM r (upd i 1 (u_31.1 0)) j)), ((r 0), .inl (cI, 1800, .inl (u_31.2.2.1 0)))] := hD
    refine lv_aload_n hx hb dX7_feed_34 rfl (lv_at hl 0 rfl) ?_
    refine lv_iload hx hb dX7_feed_35 (lv_at hl 4 rfl) ?_
    refine k_cv (wc := [(h, .inr (7, oM r (upd i 1 (u_31.1 0)) j)), ((r 0), .inl (cI, 1800, .inl (u_31.2.2.1 0)))]) (wr := [((r 48), .inl (cI, 6, .inl f48))]) (fun hPc hDc hFc => va_runV (As := [.int x4]) (rest := []) ⟨hx, hb, hml, hown, hts⟩ (s_X7_put_v3 l dC dI cI cJ cZ cM h r (upd i 1 (u_31.1 0)) j x4 (u_31.2.2.1 0) (show iR (u_31.1 0) 12 1592 from g_31_0) (mR_upd 1 hI (show iR _ (loI 1) (hiI 1) from (iR_w g_31_0 (by decide +kernel)))) g_31_1 H.size) (cwV 1 hts gX7_feed_X7_put rfl rfl rfl (by decide +kernel) ⟨(Nat.le_of_ble_eq_true rfl), (Nat.le_of_ble_eq_true rfl)⟩) (k_pV hPc hDc hK hN hC hS hFc hP (q0 := 1) (ci := 7) rfl rfl) rfl rfl hl.1 rfl (lv_room (Nat.le_of_ble_eq_true rfl)) dX7_feed_37 ⟨(Nat.le_of_ble_eq_true rfl), (Nat.le_of_ble_eq_true rfl)⟩) hP hD hS hA [1, 2] [0] rfl rfl rfl rfl (by decide) (fun _ => rfl) 0 0 rfl rfl (fun u_37 H locs hw hP hD hS => ?_)
    obtain ⟨g_37_0, g_37_1⟩ := hw
    have hP : va_P (dC, dI) vwCl [((r 48), .inl (cI, 6, .inl f48)), (h, .inr (7, oM r (upd i 1 (u_37.1 0)) j)), ((r 0), .inl (cI, 1800, .inl (u_37.2.2.1 0)))] H := hP
    have hD : va_D A [((r 48), .inl (cI, 6, .inl f48)), (h, .inr (7, oM r (upd i 1 (u_37.1 0)) j)), ((r 0), .inl (cI, 1800, .inl (u_37.2.2.1 0)))] := hD
    refine lv_aload_n hx hb dX7_feed_40 rfl (lv_at hl 0 rfl) ?_
    refine lv_iload hx hb dX7_feed_41 (lv_at hl 5 rfl) ?_
    refine k_cv (wc := [(h, .inr (7, oM r (upd i 1 (u_37.1 0)) j)), ((r 0), .inl (cI, 1800, .inl (u_37.2.2.1 0)))]) (wr := [((r 48), .inl (cI, 6, .inl f48))]) (fun hPc hDc hFc => va_runV (As := [.int x5]) (rest := []) ⟨hx, hb, hml, hown, hts⟩ (s_X7_put_v4 l dC dI cI cJ cZ cM h r (upd i 1 (u_37.1 0)) j x5 (u_37.2.2.1 0) (show iR (u_37.1 0) 16 1596 from g_37_0) (mR_upd 1 hI (show iR _ (loI 1) (hiI 1) from (iR_w g_37_0 (by decide +kernel)))) g_37_1 H.size) (cwV 1 hts gX7_feed_X7_put rfl rfl rfl (by decide +kernel) ⟨(Nat.le_of_ble_eq_true rfl), (Nat.le_of_ble_eq_true rfl)⟩) (k_pV hPc hDc hK hN hC hS hFc hP (q0 := 1) (ci := 7) rfl rfl) rfl rfl hl.1 rfl (lv_room (Nat.le_of_ble_eq_true rfl)) dX7_feed_43 ⟨(Nat.le_of_ble_eq_true rfl), (Nat.le_of_ble_eq_true rfl)⟩) hP hD hS hA [1, 2] [0] rfl rfl rfl rfl (by decide) (fun _ => rfl) 0 0 rfl rfl (fun u_43 H locs hw hP hD hS => ?_)
    obtain ⟨g_43_0, g_43_1⟩ := hw
    have hP : va_P (dC, dI) vwCl [((r 48), .inl (cI, 6, .inl f48)), (h, .inr (7, oM r (upd i 1 (u_43.1 0)) j)), ((r 0), .inl (cI, 1800, .inl (u_43.2.2.1 0)))] H := hP
    have hD : va_D A [((r 48), .inl (cI, 6, .inl f48)), (h, .inr (7, oM r (upd i 1 (u_43.1 0)) j)), ((r 0), .inl (cI, 1800, .inl (u_43.2.2.1 0)))] := hD
    refine lv_aload_n hx hb dX7_feed_46 rfl (lv_at hl 0 rfl) ?_
    refine k_get (D := (dC, dI)) (ci := 7) (v := .int (u_43.1 0)) (C := RX7) (T := TX7) (N := 92) hx hb hts hinX7 hown hK hP 1 rfl rfl 1 (by decide) w_0 rfl rfl dX7_feed_47 ?_
    exact k_ri B hP hD hS dX7_feed_50 ((fun k9 => match k9 with | 0 => (u_43.1 0) | _ => 0), (fun _ => 0), (fun k9 => match k9 with | 0 => (u_43.2.2.1 0) | 1 => f48 | _ => (fun _ => 0)), (fun _ => (fun _ => 0)), (fun _ => 0)) [1, 2, 0] rfl rfl rfl (Nat.le_of_ble_eq_true rfl) (Nat.le_of_ble_eq_true rfl) ⟨(show iR (u_43.1 0) (-1) 1600 from (iR_w g_43_0 (by decide +kernel))), (show iR (u_43.1 0) 20 1600 from g_43_0), (show aR (u_43.2.2.1 0) 0 255 from g_43_1)⟩
  · have c_10 : 1600 < y_6 := i_nle c_10
    have f_13_3 : iR y_6 1601 1620 := iR_ltR c_10 (iR_c (n := 1600) (a := 1600) (b := 1600) (by decide +kernel) (by decide +kernel)) f_6_2 (by decide +kernel)
    have f_13_4 : iR (i 1) 1581 1600 := iR_addB ey_6 f_1_1 (iR_c (n := 20) (a := 20) (b := 20) (by decide +kernel) (by decide +kernel)) f_13_3 (by decide +kernel)
    refine lv_aload_n hx hb dX7_feed_13 rfl (lv_at hl 0 rfl) ?_
    refine lv_iconst (v := 0) hx hb dX7_feed_14 (by decide +kernel) ?_
    refine k_ci (wc := [(h, .inr (7, oM r i j)), ((r 48), .inl (cI, 6, .inl f48))]) (wr := [((r 0), .inl (cI, 1800, .inl f0))]) (fun hPc hDc hFc => va_runV (As := [.int 0]) (rest := []) ⟨hx, hb, hml, hown, hts⟩ (s_X7_refuses_v0 l dC dI cI cJ cZ cM h r i j 0 f48 (iR_c (n := 0) (a := 0) (b := 5) (by decide +kernel) (by decide +kernel)) hI H.size) (cwV 1 hts gX7_feed_X7_refuses rfl rfl rfl (by decide +kernel) ⟨(Nat.le_of_ble_eq_true rfl), (Nat.le_of_ble_eq_true rfl)⟩) (k_pV hPc hDc hK hN hC hS hFc hP (q0 := 0) (ci := 7) rfl rfl) rfl rfl hl.1 rfl (lv_room (Nat.le_of_ble_eq_true rfl)) dX7_feed_15 ⟨(Nat.le_of_ble_eq_true rfl), (Nat.le_of_ble_eq_true rfl)⟩) hP hD hS hA [0, 2] [1] rfl rfl rfl rfl (by decide) (fun _ => rfl) 0 0 rfl rfl (fun r_15 u_15 H locs hw hP hD hS => ?_)
    have g_15_0 := hw
    obtain rfl : r_15 = (-1) := g_15_0
    have hP : va_P (dC, dI) vwCl [((r 0), .inl (cI, 1800, .inl f0)), (h, .inr (7, oM r i j)), ((r 48), .inl (cI, 6, .inl (u_15.2.2.1 0)))] H := hP
    have hD : va_D A [((r 0), .inl (cI, 1800, .inl f0)), (h, .inr (7, oM r i j)), ((r 48), .inl (cI, 6, .inl (u_15.2.2.1 0)))] := hD
    exact k_ri B hP hD hS dX7_feed_18 ((fun k9 => match k9 with | 0 => (i 1) | _ => 0), (fun _ => 0), (fun k9 => match k9 with | 0 => f0 | 1 => (u_15.2.2.1 0) | _ => (fun _ => 0)), (fun _ => (fun _ => 0)), (fun _ => 0)) [1, 0, 2] rfl rfl rfl (Nat.le_of_ble_eq_true rfl) (Nat.le_of_ble_eq_true rfl) ⟨(show iR (-1) (-1) 1600 from (iR_c (n := (-1)) (a := (-1)) (b := 1600) (by decide +kernel) (by decide +kernel))), (show iR (i 1) 20 1600 from (iR_w f_13_4 (by decide +kernel))), (show aR f0 0 255 from hf0)⟩
set_option maxHeartbeats 8000000 in
set_option maxRecDepth 100000 in
theorem s_X7_end_v0 (l : Launch) (dC : Nat → ClassId) (dI : Nat → Nat → Nat) (cI cJ cZ cM : ClassId) (h : Nat) (r : Nat → Nat) (i : Nat → Int32) (j : Nat → Int64) (x1 : Int32) (f48 : Nat → Int32) (hI : mR i) : k_Mi l yX7_end wsX7_end ({ frames := 2, cells := 0, slots := 0, locals := 61 }) (dC, dI) vwCl (tyy cI cJ cZ cM) [(h, .inr (7, oM r i j)), ((r 48), .inl (cI, 6, .inl f48))] [.ref h, .int x1] 0 0 (fun (u9 : SU) => [(h, .inr (7, oM r (upd i 1 (u9.1 0)) j)), ((r 48), .inl (cI, 6, .inl (u9.2.2.1 0)))]) (fun (r9 : Int32) (u9 : SU) => (iR r9 0 1) ∧ (iR (u9.1 0) 0 1600)) := by
  refine fun sz => k_enter (cc := cX7_end) (maxL := 2) (ret := some (.boolean)) (Qc := fun A => va_Qi (fun (r9 : Int32) (u9 : SU) => (iR r9 0 1) ∧ (iR (u9.1 0) 0 1600)) (fun u => k_B (dC, dI) vwCl (tyy cI cJ cZ cM) A ((fun (u9 : SU) => [(h, .inr (7, oM r (upd i 1 (u9.1 0)) j)), ((r 48), .inl (cI, 6, .inl (u9.2.2.1 0)))]) u)) A) sz (by decide +kernel) rfl (Nat.le_of_ble_eq_true rfl) (fun p e s m args below meth c A ls H locs B hP hD hS hl => ?_)
  obtain ⟨hx, hb, hml, hown, hts, hr, hlk, hnm, hK, hA, hN, hC⟩ := id B
  have hown : s.vm.findClass RX7 = some m.cls := hown
  have hl : lv_has ls 2 [(0, .ref h), (1, .int x1)] := hl
  have w_0 : (Cond.fieldLink RX7 13 "WishSeaModel" "taped" "I").before args s = true := hts _ (List.mem_of_getElem? (i := 1) rfl)
  have hinX7 : ∀ w ∈ u_ws RX7 TX7 92, w ∈ wsX7_end := fun _ h => List.mem_cons_of_mem _ (List.mem_append_right _ h)
  refine lv_iload_n hx hb dX7_end_0 rfl (lv_at hl 1 rfl) ?_
  have J_12 : ∀   (H : Heap) (locs : List Loc) (ls : Array Slot), va_P (dC, dI) vwCl [(h, .inr (7, oM r i j)), ((r 48), .inl (cI, 6, .inl f48))] H → va_D A [(h, .inr (7, oM r i j)), ((r 48), .inl (cI, 6, .inl f48))] → va_S A s.heap H locs → lv_has ls 2 [(0, .ref h)] → W p l e ({ frames := 2, cells := 0, slots := 0, locals := 61 }) s m args below meth c H locs 0 0 (MQ below (va_Qi (fun (r9 : Int32) (u9 : SU) => (iR r9 0 1) ∧ (iR (u9.1 0) 0 1600)) (fun u => k_B (dC, dI) vwCl (tyy cI cJ cZ cM) A ((fun (u9 : SU) => [(h, .inr (7, oM r (upd i 1 (u9.1 0)) j)), ((r 48), .inl (cI, 6, .inl (u9.2.2.1 0)))]) u)) A) args s 0 0 A) (F0 m 12 ls []) := by
    intro   H locs ls hP hD hS hl
    refine lv_aload_n hx hb dX7_end_12 rfl (lv_at hl 0 rfl) ?_
    refine lv_iconst (v := 0) hx hb dX7_end_13 (by decide +kernel) ?_
    refine k_ci (wc := [(h, .inr (7, oM r i j)), ((r 48), .inl (cI, 6, .inl f48))]) (wr := []) (fun hPc hDc hFc => va_runV (As := [.int 0]) (rest := []) ⟨hx, hb, hml, hown, hts⟩ (s_X7_refuses_v0 l dC dI cI cJ cZ cM h r i j 0 f48 (iR_c (n := 0) (a := 0) (b := 5) (by decide +kernel) (by decide +kernel)) hI H.size) (cwV 1 hts gX7_end_X7_refuses rfl rfl rfl (by decide +kernel) ⟨(Nat.le_of_ble_eq_true rfl), (Nat.le_of_ble_eq_true rfl)⟩) (k_pV hPc hDc hK hN hC hS hFc hP (q0 := 0) (ci := 7) rfl rfl) rfl rfl hl.1 rfl (lv_room (Nat.le_of_ble_eq_true rfl)) dX7_end_14 ⟨(Nat.le_of_ble_eq_true rfl), (Nat.le_of_ble_eq_true rfl)⟩) hP hD hS hA [0, 1] [] rfl rfl rfl rfl (by decide) (fun _ => rfl) 0 0 rfl rfl (fun r_14 u_14 H locs hw hP hD hS => ?_)
    have g_14_0 := hw
    obtain rfl : r_14 = (-1) := g_14_0
    have hP : va_P (dC, dI) vwCl [(h, .inr (7, oM r i j)), ((r 48), .inl (cI, 6, .inl (u_14.2.2.1 0)))] H := hP
    have hD : va_D A [(h, .inr (7, oM r i j)), ((r 48), .inl (cI, 6, .inl (u_14.2.2.1 0)))] := hD
    refine lv_if_lt (tgt := 24) hx hb dX7_end_17 (by decide) (fun _ => ?_) (fun q9 => absurd q9 (by decide +kernel))
    refine lv_iconst (v := 0) hx hb dX7_end_24 (by decide +kernel) ?_
    exact k_ri B hP hD hS dX7_end_25 ((fun k9 => match k9 with | 0 => (i 1) | _ => 0), (fun _ => 0), (fun k9 => match k9 with | 0 => (u_14.2.2.1 0) | _ => (fun _ => 0)), (fun _ => (fun _ => 0)), (fun _ => 0)) [0, 1] rfl rfl rfl (Nat.le_of_ble_eq_true rfl) (Nat.le_of_ble_eq_true rfl) ⟨(show iR 0 0 1 from (iR_c (n := 0) (a := 0) (b := 1) (by decide +kernel) (by decide +kernel))), (show iR (i 1) 0 1600 from (hI 1))⟩
  refine lv_if_lt (tgt := 12) hx hb dX7_end_1 (by decide) (fun c_1 => ?_) (fun c_1 => ?_)
  · have c_1 : x1 < 0 := c_1
    have f_12_1 : iR x1 (-2147483648) (-1) := iR_ltL c_1 (iR_top _) (iR_c (n := 0) (a := 0) (b := 0) (by decide +kernel) (by decide +kernel)) (by decide +kernel)
    exact J_12   H locs ls hP hD hS (lv_sub hl [0] rfl)
  · have c_1 : 0 ≤ x1 := i_nlt c_1
    have f_4_1 : iR x1 0 2147483647 := iR_leR c_1 (iR_c (n := 0) (a := 0) (b := 0) (by decide +kernel) (by decide +kernel)) (iR_top _) (by decide +kernel)
    refine lv_iload_n hx hb dX7_end_4 rfl (lv_at hl 1 rfl) ?_
    refine lv_aload_n hx hb dX7_end_5 rfl (lv_at hl 0 rfl) ?_
    have f_6_2 : iR (i 1) 0 1600 := hI 1
    refine k_get (D := (dC, dI)) (ci := 7) (v := .int (i 1)) (C := RX7) (T := TX7) (N := 92) hx hb hts hinX7 hown hK hP 0 rfl rfl 1 (by decide) w_0 rfl rfl dX7_end_6 ?_
    refine lv_icmp_le (tgt := 26) hx hb dX7_end_9 (by decide) (fun c_9 => ?_) (fun c_9 => ?_)
    · have c_9 : x1 ≤ (i 1) := c_9
      have f_26_3 : iR x1 0 1600 := iR_leL c_9 f_4_1 f_6_2 (by decide +kernel)
      refine lv_aload_n hx hb dX7_end_26 rfl (lv_at hl 0 rfl) ?_
      refine lv_iload_n hx hb dX7_end_27 rfl (lv_at hl 1 rfl) ?_
      refine k_put (D := (dC, dI)) (ci := 7) (v := .int x1) (C := RX7) (T := TX7) (N := 92) (ws' := [(h, .inr (7, oM r (upd i 1 x1) j)), ((r 48), .inl (cI, 6, .inl f48))]) hx hb hts hinX7 tyX7 tyX7_ok nmX7 hown hK hP hD hS 0 rfl rfl 1 (by decide) w_0 rfl rfl rfl rfl (Nat.le_of_ble_eq_true rfl) rfl dX7_end_28 (fun H locs hP hD hS => ?_)
      refine lv_iconst (v := 1) hx hb dX7_end_31 (by decide +kernel) ?_
      exact k_ri B hP hD hS dX7_end_32 ((fun k9 => match k9 with | 0 => x1 | _ => 0), (fun _ => 0), (fun k9 => match k9 with | 0 => f48 | _ => (fun _ => 0)), (fun _ => (fun _ => 0)), (fun _ => 0)) [0, 1] rfl rfl rfl (Nat.le_of_ble_eq_true rfl) (Nat.le_of_ble_eq_true rfl) ⟨(show iR 1 0 1 from (iR_c (n := 1) (a := 0) (b := 1) (by decide +kernel) (by decide +kernel))), (show iR x1 0 1600 from f_26_3)⟩
    · have c_9 : (i 1) < x1 := i_nle c_9
      have f_12_3 : iR x1 1 2147483647 := iR_ltR c_9 f_6_2 f_4_1 (by decide +kernel)
      exact J_12   H locs ls hP hD hS (lv_sub hl [0] rfl)
set_option maxHeartbeats 8000000 in
set_option maxRecDepth 100000 in
theorem s_X7_isLetter_v0 (l : Launch) (dC : Nat → ClassId) (dI : Nat → Nat → Nat) (cI cJ cZ cM : ClassId) (x0 : Int32)  : k_Mi l yX7_isLetter wsX7_isLetter ({ frames := 1, cells := 0, slots := 0, locals := 40 }) (dC, dI) vwCl (tyy cI cJ cZ cM) [] [.int x0] 0 0 (fun (u9 : Unit) => []) (fun (r9 : Int32) (u9 : Unit) => (iR r9 0 1) ∧ ((r9 = 0) ∨ ((97 ≤ x0) ∧ (x0 ≤ 122)))) := by
  refine fun sz => k_enter (cc := cX7_isLetter) (maxL := 1) (ret := some (.boolean)) (Qc := fun A => va_Qi (fun (r9 : Int32) (u9 : Unit) => (iR r9 0 1) ∧ ((r9 = 0) ∨ ((97 ≤ x0) ∧ (x0 ≤ 122)))) (fun u => k_B (dC, dI) vwCl (tyy cI cJ cZ cM) A ((fun (u9 : Unit) => []) u)) A) sz (by decide +kernel) rfl (Nat.le_of_ble_eq_true rfl) (fun p e s m args below meth c A ls H locs B hP hD hS hl => ?_)
  obtain ⟨hx, hb, hml, hown, hts, hr, hlk, hnm, hK, hA, hN, hC⟩ := id B
  have hown : s.vm.findClass RX7 = some m.cls := hown
  have hl : lv_has ls 1 [(0, .int x0)] := hl
  refine lv_iload_n hx hb dX7_isLetter_0 rfl (lv_at hl 0 rfl) ?_
  refine lv_bipush (v := 97) hx hb dX7_isLetter_1 (by decide +kernel) ?_
  have J_16 : ∀   (H : Heap) (locs : List Loc) (ls : Array Slot), va_P (dC, dI) vwCl [] H → va_D A [] → va_S A s.heap H locs → lv_has ls 1 [] → W p l e ({ frames := 1, cells := 0, slots := 0, locals := 40 }) s m args below meth c H locs 0 0 (MQ below (va_Qi (fun (r9 : Int32) (u9 : Unit) => (iR r9 0 1) ∧ ((r9 = 0) ∨ ((97 ≤ x0) ∧ (x0 ≤ 122)))) (fun u => k_B (dC, dI) vwCl (tyy cI cJ cZ cM) A ((fun (u9 : Unit) => []) u)) A) args s 0 0 A) (F0 m 16 ls []) := by
    intro   H locs ls hP hD hS hl
    refine lv_iconst (v := 0) hx hb dX7_isLetter_16 (by decide +kernel) ?_
    exact k_ri B hP hD hS dX7_isLetter_17 () [] rfl rfl rfl (Nat.le_of_ble_eq_true rfl) (Nat.le_of_ble_eq_true rfl) ⟨(show iR 0 0 1 from (iR_c (n := 0) (a := 0) (b := 1) (by decide +kernel) (by decide +kernel))), (show (0 = 0) ∨ ((97 ≤ x0) ∧ (x0 ≤ 122)) from (Or.inl rfl))⟩
  refine lv_icmp_lt (tgt := 16) hx hb dX7_isLetter_3 (by decide) (fun c_3 => ?_) (fun c_3 => ?_)
  · have c_3 : x0 < 97 := c_3
    have f_16_1 : iR x0 (-2147483648) 96 := iR_ltL c_3 (iR_top _) (iR_c (n := 97) (a := 97) (b := 97) (by decide +kernel) (by decide +kernel)) (by decide +kernel)
    exact J_16   H locs ls hP hD hS (lv_sub hl [] rfl)
  · have c_3 : 97 ≤ x0 := i_nlt c_3
    have f_6_1 : iR x0 97 2147483647 := iR_leR c_3 (iR_c (n := 97) (a := 97) (b := 97) (by decide +kernel) (by decide +kernel)) (iR_top _) (by decide +kernel)
    refine lv_iload_n hx hb dX7_isLetter_6 rfl (lv_at hl 0 rfl) ?_
    refine lv_bipush (v := 122) hx hb dX7_isLetter_7 (by decide +kernel) ?_
    refine lv_icmp_gt (tgt := 16) hx hb dX7_isLetter_9 (by decide) (fun c_9 => ?_) (fun c_9 => ?_)
    · have c_9 : 122 < x0 := c_9
      have f_16_2 : iR x0 123 2147483647 := iR_ltR c_9 (iR_c (n := 122) (a := 122) (b := 122) (by decide +kernel) (by decide +kernel)) f_6_1 (by decide +kernel)
      exact J_16   H locs ls hP hD hS (lv_sub hl [] rfl)
    · have c_9 : x0 ≤ 122 := i_nlt c_9
      have f_12_2 : iR x0 97 122 := iR_leL c_9 f_6_1 (iR_c (n := 122) (a := 122) (b := 122) (by decide +kernel) (by decide +kernel)) (by decide +kernel)
      refine lv_iconst (v := 1) hx hb dX7_isLetter_12 (by decide +kernel) ?_
      refine lv_goto (tgt := 17) hx hb dX7_isLetter_13 (by decide) ?_
      exact k_ri B hP hD hS dX7_isLetter_17 () [] rfl rfl rfl (Nat.le_of_ble_eq_true rfl) (Nat.le_of_ble_eq_true rfl) ⟨(show iR 1 0 1 from (iR_c (n := 1) (a := 0) (b := 1) (by decide +kernel) (by decide +kernel))), (show (1 = 0) ∨ ((97 ≤ x0) ∧ (x0 ≤ 122)) from (Or.inr ⟨c_3, c_9⟩))⟩
set_option maxHeartbeats 8000000 in
set_option maxRecDepth 100000 in
theorem s_X7_isDigit_v0 (l : Launch) (dC : Nat → ClassId) (dI : Nat → Nat → Nat) (cI cJ cZ cM : ClassId) (x0 : Int32)  : k_Mi l yX7_isDigit wsX7_isDigit ({ frames := 1, cells := 0, slots := 0, locals := 40 }) (dC, dI) vwCl (tyy cI cJ cZ cM) [] [.int x0] 0 0 (fun (u9 : Unit) => []) (fun (r9 : Int32) (u9 : Unit) => (iR r9 0 1) ∧ ((r9 = 0) ∨ ((48 ≤ x0) ∧ (x0 ≤ 57)))) := by
  refine fun sz => k_enter (cc := cX7_isDigit) (maxL := 1) (ret := some (.boolean)) (Qc := fun A => va_Qi (fun (r9 : Int32) (u9 : Unit) => (iR r9 0 1) ∧ ((r9 = 0) ∨ ((48 ≤ x0) ∧ (x0 ≤ 57)))) (fun u => k_B (dC, dI) vwCl (tyy cI cJ cZ cM) A ((fun (u9 : Unit) => []) u)) A) sz (by decide +kernel) rfl (Nat.le_of_ble_eq_true rfl) (fun p e s m args below meth c A ls H locs B hP hD hS hl => ?_)
  obtain ⟨hx, hb, hml, hown, hts, hr, hlk, hnm, hK, hA, hN, hC⟩ := id B
  have hown : s.vm.findClass RX7 = some m.cls := hown
  have hl : lv_has ls 1 [(0, .int x0)] := hl
  refine lv_iload_n hx hb dX7_isDigit_0 rfl (lv_at hl 0 rfl) ?_
  refine lv_bipush (v := 48) hx hb dX7_isDigit_1 (by decide +kernel) ?_
  have J_16 : ∀   (H : Heap) (locs : List Loc) (ls : Array Slot), va_P (dC, dI) vwCl [] H → va_D A [] → va_S A s.heap H locs → lv_has ls 1 [] → W p l e ({ frames := 1, cells := 0, slots := 0, locals := 40 }) s m args below meth c H locs 0 0 (MQ below (va_Qi (fun (r9 : Int32) (u9 : Unit) => (iR r9 0 1) ∧ ((r9 = 0) ∨ ((48 ≤ x0) ∧ (x0 ≤ 57)))) (fun u => k_B (dC, dI) vwCl (tyy cI cJ cZ cM) A ((fun (u9 : Unit) => []) u)) A) args s 0 0 A) (F0 m 16 ls []) := by
    intro   H locs ls hP hD hS hl
    refine lv_iconst (v := 0) hx hb dX7_isDigit_16 (by decide +kernel) ?_
    exact k_ri B hP hD hS dX7_isDigit_17 () [] rfl rfl rfl (Nat.le_of_ble_eq_true rfl) (Nat.le_of_ble_eq_true rfl) ⟨(show iR 0 0 1 from (iR_c (n := 0) (a := 0) (b := 1) (by decide +kernel) (by decide +kernel))), (show (0 = 0) ∨ ((48 ≤ x0) ∧ (x0 ≤ 57)) from (Or.inl rfl))⟩
  refine lv_icmp_lt (tgt := 16) hx hb dX7_isDigit_3 (by decide) (fun c_3 => ?_) (fun c_3 => ?_)
  · have c_3 : x0 < 48 := c_3
    have f_16_1 : iR x0 (-2147483648) 47 := iR_ltL c_3 (iR_top _) (iR_c (n := 48) (a := 48) (b := 48) (by decide +kernel) (by decide +kernel)) (by decide +kernel)
    exact J_16   H locs ls hP hD hS (lv_sub hl [] rfl)
  · have c_3 : 48 ≤ x0 := i_nlt c_3
    have f_6_1 : iR x0 48 2147483647 := iR_leR c_3 (iR_c (n := 48) (a := 48) (b := 48) (by decide +kernel) (by decide +kernel)) (iR_top _) (by decide +kernel)
    refine lv_iload_n hx hb dX7_isDigit_6 rfl (lv_at hl 0 rfl) ?_
    refine lv_bipush (v := 57) hx hb dX7_isDigit_7 (by decide +kernel) ?_
    refine lv_icmp_gt (tgt := 16) hx hb dX7_isDigit_9 (by decide) (fun c_9 => ?_) (fun c_9 => ?_)
    · have c_9 : 57 < x0 := c_9
      have f_16_2 : iR x0 58 2147483647 := iR_ltR c_9 (iR_c (n := 57) (a := 57) (b := 57) (by decide +kernel) (by decide +kernel)) f_6_1 (by decide +kernel)
      exact J_16   H locs ls hP hD hS (lv_sub hl [] rfl)
    · have c_9 : x0 ≤ 57 := i_nlt c_9
      have f_12_2 : iR x0 48 57 := iR_leL c_9 f_6_1 (iR_c (n := 57) (a := 57) (b := 57) (by decide +kernel) (by decide +kernel)) (by decide +kernel)
      refine lv_iconst (v := 1) hx hb dX7_isDigit_12 (by decide +kernel) ?_
      refine lv_goto (tgt := 17) hx hb dX7_isDigit_13 (by decide) ?_
      exact k_ri B hP hD hS dX7_isDigit_17 () [] rfl rfl rfl (Nat.le_of_ble_eq_true rfl) (Nat.le_of_ble_eq_true rfl) ⟨(show iR 1 0 1 from (iR_c (n := 1) (a := 0) (b := 1) (by decide +kernel) (by decide +kernel))), (show (1 = 0) ∨ ((48 ≤ x0) ∧ (x0 ≤ 57)) from (Or.inr ⟨c_3, c_9⟩))⟩
set_option maxHeartbeats 8000000 in
set_option maxRecDepth 100000 in
theorem s_X7_isLetter_v1 (l : Launch) (dC : Nat → ClassId) (dI : Nat → Nat → Nat) (cI cJ cZ cM : ClassId) (x0 : Int32) (hx0 : iR x0 97 122) : k_Mi l yX7_isLetter wsX7_isLetter ({ frames := 1, cells := 0, slots := 0, locals := 40 }) (dC, dI) vwCl (tyy cI cJ cZ cM) [] [.int x0] 0 0 (fun (u9 : Unit) => []) (fun (r9 : Int32) (u9 : Unit) => (r9 = 1) ∧ ((r9 = 0) ∨ ((97 ≤ x0) ∧ (x0 ≤ 122)))) := by
  refine fun sz => k_enter (cc := cX7_isLetter) (maxL := 1) (ret := some (.boolean)) (Qc := fun A => va_Qi (fun (r9 : Int32) (u9 : Unit) => (r9 = 1) ∧ ((r9 = 0) ∨ ((97 ≤ x0) ∧ (x0 ≤ 122)))) (fun u => k_B (dC, dI) vwCl (tyy cI cJ cZ cM) A ((fun (u9 : Unit) => []) u)) A) sz (by decide +kernel) rfl (Nat.le_of_ble_eq_true rfl) (fun p e s m args below meth c A ls H locs B hP hD hS hl => ?_)
  obtain ⟨hx, hb, hml, hown, hts, hr, hlk, hnm, hK, hA, hN, hC⟩ := id B
  have hown : s.vm.findClass RX7 = some m.cls := hown
  have hl : lv_has ls 1 [(0, .int x0)] := hl
  refine lv_iload_n hx hb dX7_isLetter_0 rfl (lv_at hl 0 rfl) ?_
  refine lv_bipush (v := 97) hx hb dX7_isLetter_1 (by decide +kernel) ?_
  refine lv_icmp_lt (tgt := 16) hx hb dX7_isLetter_3 (by decide) (fun c_3 => ?_) (fun c_3 => ?_)
  · exact iR_cl (iR_ltL (a' := 97) (b' := 96) c_3 hx0 (iR_c (n := 97) (a := 97) (b := 97) (by decide +kernel) (by decide +kernel)) (by decide +kernel)) (by decide +kernel)
  · have c_3 : 97 ≤ x0 := i_nlt c_3
    refine lv_iload_n hx hb dX7_isLetter_6 rfl (lv_at hl 0 rfl) ?_
    refine lv_bipush (v := 122) hx hb dX7_isLetter_7 (by decide +kernel) ?_
    refine lv_icmp_gt (tgt := 16) hx hb dX7_isLetter_9 (by decide) (fun c_9 => ?_) (fun c_9 => ?_)
    · exact iR_cl (iR_ltL (a' := 122) (b' := 121) c_9 (iR_c (n := 122) (a := 122) (b := 122) (by decide +kernel) (by decide +kernel)) hx0 (by decide +kernel)) (by decide +kernel)
    · have c_9 : x0 ≤ 122 := i_nlt c_9
      refine lv_iconst (v := 1) hx hb dX7_isLetter_12 (by decide +kernel) ?_
      refine lv_goto (tgt := 17) hx hb dX7_isLetter_13 (by decide) ?_
      exact k_ri B hP hD hS dX7_isLetter_17 () [] rfl rfl rfl (Nat.le_of_ble_eq_true rfl) (Nat.le_of_ble_eq_true rfl) ⟨rfl, (show (1 = 0) ∨ ((97 ≤ x0) ∧ (x0 ≤ 122)) from (Or.inr ⟨c_3, c_9⟩))⟩
set_option maxHeartbeats 8000000 in
set_option maxRecDepth 100000 in
theorem s_X7_isDigit_v1 (l : Launch) (dC : Nat → ClassId) (dI : Nat → Nat → Nat) (cI cJ cZ cM : ClassId) (x0 : Int32) (hx0 : iR x0 48 57) : k_Mi l yX7_isDigit wsX7_isDigit ({ frames := 1, cells := 0, slots := 0, locals := 40 }) (dC, dI) vwCl (tyy cI cJ cZ cM) [] [.int x0] 0 0 (fun (u9 : Unit) => []) (fun (r9 : Int32) (u9 : Unit) => (r9 = 1) ∧ ((r9 = 0) ∨ ((48 ≤ x0) ∧ (x0 ≤ 57)))) := by
  refine fun sz => k_enter (cc := cX7_isDigit) (maxL := 1) (ret := some (.boolean)) (Qc := fun A => va_Qi (fun (r9 : Int32) (u9 : Unit) => (r9 = 1) ∧ ((r9 = 0) ∨ ((48 ≤ x0) ∧ (x0 ≤ 57)))) (fun u => k_B (dC, dI) vwCl (tyy cI cJ cZ cM) A ((fun (u9 : Unit) => []) u)) A) sz (by decide +kernel) rfl (Nat.le_of_ble_eq_true rfl) (fun p e s m args below meth c A ls H locs B hP hD hS hl => ?_)
  obtain ⟨hx, hb, hml, hown, hts, hr, hlk, hnm, hK, hA, hN, hC⟩ := id B
  have hown : s.vm.findClass RX7 = some m.cls := hown
  have hl : lv_has ls 1 [(0, .int x0)] := hl
  refine lv_iload_n hx hb dX7_isDigit_0 rfl (lv_at hl 0 rfl) ?_
  refine lv_bipush (v := 48) hx hb dX7_isDigit_1 (by decide +kernel) ?_
  refine lv_icmp_lt (tgt := 16) hx hb dX7_isDigit_3 (by decide) (fun c_3 => ?_) (fun c_3 => ?_)
  · exact iR_cl (iR_ltL (a' := 48) (b' := 47) c_3 hx0 (iR_c (n := 48) (a := 48) (b := 48) (by decide +kernel) (by decide +kernel)) (by decide +kernel)) (by decide +kernel)
  · have c_3 : 48 ≤ x0 := i_nlt c_3
    refine lv_iload_n hx hb dX7_isDigit_6 rfl (lv_at hl 0 rfl) ?_
    refine lv_bipush (v := 57) hx hb dX7_isDigit_7 (by decide +kernel) ?_
    refine lv_icmp_gt (tgt := 16) hx hb dX7_isDigit_9 (by decide) (fun c_9 => ?_) (fun c_9 => ?_)
    · exact iR_cl (iR_ltL (a' := 57) (b' := 56) c_9 (iR_c (n := 57) (a := 57) (b := 57) (by decide +kernel) (by decide +kernel)) hx0 (by decide +kernel)) (by decide +kernel)
    · have c_9 : x0 ≤ 57 := i_nlt c_9
      refine lv_iconst (v := 1) hx hb dX7_isDigit_12 (by decide +kernel) ?_
      refine lv_goto (tgt := 17) hx hb dX7_isDigit_13 (by decide) ?_
      exact k_ri B hP hD hS dX7_isDigit_17 () [] rfl rfl rfl (Nat.le_of_ble_eq_true rfl) (Nat.le_of_ble_eq_true rfl) ⟨rfl, (show (1 = 0) ∨ ((48 ≤ x0) ∧ (x0 ≤ 57)) from (Or.inr ⟨c_3, c_9⟩))⟩
set_option maxHeartbeats 8000000 in
set_option maxRecDepth 100000 in
theorem s_X7_isOwn_v0 (l : Launch) (dC : Nat → ClassId) (dI : Nat → Nat → Nat) (cI cJ cZ cM : ClassId) (h : Nat) (x1 : Int64)  : k_Mi l yX7_isOwn wsX7_isOwn ({ frames := 1, cells := 0, slots := 0, locals := 40 }) (dC, dI) vwCl (tyy cI cJ cZ cM) [] [.ref h, .long x1] 0 0 (fun (u9 : Unit) => []) (fun (r9 : Int32) (u9 : Unit) => (iR r9 0 1)) := by
  refine fun sz => k_enter (cc := cX7_isOwn) (maxL := 3) (ret := some (.boolean)) (Qc := fun A => va_Qi (fun (r9 : Int32) (u9 : Unit) => (iR r9 0 1)) (fun u => k_B (dC, dI) vwCl (tyy cI cJ cZ cM) A ((fun (u9 : Unit) => []) u)) A) sz (by decide +kernel) rfl (Nat.le_of_ble_eq_true rfl) (fun p e s m args below meth c A ls H locs B hP hD hS hl => ?_)
  obtain ⟨hx, hb, hml, hown, hts, hr, hlk, hnm, hK, hA, hN, hC⟩ := id B
  have hown : s.vm.findClass RX7 = some m.cls := hown
  have hl : lv_has ls 3 [(0, .ref h), (1, .long x1)] := hl
  have w_0 : (Cond.constantLong RX7 323 (499967946343)).before args s = true := hts _ (List.mem_of_getElem? (i := 1) rfl)
  have w_1 : (Cond.constantLong RX7 325 (512970880104)).before args s = true := hts _ (List.mem_of_getElem? (i := 2) rfl)
  have w_2 : (Cond.constantLong RX7 327 (125793039377779)).before args s = true := hts _ (List.mem_of_getElem? (i := 3) rfl)
  have w_3 : (Cond.constantLong RX7 329 (422826304870)).before args s = true := hts _ (List.mem_of_getElem? (i := 4) rfl)
  have w_4 : (Cond.constantLong RX7 331 (2003399528)).before args s = true := hts _ (List.mem_of_getElem? (i := 5) rfl)
  have w_5 : (Cond.constantLong RX7 333 (512970876019)).before args s = true := hts _ (List.mem_of_getElem? (i := 6) rfl)
  have w_6 : (Cond.constantLong RX7 335 (444150998387)).before args s = true := hts _ (List.mem_of_getElem? (i := 7) rfl)
  have w_7 : (Cond.constantLong RX7 337 (474147546227)).before args s = true := hts _ (List.mem_of_getElem? (i := 8) rfl)
  have w_8 : (Cond.constantLong RX7 339 (1970496883)).before args s = true := hts _ (List.mem_of_getElem? (i := 9) rfl)
  have w_9 : (Cond.constantLong RX7 341 (439855772532)).before args s = true := hts _ (List.mem_of_getElem? (i := 10) rfl)
  have w_10 : (Cond.constantLong RX7 343 (1684107883)).before args s = true := hts _ (List.mem_of_getElem? (i := 11) rfl)
  have w_11 : (Cond.constantLong RX7 345 (1919905645)).before args s = true := hts _ (List.mem_of_getElem? (i := 12) rfl)
  have w_12 : (Cond.constantLong RX7 347 (27988542884245108)).before args s = true := hts _ (List.mem_of_getElem? (i := 13) rfl)
  have w_13 : (Cond.constantLong RX7 349 (422607680115)).before args s = true := hts _ (List.mem_of_getElem? (i := 14) rfl)
  have w_14 : (Cond.constantLong RX7 351 (1667329133)).before args s = true := hts _ (List.mem_of_getElem? (i := 15) rfl)
  have w_15 : (Cond.constantLong RX7 353 (6840676)).before args s = true := hts _ (List.mem_of_getElem? (i := 16) rfl)
  have w_16 : (Cond.constantLong RX7 355 (7562593)).before args s = true := hts _ (List.mem_of_getElem? (i := 17) rfl)
  have w_17 : (Cond.constantLong RX7 357 (1935763812)).before args s = true := hts _ (List.mem_of_getElem? (i := 18) rfl)
  have w_18 : (Cond.constantLong RX7 359 (6578553)).before args s = true := hts _ (List.mem_of_getElem? (i := 19) rfl)
  have w_19 : (Cond.constantLong RX7 361 (28530)).before args s = true := hts _ (List.mem_of_getElem? (i := 20) rfl)
  have w_20 : (Cond.constantLong RX7 363 (6385252)).before args s = true := hts _ (List.mem_of_getElem? (i := 21) rfl)
  have w_21 : (Cond.constantLong RX7 365 (7237492)).before args s = true := hts _ (List.mem_of_getElem? (i := 22) rfl)
  have w_22 : (Cond.constantLong RX7 367 (6384748)).before args s = true := hts _ (List.mem_of_getElem? (i := 23) rfl)
  have w_23 : (Cond.constantLong RX7 369 (7170414)).before args s = true := hts _ (List.mem_of_getElem? (i := 24) rfl)
  have w_24 : (Cond.constantLong RX7 371 (7168376)).before args s = true := hts _ (List.mem_of_getElem? (i := 25) rfl)
  refine lv_lload_n hx hb dX7_isOwn_0 rfl (lv_at hl 1 rfl) ?_
  refine lv_ldc2 (v := 499967946343) hx hb hown w_0 dX7_isOwn_1 ?_
  refine W.lcmp hx hb dX7_isOwn_4 ?_
  refine lv_topi (fun y_4 ey_4 => ?_)
  have J_40 : ∀   (H : Heap) (locs : List Loc) (ls : Array Slot), va_P (dC, dI) vwCl [] H → va_D A [] → va_S A s.heap H locs → lv_has ls 3 [] → W p l e ({ frames := 1, cells := 0, slots := 0, locals := 40 }) s m args below meth c H locs 0 0 (MQ below (va_Qi (fun (r9 : Int32) (u9 : Unit) => (iR r9 0 1)) (fun u => k_B (dC, dI) vwCl (tyy cI cJ cZ cM) A ((fun (u9 : Unit) => []) u)) A) args s 0 0 A) (F0 m 40 ls []) := by
    intro   H locs ls hP hD hS hl
    refine lv_iconst (v := 1) hx hb dX7_isOwn_40 (by decide +kernel) ?_
    exact k_ri B hP hD hS dX7_isOwn_41 () [] rfl rfl rfl (Nat.le_of_ble_eq_true rfl) (Nat.le_of_ble_eq_true rfl) (show iR 1 0 1 from (iR_c (n := 1) (a := 0) (b := 1) (by decide +kernel) (by decide +kernel)))
  refine lv_if_eq (tgt := 40) hx hb dX7_isOwn_5 (by decide) (fun c_5 => ?_) (fun c_5 => ?_)
  · have c_5 : y_4 = 0 := c_5
    have f_40_1 : iR y_4 0 0 := iR_eqL c_5 (iR_top _) (iR_c (n := 0) (a := 0) (b := 0) (by decide +kernel) (by decide +kernel)) (by decide +kernel)
    have lc_5 : x1 = 499967946343 := l_cmpe ey_4 c_5
    exact J_40   H locs ls hP hD hS (lv_sub hl [] rfl)
  · have c_5 : ¬ y_4 = 0 := c_5
    have lc_5 : ¬ x1 = 499967946343 := l_cmpne ey_4 c_5
    refine lv_lload_n hx hb dX7_isOwn_8 rfl (lv_at hl 1 rfl) ?_
    refine lv_ldc2 (v := 512970880104) hx hb hown w_1 dX7_isOwn_9 ?_
    refine W.lcmp hx hb dX7_isOwn_12 ?_
    refine lv_topi (fun y_12 ey_12 => ?_)
    refine lv_if_eq (tgt := 40) hx hb dX7_isOwn_13 (by decide) (fun c_13 => ?_) (fun c_13 => ?_)
    · have c_13 : y_12 = 0 := c_13
      have f_40_1 : iR y_12 0 0 := iR_eqL c_13 (iR_top _) (iR_c (n := 0) (a := 0) (b := 0) (by decide +kernel) (by decide +kernel)) (by decide +kernel)
      have lc_13 : x1 = 512970880104 := l_cmpe ey_12 c_13
      exact J_40   H locs ls hP hD hS (lv_sub hl [] rfl)
    · have c_13 : ¬ y_12 = 0 := c_13
      have lc_13 : ¬ x1 = 512970880104 := l_cmpne ey_12 c_13
      refine lv_lload_n hx hb dX7_isOwn_16 rfl (lv_at hl 1 rfl) ?_
      refine lv_ldc2 (v := 125793039377779) hx hb hown w_2 dX7_isOwn_17 ?_
      refine W.lcmp hx hb dX7_isOwn_20 ?_
      refine lv_topi (fun y_20 ey_20 => ?_)
      refine lv_if_eq (tgt := 40) hx hb dX7_isOwn_21 (by decide) (fun c_21 => ?_) (fun c_21 => ?_)
      · have c_21 : y_20 = 0 := c_21
        have f_40_1 : iR y_20 0 0 := iR_eqL c_21 (iR_top _) (iR_c (n := 0) (a := 0) (b := 0) (by decide +kernel) (by decide +kernel)) (by decide +kernel)
        have lc_21 : x1 = 125793039377779 := l_cmpe ey_20 c_21
        exact J_40   H locs ls hP hD hS (lv_sub hl [] rfl)
      · have c_21 : ¬ y_20 = 0 := c_21
        have lc_21 : ¬ x1 = 125793039377779 := l_cmpne ey_20 c_21
        refine lv_lload_n hx hb dX7_isOwn_24 rfl (lv_at hl 1 rfl) ?_
        refine lv_ldc2 (v := 422826304870) hx hb hown w_3 dX7_isOwn_25 ?_
        refine W.lcmp hx hb dX7_isOwn_28 ?_
        refine lv_topi (fun y_28 ey_28 => ?_)
        refine lv_if_eq (tgt := 40) hx hb dX7_isOwn_29 (by decide) (fun c_29 => ?_) (fun c_29 => ?_)
        · have c_29 : y_28 = 0 := c_29
          have f_40_1 : iR y_28 0 0 := iR_eqL c_29 (iR_top _) (iR_c (n := 0) (a := 0) (b := 0) (by decide +kernel) (by decide +kernel)) (by decide +kernel)
          have lc_29 : x1 = 422826304870 := l_cmpe ey_28 c_29
          exact J_40   H locs ls hP hD hS (lv_sub hl [] rfl)
        · have c_29 : ¬ y_28 = 0 := c_29
          have lc_29 : ¬ x1 = 422826304870 := l_cmpne ey_28 c_29
          refine lv_lload_n hx hb dX7_isOwn_32 rfl (lv_at hl 1 rfl) ?_
          refine lv_ldc2 (v := 2003399528) hx hb hown w_4 dX7_isOwn_33 ?_
          refine W.lcmp hx hb dX7_isOwn_36 ?_
          refine lv_topi (fun y_36 ey_36 => ?_)
          refine lv_if_ne (tgt := 42) hx hb dX7_isOwn_37 (by decide) (fun c_37 => ?_) (fun c_37 => ?_)
          · have c_37 : ¬ y_36 = 0 := c_37
            have lc_37 : ¬ x1 = 2003399528 := l_cmpne ey_36 c_37
            refine lv_lload_n hx hb dX7_isOwn_42 rfl (lv_at hl 1 rfl) ?_
            refine lv_ldc2 (v := 512970876019) hx hb hown w_5 dX7_isOwn_43 ?_
            refine W.lcmp hx hb dX7_isOwn_46 ?_
            refine lv_topi (fun y_46 ey_46 => ?_)
            have J_82 : ∀   (H : Heap) (locs : List Loc) (ls : Array Slot), va_P (dC, dI) vwCl [] H → va_D A [] → va_S A s.heap H locs → lv_has ls 3 [] → W p l e ({ frames := 1, cells := 0, slots := 0, locals := 40 }) s m args below meth c H locs 0 0 (MQ below (va_Qi (fun (r9 : Int32) (u9 : Unit) => (iR r9 0 1)) (fun u => k_B (dC, dI) vwCl (tyy cI cJ cZ cM) A ((fun (u9 : Unit) => []) u)) A) args s 0 0 A) (F0 m 82 ls []) := by
              intro   H locs ls hP hD hS hl
              refine lv_iconst (v := 1) hx hb dX7_isOwn_82 (by decide +kernel) ?_
              exact k_ri B hP hD hS dX7_isOwn_83 () [] rfl rfl rfl (Nat.le_of_ble_eq_true rfl) (Nat.le_of_ble_eq_true rfl) (show iR 1 0 1 from (iR_c (n := 1) (a := 0) (b := 1) (by decide +kernel) (by decide +kernel)))
            refine lv_if_eq (tgt := 82) hx hb dX7_isOwn_47 (by decide) (fun c_47 => ?_) (fun c_47 => ?_)
            · have c_47 : y_46 = 0 := c_47
              have f_82_1 : iR y_46 0 0 := iR_eqL c_47 (iR_top _) (iR_c (n := 0) (a := 0) (b := 0) (by decide +kernel) (by decide +kernel)) (by decide +kernel)
              have lc_47 : x1 = 512970876019 := l_cmpe ey_46 c_47
              exact J_82   H locs ls hP hD hS (lv_sub hl [] rfl)
            · have c_47 : ¬ y_46 = 0 := c_47
              have lc_47 : ¬ x1 = 512970876019 := l_cmpne ey_46 c_47
              refine lv_lload_n hx hb dX7_isOwn_50 rfl (lv_at hl 1 rfl) ?_
              refine lv_ldc2 (v := 444150998387) hx hb hown w_6 dX7_isOwn_51 ?_
              refine W.lcmp hx hb dX7_isOwn_54 ?_
              refine lv_topi (fun y_54 ey_54 => ?_)
              refine lv_if_eq (tgt := 82) hx hb dX7_isOwn_55 (by decide) (fun c_55 => ?_) (fun c_55 => ?_)
              · have c_55 : y_54 = 0 := c_55
                have f_82_1 : iR y_54 0 0 := iR_eqL c_55 (iR_top _) (iR_c (n := 0) (a := 0) (b := 0) (by decide +kernel) (by decide +kernel)) (by decide +kernel)
                have lc_55 : x1 = 444150998387 := l_cmpe ey_54 c_55
                exact J_82   H locs ls hP hD hS (lv_sub hl [] rfl)
              · have c_55 : ¬ y_54 = 0 := c_55
                have lc_55 : ¬ x1 = 444150998387 := l_cmpne ey_54 c_55
                refine lv_lload_n hx hb dX7_isOwn_58 rfl (lv_at hl 1 rfl) ?_
                refine lv_ldc2 (v := 474147546227) hx hb hown w_7 dX7_isOwn_59 ?_
                refine W.lcmp hx hb dX7_isOwn_62 ?_
                refine lv_topi (fun y_62 ey_62 => ?_)
                refine lv_if_eq (tgt := 82) hx hb dX7_isOwn_63 (by decide) (fun c_63 => ?_) (fun c_63 => ?_)
                · have c_63 : y_62 = 0 := c_63
                  have f_82_1 : iR y_62 0 0 := iR_eqL c_63 (iR_top _) (iR_c (n := 0) (a := 0) (b := 0) (by decide +kernel) (by decide +kernel)) (by decide +kernel)
                  have lc_63 : x1 = 474147546227 := l_cmpe ey_62 c_63
                  exact J_82   H locs ls hP hD hS (lv_sub hl [] rfl)
                · have c_63 : ¬ y_62 = 0 := c_63
                  have lc_63 : ¬ x1 = 474147546227 := l_cmpne ey_62 c_63
                  refine lv_lload_n hx hb dX7_isOwn_66 rfl (lv_at hl 1 rfl) ?_
                  refine lv_ldc2 (v := 1970496883) hx hb hown w_8 dX7_isOwn_67 ?_
                  refine W.lcmp hx hb dX7_isOwn_70 ?_
                  refine lv_topi (fun y_70 ey_70 => ?_)
                  refine lv_if_eq (tgt := 82) hx hb dX7_isOwn_71 (by decide) (fun c_71 => ?_) (fun c_71 => ?_)
                  · have c_71 : y_70 = 0 := c_71
                    have f_82_1 : iR y_70 0 0 := iR_eqL c_71 (iR_top _) (iR_c (n := 0) (a := 0) (b := 0) (by decide +kernel) (by decide +kernel)) (by decide +kernel)
                    have lc_71 : x1 = 1970496883 := l_cmpe ey_70 c_71
                    exact J_82   H locs ls hP hD hS (lv_sub hl [] rfl)
                  · have c_71 : ¬ y_70 = 0 := c_71
                    have lc_71 : ¬ x1 = 1970496883 := l_cmpne ey_70 c_71
                    refine lv_lload_n hx hb dX7_isOwn_74 rfl (lv_at hl 1 rfl) ?_
                    refine lv_ldc2 (v := 439855772532) hx hb hown w_9 dX7_isOwn_75 ?_
                    refine W.lcmp hx hb dX7_isOwn_78 ?_
                    refine lv_topi (fun y_78 ey_78 => ?_)
                    refine lv_if_ne (tgt := 84) hx hb dX7_isOwn_79 (by decide) (fun c_79 => ?_) (fun c_79 => ?_)
                    · have c_79 : ¬ y_78 = 0 := c_79
                      have lc_79 : ¬ x1 = 439855772532 := l_cmpne ey_78 c_79
                      refine lv_lload_n hx hb dX7_isOwn_84 rfl (lv_at hl 1 rfl) ?_
                      refine lv_ldc2 (v := 1684107883) hx hb hown w_10 dX7_isOwn_85 ?_
                      refine W.lcmp hx hb dX7_isOwn_88 ?_
                      refine lv_topi (fun y_88 ey_88 => ?_)
                      have J_124 : ∀   (H : Heap) (locs : List Loc) (ls : Array Slot), va_P (dC, dI) vwCl [] H → va_D A [] → va_S A s.heap H locs → lv_has ls 3 [] → W p l e ({ frames := 1, cells := 0, slots := 0, locals := 40 }) s m args below meth c H locs 0 0 (MQ below (va_Qi (fun (r9 : Int32) (u9 : Unit) => (iR r9 0 1)) (fun u => k_B (dC, dI) vwCl (tyy cI cJ cZ cM) A ((fun (u9 : Unit) => []) u)) A) args s 0 0 A) (F0 m 124 ls []) := by
                        intro   H locs ls hP hD hS hl
                        refine lv_iconst (v := 1) hx hb dX7_isOwn_124 (by decide +kernel) ?_
                        exact k_ri B hP hD hS dX7_isOwn_125 () [] rfl rfl rfl (Nat.le_of_ble_eq_true rfl) (Nat.le_of_ble_eq_true rfl) (show iR 1 0 1 from (iR_c (n := 1) (a := 0) (b := 1) (by decide +kernel) (by decide +kernel)))
                      refine lv_if_eq (tgt := 124) hx hb dX7_isOwn_89 (by decide) (fun c_89 => ?_) (fun c_89 => ?_)
                      · have c_89 : y_88 = 0 := c_89
                        have f_124_1 : iR y_88 0 0 := iR_eqL c_89 (iR_top _) (iR_c (n := 0) (a := 0) (b := 0) (by decide +kernel) (by decide +kernel)) (by decide +kernel)
                        have lc_89 : x1 = 1684107883 := l_cmpe ey_88 c_89
                        exact J_124   H locs ls hP hD hS (lv_sub hl [] rfl)
                      · have c_89 : ¬ y_88 = 0 := c_89
                        have lc_89 : ¬ x1 = 1684107883 := l_cmpne ey_88 c_89
                        refine lv_lload_n hx hb dX7_isOwn_92 rfl (lv_at hl 1 rfl) ?_
                        refine lv_ldc2 (v := 1919905645) hx hb hown w_11 dX7_isOwn_93 ?_
                        refine W.lcmp hx hb dX7_isOwn_96 ?_
                        refine lv_topi (fun y_96 ey_96 => ?_)
                        refine lv_if_eq (tgt := 124) hx hb dX7_isOwn_97 (by decide) (fun c_97 => ?_) (fun c_97 => ?_)
                        · have c_97 : y_96 = 0 := c_97
                          have f_124_1 : iR y_96 0 0 := iR_eqL c_97 (iR_top _) (iR_c (n := 0) (a := 0) (b := 0) (by decide +kernel) (by decide +kernel)) (by decide +kernel)
                          have lc_97 : x1 = 1919905645 := l_cmpe ey_96 c_97
                          exact J_124   H locs ls hP hD hS (lv_sub hl [] rfl)
                        · have c_97 : ¬ y_96 = 0 := c_97
                          have lc_97 : ¬ x1 = 1919905645 := l_cmpne ey_96 c_97
                          refine lv_lload_n hx hb dX7_isOwn_100 rfl (lv_at hl 1 rfl) ?_
                          refine lv_ldc2 (v := 27988542884245108) hx hb hown w_12 dX7_isOwn_101 ?_
                          refine W.lcmp hx hb dX7_isOwn_104 ?_
                          refine lv_topi (fun y_104 ey_104 => ?_)
                          refine lv_if_eq (tgt := 124) hx hb dX7_isOwn_105 (by decide) (fun c_105 => ?_) (fun c_105 => ?_)
                          · have c_105 : y_104 = 0 := c_105
                            have f_124_1 : iR y_104 0 0 := iR_eqL c_105 (iR_top _) (iR_c (n := 0) (a := 0) (b := 0) (by decide +kernel) (by decide +kernel)) (by decide +kernel)
                            have lc_105 : x1 = 27988542884245108 := l_cmpe ey_104 c_105
                            exact J_124   H locs ls hP hD hS (lv_sub hl [] rfl)
                          · have c_105 : ¬ y_104 = 0 := c_105
                            have lc_105 : ¬ x1 = 27988542884245108 := l_cmpne ey_104 c_105
                            refine lv_lload_n hx hb dX7_isOwn_108 rfl (lv_at hl 1 rfl) ?_
                            refine lv_ldc2 (v := 422607680115) hx hb hown w_13 dX7_isOwn_109 ?_
                            refine W.lcmp hx hb dX7_isOwn_112 ?_
                            refine lv_topi (fun y_112 ey_112 => ?_)
                            refine lv_if_eq (tgt := 124) hx hb dX7_isOwn_113 (by decide) (fun c_113 => ?_) (fun c_113 => ?_)
                            · have c_113 : y_112 = 0 := c_113
                              have f_124_1 : iR y_112 0 0 := iR_eqL c_113 (iR_top _) (iR_c (n := 0) (a := 0) (b := 0) (by decide +kernel) (by decide +kernel)) (by decide +kernel)
                              have lc_113 : x1 = 422607680115 := l_cmpe ey_112 c_113
                              exact J_124   H locs ls hP hD hS (lv_sub hl [] rfl)
                            · have c_113 : ¬ y_112 = 0 := c_113
                              have lc_113 : ¬ x1 = 422607680115 := l_cmpne ey_112 c_113
                              refine lv_lload_n hx hb dX7_isOwn_116 rfl (lv_at hl 1 rfl) ?_
                              refine lv_ldc2 (v := 1667329133) hx hb hown w_14 dX7_isOwn_117 ?_
                              refine W.lcmp hx hb dX7_isOwn_120 ?_
                              refine lv_topi (fun y_120 ey_120 => ?_)
                              refine lv_if_ne (tgt := 126) hx hb dX7_isOwn_121 (by decide) (fun c_121 => ?_) (fun c_121 => ?_)
                              · have c_121 : ¬ y_120 = 0 := c_121
                                have lc_121 : ¬ x1 = 1667329133 := l_cmpne ey_120 c_121
                                refine lv_lload_n hx hb dX7_isOwn_126 rfl (lv_at hl 1 rfl) ?_
                                refine lv_ldc2 (v := 6840676) hx hb hown w_15 dX7_isOwn_127 ?_
                                refine W.lcmp hx hb dX7_isOwn_130 ?_
                                refine lv_topi (fun y_130 ey_130 => ?_)
                                have J_166 : ∀   (H : Heap) (locs : List Loc) (ls : Array Slot), va_P (dC, dI) vwCl [] H → va_D A [] → va_S A s.heap H locs → lv_has ls 3 [] → W p l e ({ frames := 1, cells := 0, slots := 0, locals := 40 }) s m args below meth c H locs 0 0 (MQ below (va_Qi (fun (r9 : Int32) (u9 : Unit) => (iR r9 0 1)) (fun u => k_B (dC, dI) vwCl (tyy cI cJ cZ cM) A ((fun (u9 : Unit) => []) u)) A) args s 0 0 A) (F0 m 166 ls []) := by
                                  intro   H locs ls hP hD hS hl
                                  refine lv_iconst (v := 1) hx hb dX7_isOwn_166 (by decide +kernel) ?_
                                  exact k_ri B hP hD hS dX7_isOwn_167 () [] rfl rfl rfl (Nat.le_of_ble_eq_true rfl) (Nat.le_of_ble_eq_true rfl) (show iR 1 0 1 from (iR_c (n := 1) (a := 0) (b := 1) (by decide +kernel) (by decide +kernel)))
                                refine lv_if_eq (tgt := 166) hx hb dX7_isOwn_131 (by decide) (fun c_131 => ?_) (fun c_131 => ?_)
                                · have c_131 : y_130 = 0 := c_131
                                  have f_166_1 : iR y_130 0 0 := iR_eqL c_131 (iR_top _) (iR_c (n := 0) (a := 0) (b := 0) (by decide +kernel) (by decide +kernel)) (by decide +kernel)
                                  have lc_131 : x1 = 6840676 := l_cmpe ey_130 c_131
                                  exact J_166   H locs ls hP hD hS (lv_sub hl [] rfl)
                                · have c_131 : ¬ y_130 = 0 := c_131
                                  have lc_131 : ¬ x1 = 6840676 := l_cmpne ey_130 c_131
                                  refine lv_lload_n hx hb dX7_isOwn_134 rfl (lv_at hl 1 rfl) ?_
                                  refine lv_ldc2 (v := 7562593) hx hb hown w_16 dX7_isOwn_135 ?_
                                  refine W.lcmp hx hb dX7_isOwn_138 ?_
                                  refine lv_topi (fun y_138 ey_138 => ?_)
                                  refine lv_if_eq (tgt := 166) hx hb dX7_isOwn_139 (by decide) (fun c_139 => ?_) (fun c_139 => ?_)
                                  · have c_139 : y_138 = 0 := c_139
                                    have f_166_1 : iR y_138 0 0 := iR_eqL c_139 (iR_top _) (iR_c (n := 0) (a := 0) (b := 0) (by decide +kernel) (by decide +kernel)) (by decide +kernel)
                                    have lc_139 : x1 = 7562593 := l_cmpe ey_138 c_139
                                    exact J_166   H locs ls hP hD hS (lv_sub hl [] rfl)
                                  · have c_139 : ¬ y_138 = 0 := c_139
                                    have lc_139 : ¬ x1 = 7562593 := l_cmpne ey_138 c_139
                                    refine lv_lload_n hx hb dX7_isOwn_142 rfl (lv_at hl 1 rfl) ?_
                                    refine lv_ldc2 (v := 1935763812) hx hb hown w_17 dX7_isOwn_143 ?_
                                    refine W.lcmp hx hb dX7_isOwn_146 ?_
                                    refine lv_topi (fun y_146 ey_146 => ?_)
                                    refine lv_if_eq (tgt := 166) hx hb dX7_isOwn_147 (by decide) (fun c_147 => ?_) (fun c_147 => ?_)
                                    · have c_147 : y_146 = 0 := c_147
                                      have f_166_1 : iR y_146 0 0 := iR_eqL c_147 (iR_top _) (iR_c (n := 0) (a := 0) (b := 0) (by decide +kernel) (by decide +kernel)) (by decide +kernel)
                                      have lc_147 : x1 = 1935763812 := l_cmpe ey_146 c_147
                                      exact J_166   H locs ls hP hD hS (lv_sub hl [] rfl)
                                    · have c_147 : ¬ y_146 = 0 := c_147
                                      have lc_147 : ¬ x1 = 1935763812 := l_cmpne ey_146 c_147
                                      refine lv_lload_n hx hb dX7_isOwn_150 rfl (lv_at hl 1 rfl) ?_
                                      refine lv_ldc2 (v := 6578553) hx hb hown w_18 dX7_isOwn_151 ?_
                                      refine W.lcmp hx hb dX7_isOwn_154 ?_
                                      refine lv_topi (fun y_154 ey_154 => ?_)
                                      refine lv_if_eq (tgt := 166) hx hb dX7_isOwn_155 (by decide) (fun c_155 => ?_) (fun c_155 => ?_)
                                      · have c_155 : y_154 = 0 := c_155
                                        have f_166_1 : iR y_154 0 0 := iR_eqL c_155 (iR_top _) (iR_c (n := 0) (a := 0) (b := 0) (by decide +kernel) (by decide +kernel)) (by decide +kernel)
                                        have lc_155 : x1 = 6578553 := l_cmpe ey_154 c_155
                                        exact J_166   H locs ls hP hD hS (lv_sub hl [] rfl)
                                      · have c_155 : ¬ y_154 = 0 := c_155
                                        have lc_155 : ¬ x1 = 6578553 := l_cmpne ey_154 c_155
                                        refine lv_lload_n hx hb dX7_isOwn_158 rfl (lv_at hl 1 rfl) ?_
                                        refine lv_ldc2 (v := 28530) hx hb hown w_19 dX7_isOwn_159 ?_
                                        refine W.lcmp hx hb dX7_isOwn_162 ?_
                                        refine lv_topi (fun y_162 ey_162 => ?_)
                                        refine lv_if_ne (tgt := 168) hx hb dX7_isOwn_163 (by decide) (fun c_163 => ?_) (fun c_163 => ?_)
                                        · have c_163 : ¬ y_162 = 0 := c_163
                                          have lc_163 : ¬ x1 = 28530 := l_cmpne ey_162 c_163
                                          refine lv_lload_n hx hb dX7_isOwn_168 rfl (lv_at hl 1 rfl) ?_
                                          refine lv_ldc2 (v := 6385252) hx hb hown w_20 dX7_isOwn_169 ?_
                                          refine W.lcmp hx hb dX7_isOwn_172 ?_
                                          refine lv_topi (fun y_172 ey_172 => ?_)
                                          have J_208 : ∀   (H : Heap) (locs : List Loc) (ls : Array Slot), va_P (dC, dI) vwCl [] H → va_D A [] → va_S A s.heap H locs → lv_has ls 3 [] → W p l e ({ frames := 1, cells := 0, slots := 0, locals := 40 }) s m args below meth c H locs 0 0 (MQ below (va_Qi (fun (r9 : Int32) (u9 : Unit) => (iR r9 0 1)) (fun u => k_B (dC, dI) vwCl (tyy cI cJ cZ cM) A ((fun (u9 : Unit) => []) u)) A) args s 0 0 A) (F0 m 208 ls []) := by
                                            intro   H locs ls hP hD hS hl
                                            refine lv_iconst (v := 1) hx hb dX7_isOwn_208 (by decide +kernel) ?_
                                            exact k_ri B hP hD hS dX7_isOwn_209 () [] rfl rfl rfl (Nat.le_of_ble_eq_true rfl) (Nat.le_of_ble_eq_true rfl) (show iR 1 0 1 from (iR_c (n := 1) (a := 0) (b := 1) (by decide +kernel) (by decide +kernel)))
                                          refine lv_if_eq (tgt := 208) hx hb dX7_isOwn_173 (by decide) (fun c_173 => ?_) (fun c_173 => ?_)
                                          · have c_173 : y_172 = 0 := c_173
                                            have f_208_1 : iR y_172 0 0 := iR_eqL c_173 (iR_top _) (iR_c (n := 0) (a := 0) (b := 0) (by decide +kernel) (by decide +kernel)) (by decide +kernel)
                                            have lc_173 : x1 = 6385252 := l_cmpe ey_172 c_173
                                            exact J_208   H locs ls hP hD hS (lv_sub hl [] rfl)
                                          · have c_173 : ¬ y_172 = 0 := c_173
                                            have lc_173 : ¬ x1 = 6385252 := l_cmpne ey_172 c_173
                                            refine lv_lload_n hx hb dX7_isOwn_176 rfl (lv_at hl 1 rfl) ?_
                                            refine lv_ldc2 (v := 7237492) hx hb hown w_21 dX7_isOwn_177 ?_
                                            refine W.lcmp hx hb dX7_isOwn_180 ?_
                                            refine lv_topi (fun y_180 ey_180 => ?_)
                                            refine lv_if_eq (tgt := 208) hx hb dX7_isOwn_181 (by decide) (fun c_181 => ?_) (fun c_181 => ?_)
                                            · have c_181 : y_180 = 0 := c_181
                                              have f_208_1 : iR y_180 0 0 := iR_eqL c_181 (iR_top _) (iR_c (n := 0) (a := 0) (b := 0) (by decide +kernel) (by decide +kernel)) (by decide +kernel)
                                              have lc_181 : x1 = 7237492 := l_cmpe ey_180 c_181
                                              exact J_208   H locs ls hP hD hS (lv_sub hl [] rfl)
                                            · have c_181 : ¬ y_180 = 0 := c_181
                                              have lc_181 : ¬ x1 = 7237492 := l_cmpne ey_180 c_181
                                              refine lv_lload_n hx hb dX7_isOwn_184 rfl (lv_at hl 1 rfl) ?_
                                              refine lv_ldc2 (v := 6384748) hx hb hown w_22 dX7_isOwn_185 ?_
                                              refine W.lcmp hx hb dX7_isOwn_188 ?_
                                              refine lv_topi (fun y_188 ey_188 => ?_)
                                              refine lv_if_eq (tgt := 208) hx hb dX7_isOwn_189 (by decide) (fun c_189 => ?_) (fun c_189 => ?_)
                                              · have c_189 : y_188 = 0 := c_189
                                                have f_208_1 : iR y_188 0 0 := iR_eqL c_189 (iR_top _) (iR_c (n := 0) (a := 0) (b := 0) (by decide +kernel) (by decide +kernel)) (by decide +kernel)
                                                have lc_189 : x1 = 6384748 := l_cmpe ey_188 c_189
                                                exact J_208   H locs ls hP hD hS (lv_sub hl [] rfl)
                                              · have c_189 : ¬ y_188 = 0 := c_189
                                                have lc_189 : ¬ x1 = 6384748 := l_cmpne ey_188 c_189
                                                refine lv_lload_n hx hb dX7_isOwn_192 rfl (lv_at hl 1 rfl) ?_
                                                refine lv_ldc2 (v := 7170414) hx hb hown w_23 dX7_isOwn_193 ?_
                                                refine W.lcmp hx hb dX7_isOwn_196 ?_
                                                refine lv_topi (fun y_196 ey_196 => ?_)
                                                refine lv_if_eq (tgt := 208) hx hb dX7_isOwn_197 (by decide) (fun c_197 => ?_) (fun c_197 => ?_)
                                                · have c_197 : y_196 = 0 := c_197
                                                  have f_208_1 : iR y_196 0 0 := iR_eqL c_197 (iR_top _) (iR_c (n := 0) (a := 0) (b := 0) (by decide +kernel) (by decide +kernel)) (by decide +kernel)
                                                  have lc_197 : x1 = 7170414 := l_cmpe ey_196 c_197
                                                  exact J_208   H locs ls hP hD hS (lv_sub hl [] rfl)
                                                · have c_197 : ¬ y_196 = 0 := c_197
                                                  have lc_197 : ¬ x1 = 7170414 := l_cmpne ey_196 c_197
                                                  refine lv_lload_n hx hb dX7_isOwn_200 rfl (lv_at hl 1 rfl) ?_
                                                  refine lv_ldc2 (v := 7168376) hx hb hown w_24 dX7_isOwn_201 ?_
                                                  refine W.lcmp hx hb dX7_isOwn_204 ?_
                                                  refine lv_topi (fun y_204 ey_204 => ?_)
                                                  refine lv_if_ne (tgt := 210) hx hb dX7_isOwn_205 (by decide) (fun c_205 => ?_) (fun c_205 => ?_)
                                                  · have c_205 : ¬ y_204 = 0 := c_205
                                                    have lc_205 : ¬ x1 = 7168376 := l_cmpne ey_204 c_205
                                                    refine lv_iconst (v := 0) hx hb dX7_isOwn_210 (by decide +kernel) ?_
                                                    exact k_ri B hP hD hS dX7_isOwn_211 () [] rfl rfl rfl (Nat.le_of_ble_eq_true rfl) (Nat.le_of_ble_eq_true rfl) (show iR 0 0 1 from (iR_c (n := 0) (a := 0) (b := 1) (by decide +kernel) (by decide +kernel)))
                                                  · have c_205 : y_204 = 0 := c_205
                                                    have f_208_1 : iR y_204 0 0 := iR_eqL c_205 (iR_top _) (iR_c (n := 0) (a := 0) (b := 0) (by decide +kernel) (by decide +kernel)) (by decide +kernel)
                                                    have lc_205 : x1 = 7168376 := l_cmpe ey_204 c_205
                                                    exact J_208   H locs ls hP hD hS (lv_sub hl [] rfl)
                                        · have c_163 : y_162 = 0 := c_163
                                          have f_166_1 : iR y_162 0 0 := iR_eqL c_163 (iR_top _) (iR_c (n := 0) (a := 0) (b := 0) (by decide +kernel) (by decide +kernel)) (by decide +kernel)
                                          have lc_163 : x1 = 28530 := l_cmpe ey_162 c_163
                                          exact J_166   H locs ls hP hD hS (lv_sub hl [] rfl)
                              · have c_121 : y_120 = 0 := c_121
                                have f_124_1 : iR y_120 0 0 := iR_eqL c_121 (iR_top _) (iR_c (n := 0) (a := 0) (b := 0) (by decide +kernel) (by decide +kernel)) (by decide +kernel)
                                have lc_121 : x1 = 1667329133 := l_cmpe ey_120 c_121
                                exact J_124   H locs ls hP hD hS (lv_sub hl [] rfl)
                    · have c_79 : y_78 = 0 := c_79
                      have f_82_1 : iR y_78 0 0 := iR_eqL c_79 (iR_top _) (iR_c (n := 0) (a := 0) (b := 0) (by decide +kernel) (by decide +kernel)) (by decide +kernel)
                      have lc_79 : x1 = 439855772532 := l_cmpe ey_78 c_79
                      exact J_82   H locs ls hP hD hS (lv_sub hl [] rfl)
          · have c_37 : y_36 = 0 := c_37
            have f_40_1 : iR y_36 0 0 := iR_eqL c_37 (iR_top _) (iR_c (n := 0) (a := 0) (b := 0) (by decide +kernel) (by decide +kernel)) (by decide +kernel)
            have lc_37 : x1 = 2003399528 := l_cmpe ey_36 c_37
            exact J_40   H locs ls hP hD hS (lv_sub hl [] rfl)
