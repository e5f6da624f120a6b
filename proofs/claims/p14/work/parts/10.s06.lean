set_option maxHeartbeats 8000000 in
set_option maxRecDepth 100000 in
theorem s_X7_put_v7 (l : Launch) (dC : Nat → ClassId) (dI : Nat → Nat → Nat) (cI cJ cZ cM : ClassId) (h : Nat) (r : Nat → Nat) (i : Nat → Int32) (j : Nat → Int64) (x1 : Int32) (f0 : Nat → Int32) (hm1 : iR (i 1) 4 1584) (hI : mR i) (hf0 : aR f0 0 255) : k_Mv l yX7_put wsX7_put ({ frames := 1, cells := 0, slots := 0, locals := 40 }) (dC, dI) vwCl (tyy cI cJ cZ cM) [(h, .inr (7, oM r i j)), ((r 0), .inl (cI, 1800, .inl f0))] [.ref h, .int x1] 0 0 (fun (u9 : SU) => [(h, .inr (7, oM r (upd i 1 (u9.1 0)) j)), ((r 0), .inl (cI, 1800, .inl (u9.2.2.1 0)))]) (fun (u9 : SU) => (iR (u9.1 0) 8 1588) ∧ (aR (u9.2.2.1 0) 0 255)) := by
  refine fun sz => k_enter (cc := cX7_put) (maxL := 3) (ret := none) (Qc := fun A => va_Qv (fun (u9 : SU) => (iR (u9.1 0) 8 1588) ∧ (aR (u9.2.2.1 0) 0 255)) (fun u => k_B (dC, dI) vwCl (tyy cI cJ cZ cM) A ((fun (u9 : SU) => [(h, .inr (7, oM r (upd i 1 (u9.1 0)) j)), ((r 0), .inl (cI, 1800, .inl (u9.2.2.1 0)))]) u)) A) sz (by decide +kernel) rfl (Nat.le_of_ble_eq_true rfl) (fun p e s m args below meth c A ls H locs B hP hD hS hl => ?_)
  obtain ⟨hx, hb, hml, hown, hts, hr, hlk, hnm, hK, hA, hN, hC⟩ := id B
  have hown : s.vm.findClass RX7 = some m.cls := hown
  have hl : lv_has ls 3 [(0, .ref h), (1, .int x1)] := hl
  have w_0 : (Cond.fieldLink RX7 7 "WishSeaModel" "tape" "[I").before args s = true := hts _ (List.mem_of_getElem? (i := 1) rfl)
  have w_1 : (Cond.fieldLink RX7 13 "WishSeaModel" "taped" "I").before args s = true := hts _ (List.mem_of_getElem? (i := 2) rfl)
  have hinX7 : ∀ w ∈ u_ws RX7 TX7 92, w ∈ wsX7_put := fun _ h => List.mem_cons_of_mem _ (List.mem_append_right _ h)
  refine lv_bipush (v := 24) hx hb dX7_put_0 (by decide +kernel) ?_
  refine lv_istore_n (lv' := [(2, .int 24), (0, .ref h), (1, .int x1)]) hx hb dX7_put_2 rfl hl (by decide) rfl (fun ls hl => ?_)
  refine lv_iload_n hx hb dX7_put_3 rfl (lv_at hl 0 rfl) ?_
  refine lv_if_lt (tgt := 39) hx hb dX7_put_4 (by decide) (fun q9 => absurd q9 (by decide +kernel)) (fun _ => ?_)
  refine lv_aload_n hx hb dX7_put_7 rfl (lv_at hl 1 rfl) ?_
  refine k_get (D := (dC, dI)) (ci := 7) (v := .ref (r 0)) (C := RX7) (T := TX7) (N := 92) hx hb hts hinX7 hown hK hP 0 rfl rfl 0 (by decide) w_0 rfl rfl dX7_put_8 ?_
  refine lv_aload_n hx hb dX7_put_11 rfl (lv_at hl 1 rfl) ?_
  refine k_get (D := (dC, dI)) (ci := 7) (v := .int (i 1)) (C := RX7) (T := TX7) (N := 92) hx hb hts hinX7 hown hK hP 0 rfl rfl 1 (by decide) w_1 rfl rfl dX7_put_12 ?_
  refine lv_iload_n hx hb dX7_put_15 rfl (lv_at hl 2 rfl) ?_
  refine lv_iload_n hx hb dX7_put_16 rfl (lv_at hl 0 rfl) ?_
  refine lv_ishr hx hb dX7_put_17 ?_
  refine lv_topi (fun y_17p2 ey_17p2 => ?_)
  refine lv_sipush (v := 255) hx hb dX7_put_18 (by decide +kernel) ?_
  refine lv_iand hx hb dX7_put_21 ?_
  refine lv_topi (fun y_21p2 ey_21p2 => ?_)
  have f_21p2_1 : iR y_21p2 0 255 := iR_andR ey_21p2 (iR_c (n := 255) (a := 255) (b := 255) (by decide +kernel) (by decide +kernel)) (by decide +kernel)
  refine s_iast (g := (upd f0 (i 1).toNatClampNeg y_21p2)) (ws' := [(h, .inr (7, oM r i j)), ((r 0), .inl (cI, 1800, .inl (upd f0 (i 1).toNatClampNeg y_21p2)))]) hx hb hK hP hD hS 1 0 rfl rfl (iR_vp hm1 (by decide +kernel)) rfl rfl dX7_put_22 (fun H locs hP hD hS => ?_)
  refine lv_aload_n hx hb dX7_put_23 rfl (lv_at hl 1 rfl) ?_
  refine lv_dup hx hb dX7_put_24 rfl ?_
  refine k_get (D := (dC, dI)) (ci := 7) (v := .int (i 1)) (C := RX7) (T := TX7) (N := 92) hx hb hts hinX7 hown hK hP 0 rfl rfl 1 (by decide) w_1 rfl rfl dX7_put_25 ?_
  refine lv_iconst (v := 1) hx hb dX7_put_28 (by decide +kernel) ?_
  refine lv_iadd hx hb dX7_put_29 ?_
  refine lv_topi (fun y_29p2 ey_29p2 => ?_)
  have f_29p2_2 : iR y_29p2 5 1585 := iR_add ey_29p2 hm1 (iR_c (n := 1) (a := 1) (b := 1) (by decide +kernel) (by decide +kernel)) (by decide +kernel)
  refine k_put (D := (dC, dI)) (ci := 7) (v := .int y_29p2) (C := RX7) (T := TX7) (N := 92) (ws' := [(h, .inr (7, oM r (upd i 1 y_29p2) j)), ((r 0), .inl (cI, 1800, .inl (upd f0 (i 1).toNatClampNeg y_21p2)))]) hx hb hts hinX7 tyX7 tyX7_ok nmX7 hown hK hP hD hS 0 rfl rfl 1 (by decide) w_1 rfl rfl rfl rfl (Nat.le_of_ble_eq_true rfl) rfl dX7_put_30 (fun H locs hP hD hS => ?_)
  refine lv_iinc (v := 16) (lv' := [(2, .int 16), (0, .ref h), (1, .int x1)]) hx hb dX7_put_33 hl (k := 0) rfl (by decide +kernel) (by decide) rfl (fun ls hl => ?_)
  refine lv_goto (tgt := 3) hx hb dX7_put_36 (by decide) ?_
  refine lv_iload_n hx hb dX7_put_3 rfl (lv_at hl 0 rfl) ?_
  refine lv_if_lt (tgt := 39) hx hb dX7_put_4 (by decide) (fun q9 => absurd q9 (by decide +kernel)) (fun _ => ?_)
  refine lv_aload_n hx hb dX7_put_7 rfl (lv_at hl 1 rfl) ?_
  refine k_get (D := (dC, dI)) (ci := 7) (v := .ref (r 0)) (C := RX7) (T := TX7) (N := 92) hx hb hts hinX7 hown hK hP 0 rfl rfl 0 (by decide) w_0 rfl rfl dX7_put_8 ?_
  refine lv_aload_n hx hb dX7_put_11 rfl (lv_at hl 1 rfl) ?_
  refine k_get (D := (dC, dI)) (ci := 7) (v := .int y_29p2) (C := RX7) (T := TX7) (N := 92) hx hb hts hinX7 hown hK hP 0 rfl rfl 1 (by decide) w_1 rfl rfl dX7_put_12 ?_
  refine lv_iload_n hx hb dX7_put_15 rfl (lv_at hl 2 rfl) ?_
  refine lv_iload_n hx hb dX7_put_16 rfl (lv_at hl 0 rfl) ?_
  refine lv_ishr hx hb dX7_put_17 ?_
  refine lv_topi (fun y_17p2p36 ey_17p2p36 => ?_)
  refine lv_sipush (v := 255) hx hb dX7_put_18 (by decide +kernel) ?_
  refine lv_iand hx hb dX7_put_21 ?_
  refine lv_topi (fun y_21p2p36 ey_21p2p36 => ?_)
  have f_21p2p36_3 : iR y_21p2p36 0 255 := iR_andR ey_21p2p36 (iR_c (n := 255) (a := 255) (b := 255) (by decide +kernel) (by decide +kernel)) (by decide +kernel)
  refine s_iast (g := (upd (upd f0 (i 1).toNatClampNeg y_21p2) y_29p2.toNatClampNeg y_21p2p36)) (ws' := [(h, .inr (7, oM r (upd i 1 y_29p2) j)), ((r 0), .inl (cI, 1800, .inl (upd (upd f0 (i 1).toNatClampNeg y_21p2) y_29p2.toNatClampNeg y_21p2p36)))]) hx hb hK hP hD hS 1 0 rfl rfl (iR_vp f_29p2_2 (by decide +kernel)) rfl rfl dX7_put_22 (fun H locs hP hD hS => ?_)
  refine lv_aload_n hx hb dX7_put_23 rfl (lv_at hl 1 rfl) ?_
  refine lv_dup hx hb dX7_put_24 rfl ?_
  refine k_get (D := (dC, dI)) (ci := 7) (v := .int y_29p2) (C := RX7) (T := TX7) (N := 92) hx hb hts hinX7 hown hK hP 0 rfl rfl 1 (by decide) w_1 rfl rfl dX7_put_25 ?_
  refine lv_iconst (v := 1) hx hb dX7_put_28 (by decide +kernel) ?_
  refine lv_iadd hx hb dX7_put_29 ?_
  refine lv_topi (fun y_29p2p36 ey_29p2p36 => ?_)
  have f_29p2p36_4 : iR y_29p2p36 6 1586 := iR_add ey_29p2p36 f_29p2_2 (iR_c (n := 1) (a := 1) (b := 1) (by decide +kernel) (by decide +kernel)) (by decide +kernel)
  refine k_put (D := (dC, dI)) (ci := 7) (v := .int y_29p2p36) (C := RX7) (T := TX7) (N := 92) (ws' := [(h, .inr (7, oM r (upd i 1 y_29p2p36) j)), ((r 0), .inl (cI, 1800, .inl (upd (upd f0 (i 1).toNatClampNeg y_21p2) y_29p2.toNatClampNeg y_21p2p36)))]) hx hb hts hinX7 tyX7 tyX7_ok nmX7 hown hK hP hD hS 0 rfl rfl 1 (by decide) w_1 rfl rfl rfl rfl (Nat.le_of_ble_eq_true rfl) rfl dX7_put_30 (fun H locs hP hD hS => ?_)
  refine lv_iinc (v := 8) (lv' := [(2, .int 8), (0, .ref h), (1, .int x1)]) hx hb dX7_put_33 hl (k := 0) rfl (by decide +kernel) (by decide) rfl (fun ls hl => ?_)
  refine lv_goto (tgt := 3) hx hb dX7_put_36 (by decide) ?_
  refine lv_iload_n hx hb dX7_put_3 rfl (lv_at hl 0 rfl) ?_
  refine lv_if_lt (tgt := 39) hx hb dX7_put_4 (by decide) (fun q9 => absurd q9 (by decide +kernel)) (fun _ => ?_)
  refine lv_aload_n hx hb dX7_put_7 rfl (lv_at hl 1 rfl) ?_
  refine k_get (D := (dC, dI)) (ci := 7) (v := .ref (r 0)) (C := RX7) (T := TX7) (N := 92) hx hb hts hinX7 hown hK hP 0 rfl rfl 0 (by decide) w_0 rfl rfl dX7_put_8 ?_
  refine lv_aload_n hx hb dX7_put_11 rfl (lv_at hl 1 rfl) ?_
  refine k_get (D := (dC, dI)) (ci := 7) (v := .int y_29p2p36) (C := RX7) (T := TX7) (N := 92) hx hb hts hinX7 hown hK hP 0 rfl rfl 1 (by decide) w_1 rfl rfl dX7_put_12 ?_
  refine lv_iload_n hx hb dX7_put_15 rfl (lv_at hl 2 rfl) ?_
  refine lv_iload_n hx hb dX7_put_16 rfl (lv_at hl 0 rfl) ?_
  refine lv_ishr hx hb dX7_put_17 ?_
  refine lv_topi (fun y_17p2p36p36 ey_17p2p36p36 => ?_)
  refine lv_sipush (v := 255) hx hb dX7_put_18 (by decide +kernel) ?_
  refine lv_iand hx hb dX7_put_21 ?_
  refine lv_topi (fun y_21p2p36p36 ey_21p2p36p36 => ?_)
  have f_21p2p36p36_5 : iR y_21p2p36p36 0 255 := iR_andR ey_21p2p36p36 (iR_c (n := 255) (a := 255) (b := 255) (by decide +kernel) (by decide +kernel)) (by decide +kernel)
  refine s_iast (g := (upd (upd (upd f0 (i 1).toNatClampNeg y_21p2) y_29p2.toNatClampNeg y_21p2p36) y_29p2p36.toNatClampNeg y_21p2p36p36)) (ws' := [(h, .inr (7, oM r (upd i 1 y_29p2p36) j)), ((r 0), .inl (cI, 1800, .inl (upd (upd (upd f0 (i 1).toNatClampNeg y_21p2) y_29p2.toNatClampNeg y_21p2p36) y_29p2p36.toNatClampNeg y_21p2p36p36)))]) hx hb hK hP hD hS 1 0 rfl rfl (iR_vp f_29p2p36_4 (by decide +kernel)) rfl rfl dX7_put_22 (fun H locs hP hD hS => ?_)
  refine lv_aload_n hx hb dX7_put_23 rfl (lv_at hl 1 rfl) ?_
  refine lv_dup hx hb dX7_put_24 rfl ?_
  refine k_get (D := (dC, dI)) (ci := 7) (v := .int y_29p2p36) (C := RX7) (T := TX7) (N := 92) hx hb hts hinX7 hown hK hP 0 rfl rfl 1 (by decide) w_1 rfl rfl dX7_put_25 ?_
  refine lv_iconst (v := 1) hx hb dX7_put_28 (by decide +kernel) ?_
  refine lv_iadd hx hb dX7_put_29 ?_
  refine lv_topi (fun y_29p2p36p36 ey_29p2p36p36 => ?_)
  have f_29p2p36p36_6 : iR y_29p2p36p36 7 1587 := iR_add ey_29p2p36p36 f_29p2p36_4 (iR_c (n := 1) (a := 1) (b := 1) (by decide +kernel) (by decide +kernel)) (by decide +kernel)
  refine k_put (D := (dC, dI)) (ci := 7) (v := .int y_29p2p36p36) (C := RX7) (T := TX7) (N := 92) (ws' := [(h, .inr (7, oM r (upd i 1 y_29p2p36p36) j)), ((r 0), .inl (cI, 1800, .inl (upd (upd (upd f0 (i 1).toNatClampNeg y_21p2) y_29p2.toNatClampNeg y_21p2p36) y_29p2p36.toNatClampNeg y_21p2p36p36)))]) hx hb hts hinX7 tyX7 tyX7_ok nmX7 hown hK hP hD hS 0 rfl rfl 1 (by decide) w_1 rfl rfl rfl rfl (Nat.le_of_ble_eq_true rfl) rfl dX7_put_30 (fun H locs hP hD hS => ?_)
  refine lv_iinc (v := 0) (lv' := [(2, .int 0), (0, .ref h), (1, .int x1)]) hx hb dX7_put_33 hl (k := 0) rfl (by decide +kernel) (by decide) rfl (fun ls hl => ?_)
  refine lv_goto (tgt := 3) hx hb dX7_put_36 (by decide) ?_
  refine lv_iload_n hx hb dX7_put_3 rfl (lv_at hl 0 rfl) ?_
  refine lv_if_lt (tgt := 39) hx hb dX7_put_4 (by decide) (fun q9 => absurd q9 (by decide +kernel)) (fun _ => ?_)
  refine lv_aload_n hx hb dX7_put_7 rfl (lv_at hl 1 rfl) ?_
  refine k_get (D := (dC, dI)) (ci := 7) (v := .ref (r 0)) (C := RX7) (T := TX7) (N := 92) hx hb hts hinX7 hown hK hP 0 rfl rfl 0 (by decide) w_0 rfl rfl dX7_put_8 ?_
  refine lv_aload_n hx hb dX7_put_11 rfl (lv_at hl 1 rfl) ?_
  refine k_get (D := (dC, dI)) (ci := 7) (v := .int y_29p2p36p36) (C := RX7) (T := TX7) (N := 92) hx hb hts hinX7 hown hK hP 0 rfl rfl 1 (by decide) w_1 rfl rfl dX7_put_12 ?_
  refine lv_iload_n hx hb dX7_put_15 rfl (lv_at hl 2 rfl) ?_
  refine lv_iload_n hx hb dX7_put_16 rfl (lv_at hl 0 rfl) ?_
  refine lv_ishr hx hb dX7_put_17 ?_
  refine lv_topi (fun y_17p2p36p36p36 ey_17p2p36p36p36 => ?_)
  refine lv_sipush (v := 255) hx hb dX7_put_18 (by decide +kernel) ?_
  refine lv_iand hx hb dX7_put_21 ?_
  refine lv_topi (fun y_21p2p36p36p36 ey_21p2p36p36p36 => ?_)
  have f_21p2p36p36p36_7 : iR y_21p2p36p36p36 0 255 := iR_andR ey_21p2p36p36p36 (iR_c (n := 255) (a := 255) (b := 255) (by decide +kernel) (by decide +kernel)) (by decide +kernel)
  refine s_iast (g := (upd (upd (upd (upd f0 (i 1).toNatClampNeg y_21p2) y_29p2.toNatClampNeg y_21p2p36) y_29p2p36.toNatClampNeg y_21p2p36p36) y_29p2p36p36.toNatClampNeg y_21p2p36p36p36)) (ws' := [(h, .inr (7, oM r (upd i 1 y_29p2p36p36) j)), ((r 0), .inl (cI, 1800, .inl (upd (upd (upd (upd f0 (i 1).toNatClampNeg y_21p2) y_29p2.toNatClampNeg y_21p2p36) y_29p2p36.toNatClampNeg y_21p2p36p36) y_29p2p36p36.toNatClampNeg y_21p2p36p36p36)))]) hx hb hK hP hD hS 1 0 rfl rfl (iR_vp f_29p2p36p36_6 (by decide +kernel)) rfl rfl dX7_put_22 (fun H locs hP hD hS => ?_)
  refine lv_aload_n hx hb dX7_put_23 rfl (lv_at hl 1 rfl) ?_
  refine lv_dup hx hb dX7_put_24 rfl ?_
  refine k_get (D := (dC, dI)) (ci := 7) (v := .int y_29p2p36p36) (C := RX7) (T := TX7) (N := 92) hx hb hts hinX7 hown hK hP 0 rfl rfl 1 (by decide) w_1 rfl rfl dX7_put_25 ?_
  refine lv_iconst (v := 1) hx hb dX7_put_28 (by decide +kernel) ?_
  refine lv_iadd hx hb dX7_put_29 ?_
  refine lv_topi (fun y_29p2p36p36p36 ey_29p2p36p36p36 => ?_)
  have f_29p2p36p36p36_8 : iR y_29p2p36p36p36 8 1588 := iR_add ey_29p2p36p36p36 f_29p2p36p36_6 (iR_c (n := 1) (a := 1) (b := 1) (by decide +kernel) (by decide +kernel)) (by decide +kernel)
  refine k_put (D := (dC, dI)) (ci := 7) (v := .int y_29p2p36p36p36) (C := RX7) (T := TX7) (N := 92) (ws' := [(h, .inr (7, oM r (upd i 1 y_29p2p36p36p36) j)), ((r 0), .inl (cI, 1800, .inl (upd (upd (upd (upd f0 (i 1).toNatClampNeg y_21p2) y_29p2.toNatClampNeg y_21p2p36) y_29p2p36.toNatClampNeg y_21p2p36p36) y_29p2p36p36.toNatClampNeg y_21p2p36p36p36)))]) hx hb hts hinX7 tyX7 tyX7_ok nmX7 hown hK hP hD hS 0 rfl rfl 1 (by decide) w_1 rfl rfl rfl rfl (Nat.le_of_ble_eq_true rfl) rfl dX7_put_30 (fun H locs hP hD hS => ?_)
  refine lv_iinc (v := (-8)) (lv' := [(2, .int (-8)), (0, .ref h), (1, .int x1)]) hx hb dX7_put_33 hl (k := 0) rfl (by decide +kernel) (by decide) rfl (fun ls hl => ?_)
  refine lv_goto (tgt := 3) hx hb dX7_put_36 (by decide) ?_
  refine lv_iload_n hx hb dX7_put_3 rfl (lv_at hl 0 rfl) ?_
  refine lv_if_lt (tgt := 39) hx hb dX7_put_4 (by decide) (fun _ => ?_) (fun q9 => absurd q9 (by decide +kernel))
  exact k_rv B hP hD hS dX7_put_39 ((fun k9 => match k9 with | 0 => y_29p2p36p36p36 | _ => 0), (fun _ => 0), (fun k9 => match k9 with | 0 => (upd (upd (upd (upd f0 (i 1).toNatClampNeg y_21p2) y_29p2.toNatClampNeg y_21p2p36) y_29p2p36.toNatClampNeg y_21p2p36p36) y_29p2p36p36.toNatClampNeg y_21p2p36p36p36) | _ => (fun _ => 0)), (fun _ => (fun _ => 0)), (fun _ => 0)) [0, 1] rfl rfl (Nat.le_of_ble_eq_true rfl) (Nat.le_of_ble_eq_true rfl) ⟨f_29p2p36p36p36_8, (aR_upd _ (aR_upd _ (aR_upd _ (aR_upd _ hf0 f_21p2_1) f_21p2p36_3) f_21p2p36p36_5) f_21p2p36p36p36_7)⟩
set_option maxHeartbeats 8000000 in
set_option maxRecDepth 100000 in
theorem s_X7_put_v8 (l : Launch) (dC : Nat → ClassId) (dI : Nat → Nat → Nat) (cI cJ cZ cM : ClassId) (h : Nat) (r : Nat → Nat) (i : Nat → Int32) (j : Nat → Int64) (x1 : Int32) (f0 : Nat → Int32) (hm1 : iR (i 1) 8 1588) (hI : mR i) (hf0 : aR f0 0 255) : k_Mv l yX7_put wsX7_put ({ frames := 1, cells := 0, slots := 0, locals := 40 }) (dC, dI) vwCl (tyy cI cJ cZ cM) [(h, .inr (7, oM r i j)), ((r 0), .inl (cI, 1800, .inl f0))] [.ref h, .int x1] 0 0 (fun (u9 : SU) => [(h, .inr (7, oM r (upd i 1 (u9.1 0)) j)), ((r 0), .inl (cI, 1800, .inl (u9.2.2.1 0)))]) (fun (u9 : SU) => (iR (u9.1 0) 12 1592) ∧ (aR (u9.2.2.1 0) 0 255)) := by
  refine fun sz => k_enter (cc := cX7_put) (maxL := 3) (ret := none) (Qc := fun A => va_Qv (fun (u9 : SU) => (iR (u9.1 0) 12 1592) ∧ (aR (u9.2.2.1 0) 0 255)) (fun u => k_B (dC, dI) vwCl (tyy cI cJ cZ cM) A ((fun (u9 : SU) => [(h, .inr (7, oM r (upd i 1 (u9.1 0)) j)), ((r 0), .inl (cI, 1800, .inl (u9.2.2.1 0)))]) u)) A) sz (by decide +kernel) rfl (Nat.le_of_ble_eq_true rfl) (fun p e s m args below meth c A ls H locs B hP hD hS hl => ?_)
  obtain ⟨hx, hb, hml, hown, hts, hr, hlk, hnm, hK, hA, hN, hC⟩ := id B
  have hown : s.vm.findClass RX7 = some m.cls := hown
  have hl : lv_has ls 3 [(0, .ref h), (1, .int x1)] := hl
  have w_0 : (Cond.fieldLink RX7 7 "WishSeaModel" "tape" "[I").before args s = true := hts _ (List.mem_of_getElem? (i := 1) rfl)
  have w_1 : (Cond.fieldLink RX7 13 "WishSeaModel" "taped" "I").before args s = true := hts _ (List.mem_of_getElem? (i := 2) rfl)
  have hinX7 : ∀ w ∈ u_ws RX7 TX7 92, w ∈ wsX7_put := fun _ h => List.mem_cons_of_mem _ (List.mem_append_right _ h)
  refine lv_bipush (v := 24) hx hb dX7_put_0 (by decide +kernel) ?_
  refine lv_istore_n (lv' := [(2, .int 24), (0, .ref h), (1, .int x1)]) hx hb dX7_put_2 rfl hl (by decide) rfl (fun ls hl => ?_)
  refine lv_iload_n hx hb dX7_put_3 rfl (lv_at hl 0 rfl) ?_
  refine lv_if_lt (tgt := 39) hx hb dX7_put_4 (by decide) (fun q9 => absurd q9 (by decide +kernel)) (fun _ => ?_)
  refine lv_aload_n hx hb dX7_put_7 rfl (lv_at hl 1 rfl) ?_
  refine k_get (D := (dC, dI)) (ci := 7) (v := .ref (r 0)) (C := RX7) (T := TX7) (N := 92) hx hb hts hinX7 hown hK hP 0 rfl rfl 0 (by decide) w_0 rfl rfl dX7_put_8 ?_
  refine lv_aload_n hx hb dX7_put_11 rfl (lv_at hl 1 rfl) ?_
  refine k_get (D := (dC, dI)) (ci := 7) (v := .int (i 1)) (C := RX7) (T := TX7) (N := 92) hx hb hts hinX7 hown hK hP 0 rfl rfl 1 (by decide) w_1 rfl rfl dX7_put_12 ?_
  refine lv_iload_n hx hb dX7_put_15 rfl (lv_at hl 2 rfl) ?_
  refine lv_iload_n hx hb dX7_put_16 rfl (lv_at hl 0 rfl) ?_
  refine lv_ishr hx hb dX7_put_17 ?_
  refine lv_topi (fun y_17p2 ey_17p2 => ?_)
  refine lv_sipush (v := 255) hx hb dX7_put_18 (by decide +kernel) ?_
  refine lv_iand hx hb dX7_put_21 ?_
  refine lv_topi (fun y_21p2 ey_21p2 => ?_)
  have f_21p2_1 : iR y_21p2 0 255 := iR_andR ey_21p2 (iR_c (n := 255) (a := 255) (b := 255) (by decide +kernel) (by decide +kernel)) (by decide +kernel)
  refine s_iast (g := (upd f0 (i 1).toNatClampNeg y_21p2)) (ws' := [(h, .inr (7, oM r i j)), ((r 0), .inl (cI, 1800, .inl (upd f0 (i 1).toNatClampNeg y_21p2)))]) hx hb hK hP hD hS 1 0 rfl rfl (iR_vp hm1 (by decide +kernel)) rfl rfl dX7_put_22 (fun H locs hP hD hS => ?_)
  refine lv_aload_n hx hb dX7_put_23 rfl (lv_at hl 1 rfl) ?_
  refine lv_dup hx hb dX7_put_24 rfl ?_
  refine k_get (D := (dC, dI)) (ci := 7) (v := .int (i 1)) (C := RX7) (T := TX7) (N := 92) hx hb hts hinX7 hown hK hP 0 rfl rfl 1 (by decide) w_1 rfl rfl dX7_put_25 ?_
  refine lv_iconst (v := 1) hx hb dX7_put_28 (by decide +kernel) ?_
  refine lv_iadd hx hb dX7_put_29 ?_
  refine lv_topi (fun y_29p2 ey_29p2 => ?_)
  have f_29p2_2 : iR y_29p2 9 1589 := iR_add ey_29p2 hm1 (iR_c (n := 1) (a := 1) (b := 1) (by decide +kernel) (by decide +kernel)) (by decide +kernel)
  refine k_put (D := (dC, dI)) (ci := 7) (v := .int y_29p2) (C := RX7) (T := TX7) (N := 92) (ws' := [(h, .inr (7, oM r (upd i 1 y_29p2) j)), ((r 0), .inl (cI, 1800, .inl (upd f0 (i 1).toNatClampNeg y_21p2)))]) hx hb hts hinX7 tyX7 tyX7_ok nmX7 hown hK hP hD hS 0 rfl rfl 1 (by decide) w_1 rfl rfl rfl rfl (Nat.le_of_ble_eq_true rfl) rfl dX7_put_30 (fun H locs hP hD hS => ?_)
  refine lv_iinc (v := 16) (lv' := [(2, .int 16), (0, .ref h), (1, .int x1)]) hx hb dX7_put_33 hl (k := 0) rfl (by decide +kernel) (by decide) rfl (fun ls hl => ?_)
  refine lv_goto (tgt := 3) hx hb dX7_put_36 (by decide) ?_
  refine lv_iload_n hx hb dX7_put_3 rfl (lv_at hl 0 rfl) ?_
  refine lv_if_lt (tgt := 39) hx hb dX7_put_4 (by decide) (fun q9 => absurd q9 (by decide +kernel)) (fun _ => ?_)
  refine lv_aload_n hx hb dX7_put_7 rfl (lv_at hl 1 rfl) ?_
  refine k_get (D := (dC, dI)) (ci := 7) (v := .ref (r 0)) (C := RX7) (T := TX7) (N := 92) hx hb hts hinX7 hown hK hP 0 rfl rfl 0 (by decide) w_0 rfl rfl dX7_put_8 ?_
  refine lv_aload_n hx hb dX7_put_11 rfl (lv_at hl 1 rfl) ?_
  refine k_get (D := (dC, dI)) (ci := 7) (v := .int y_29p2) (C := RX7) (T := TX7) (N := 92) hx hb hts hinX7 hown hK hP 0 rfl rfl 1 (by decide) w_1 rfl rfl dX7_put_12 ?_
  refine lv_iload_n hx hb dX7_put_15 rfl (lv_at hl 2 rfl) ?_
  refine lv_iload_n hx hb dX7_put_16 rfl (lv_at hl 0 rfl) ?_
  refine lv_ishr hx hb dX7_put_17 ?_
  refine lv_topi (fun y_17p2p36 ey_17p2p36 => ?_)
  refine lv_sipush (v := 255) hx hb dX7_put_18 (by decide +kernel) ?_
  refine lv_iand hx hb dX7_put_21 ?_
  refine lv_topi (fun y_21p2p36 ey_21p2p36 => ?_)
  have f_21p2p36_3 : iR y_21p2p36 0 255 := iR_andR ey_21p2p36 (iR_c (n := 255) (a := 255) (b := 255) (by decide +kernel) (by decide +kernel)) (by decide +kernel)
  refine s_iast (g := (upd (upd f0 (i 1).toNatClampNeg y_21p2) y_29p2.toNatClampNeg y_21p2p36)) (ws' := [(h, .inr (7, oM r (upd i 1 y_29p2) j)), ((r 0), .inl (cI, 1800, .inl (upd (upd f0 (i 1).toNatClampNeg y_21p2) y_29p2.toNatClampNeg y_21p2p36)))]) hx hb hK hP hD hS 1 0 rfl rfl (iR_vp f_29p2_2 (by decide +kernel)) rfl rfl dX7_put_22 (fun H locs hP hD hS => ?_)
  refine lv_aload_n hx hb dX7_put_23 rfl (lv_at hl 1 rfl) ?_
  refine lv_dup hx hb dX7_put_24 rfl ?_
  refine k_get (D := (dC, dI)) (ci := 7) (v := .int y_29p2) (C := RX7) (T := TX7) (N := 92) hx hb hts hinX7 hown hK hP 0 rfl rfl 1 (by decide) w_1 rfl rfl dX7_put_25 ?_
  refine lv_iconst (v := 1) hx hb dX7_put_28 (by decide +kernel) ?_
  refine lv_iadd hx hb dX7_put_29 ?_
  refine lv_topi (fun y_29p2p36 ey_29p2p36 => ?_)
  have f_29p2p36_4 : iR y_29p2p36 10 1590 := iR_add ey_29p2p36 f_29p2_2 (iR_c (n := 1) (a := 1) (b := 1) (by decide +kernel) (by decide +kernel)) (by decide +kernel)
  refine k_put (D := (dC, dI)) (ci := 7) (v := .int y_29p2p36) (C := RX7) (T := TX7) (N := 92) (ws' := [(h, .inr (7, oM r (upd i 1 y_29p2p36) j)), ((r 0), .inl (cI, 1800, .inl (upd (upd f0 (i 1).toNatClampNeg y_21p2) y_29p2.toNatClampNeg y_21p2p36)))]) hx hb hts hinX7 tyX7 tyX7_ok nmX7 hown hK hP hD hS 0 rfl rfl 1 (by decide) w_1 rfl rfl rfl rfl (Nat.le_of_ble_eq_true rfl) rfl dX7_put_30 (fun H locs hP hD hS => ?_)
  refine lv_iinc (v := 8) (lv' := [(2, .int 8), (0, .ref h), (1, .int x1)]) hx hb dX7_put_33 hl (k := 0) rfl (by decide +kernel) (by decide) rfl (fun ls hl => ?_)
  refine lv_goto (tgt := 3) hx hb dX7_put_36 (by decide) ?_
  refine lv_iload_n hx hb dX7_put_3 rfl (lv_at hl 0 rfl) ?_
  refine lv_if_lt (tgt := 39) hx hb dX7_put_4 (by decide) (fun q9 => absurd q9 (by decide +kernel)) (fun _ => ?_)
  refine lv_aload_n hx hb dX7_put_7 rfl (lv_at hl 1 rfl) ?_
  refine k_get (D := (dC, dI)) (ci := 7) (v := .ref (r 0)) (C := RX7) (T := TX7) (N := 92) hx hb hts hinX7 hown hK hP 0 rfl rfl 0 (by decide) w_0 rfl rfl dX7_put_8 ?_
  refine lv_aload_n hx hb dX7_put_11 rfl (lv_at hl 1 rfl) ?_
  refine k_get (D := (dC, dI)) (ci := 7) (v := .int y_29p2p36) (C := RX7) (T := TX7) (N := 92) hx hb hts hinX7 hown hK hP 0 rfl rfl 1 (by decide) w_1 rfl rfl dX7_put_12 ?_
  refine lv_iload_n hx hb dX7_put_15 rfl (lv_at hl 2 rfl) ?_
  refine lv_iload_n hx hb dX7_put_16 rfl (lv_at hl 0 rfl) ?_
  refine lv_ishr hx hb dX7_put_17 ?_
  refine lv_topi (fun y_17p2p36p36 ey_17p2p36p36 => ?_)
  refine lv_sipush (v := 255) hx hb dX7_put_18 (by decide +kernel) ?_
  refine lv_iand hx hb dX7_put_21 ?_
  refine lv_topi (fun y_21p2p36p36 ey_21p2p36p36 => ?_)
  have f_21p2p36p36_5 : iR y_21p2p36p36 0 255 := iR_andR ey_21p2p36p36 (iR_c (n := 255) (a := 255) (b := 255) (by decide +kernel) (by decide +kernel)) (by decide +kernel)
  refine s_iast (g := (upd (upd (upd f0 (i 1).toNatClampNeg y_21p2) y_29p2.toNatClampNeg y_21p2p36) y_29p2p36.toNatClampNeg y_21p2p36p36)) (ws' := [(h, .inr (7, oM r (upd i 1 y_29p2p36) j)), ((r 0), .inl (cI, 1800, .inl (upd (upd (upd f0 (i 1).toNatClampNeg y_21p2) y_29p2.toNatClampNeg y_21p2p36) y_29p2p36.toNatClampNeg y_21p2p36p36)))]) hx hb hK hP hD hS 1 0 rfl rfl (iR_vp f_29p2p36_4 (by decide +kernel)) rfl rfl dX7_put_22 (fun H locs hP hD hS => ?_)
  refine lv_aload_n hx hb dX7_put_23 rfl (lv_at hl 1 rfl) ?_
  refine lv_dup hx hb dX7_put_24 rfl ?_
  refine k_get (D := (dC, dI)) (ci := 7) (v := .int y_29p2p36) (C := RX7) (T := TX7) (N := 92) hx hb hts hinX7 hown hK hP 0 rfl rfl 1 (by decide) w_1 rfl rfl dX7_put_25 ?_
  refine lv_iconst (v := 1) hx hb dX7_put_28 (by decide +kernel) ?_
  refine lv_iadd hx hb dX7_put_29 ?_
  refine lv_topi (fun y_29p2p36p36 ey_29p2p36p36 => ?_)
  have f_29p2p36p36_6 : iR y_29p2p36p36 11 1591 := iR_add ey_29p2p36p36 f_29p2p36_4 (iR_c (n := 1) (a := 1) (b := 1) (by decide +kernel) (by decide +kernel)) (by decide +kernel)
  refine k_put (D := (dC, dI)) (ci := 7) (v := .int y_29p2p36p36) (C := RX7) (T := TX7) (N := 92) (ws' := [(h, .inr (7, oM r (upd i 1 y_29p2p36p36) j)), ((r 0), .inl (cI, 1800, .inl (upd (upd (upd f0 (i 1).toNatClampNeg y_21p2) y_29p2.toNatClampNeg y_21p2p36) y_29p2p36.toNatClampNeg y_21p2p36p36)))]) hx hb hts hinX7 tyX7 tyX7_ok nmX7 hown hK hP hD hS 0 rfl rfl 1 (by decide) w_1 rfl rfl rfl rfl (Nat.le_of_ble_eq_true rfl) rfl dX7_put_30 (fun H locs hP hD hS => ?_)
  refine lv_iinc (v := 0) (lv' := [(2, .int 0), (0, .ref h), (1, .int x1)]) hx hb dX7_put_33 hl (k := 0) rfl (by decide +kernel) (by decide) rfl (fun ls hl => ?_)
  refine lv_goto (tgt := 3) hx hb dX7_put_36 (by decide) ?_
  refine lv_iload_n hx hb dX7_put_3 rfl (lv_at hl 0 rfl) ?_
  refine lv_if_lt (tgt := 39) hx hb dX7_put_4 (by decide) (fun q9 => absurd q9 (by decide +kernel)) (fun _ => ?_)
  refine lv_aload_n hx hb dX7_put_7 rfl (lv_at hl 1 rfl) ?_
  refine k_get (D := (dC, dI)) (ci := 7) (v := .ref (r 0)) (C := RX7) (T := TX7) (N := 92) hx hb hts hinX7 hown hK hP 0 rfl rfl 0 (by decide) w_0 rfl rfl dX7_put_8 ?_
  refine lv_aload_n hx hb dX7_put_11 rfl (lv_at hl 1 rfl) ?_
  refine k_get (D := (dC, dI)) (ci := 7) (v := .int y_29p2p36p36) (C := RX7) (T := TX7) (N := 92) hx hb hts hinX7 hown hK hP 0 rfl rfl 1 (by decide) w_1 rfl rfl dX7_put_12 ?_
  refine lv_iload_n hx hb dX7_put_15 rfl (lv_at hl 2 rfl) ?_
  refine lv_iload_n hx hb dX7_put_16 rfl (lv_at hl 0 rfl) ?_
  refine lv_ishr hx hb dX7_put_17 ?_
  refine lv_topi (fun y_17p2p36p36p36 ey_17p2p36p36p36 => ?_)
  refine lv_sipush (v := 255) hx hb dX7_put_18 (by decide +kernel) ?_
  refine lv_iand hx hb dX7_put_21 ?_
  refine lv_topi (fun y_21p2p36p36p36 ey_21p2p36p36p36 => ?_)
  have f_21p2p36p36p36_7 : iR y_21p2p36p36p36 0 255 := iR_andR ey_21p2p36p36p36 (iR_c (n := 255) (a := 255) (b := 255) (by decide +kernel) (by decide +kernel)) (by decide +kernel)
  refine s_iast (g := (upd (upd (upd (upd f0 (i 1).toNatClampNeg y_21p2) y_29p2.toNatClampNeg y_21p2p36) y_29p2p36.toNatClampNeg y_21p2p36p36) y_29p2p36p36.toNatClampNeg y_21p2p36p36p36)) (ws' := [(h, .inr (7, oM r (upd i 1 y_29p2p36p36) j)), ((r 0), .inl (cI, 1800, .inl (upd (upd (upd (upd f0 (i 1).toNatClampNeg y_21p2) y_29p2.toNatClampNeg y_21p2p36) y_29p2p36.toNatClampNeg y_21p2p36p36) y_29p2p36p36.toNatClampNeg y_21p2p36p36p36)))]) hx hb hK hP hD hS 1 0 rfl rfl (iR_vp f_29p2p36p36_6 (by decide +kernel)) rfl rfl dX7_put_22 (fun H locs hP hD hS => ?_)
  refine lv_aload_n hx hb dX7_put_23 rfl (lv_at hl 1 rfl) ?_
  refine lv_dup hx hb dX7_put_24 rfl ?_
  refine k_get (D := (dC, dI)) (ci := 7) (v := .int y_29p2p36p36) (C := RX7) (T := TX7) (N := 92) hx hb hts hinX7 hown hK hP 0 rfl rfl 1 (by decide) w_1 rfl rfl dX7_put_25 ?_
  refine lv_iconst (v := 1) hx hb dX7_put_28 (by decide +kernel) ?_
  refine lv_iadd hx hb dX7_put_29 ?_
  refine lv_topi (fun y_29p2p36p36p36 ey_29p2p36p36p36 => ?_)
  have f_29p2p36p36p36_8 : iR y_29p2p36p36p36 12 1592 := iR_add ey_29p2p36p36p36 f_29p2p36p36_6 (iR_c (n := 1) (a := 1) (b := 1) (by decide +kernel) (by decide +kernel)) (by decide +kernel)
  refine k_put (D := (dC, dI)) (ci := 7) (v := .int y_29p2p36p36p36) (C := RX7) (T := TX7) (N := 92) (ws' := [(h, .inr (7, oM r (upd i 1 y_29p2p36p36p36) j)), ((r 0), .inl (cI, 1800, .inl (upd (upd (upd (upd f0 (i 1).toNatClampNeg y_21p2) y_29p2.toNatClampNeg y_21p2p36) y_29p2p36.toNatClampNeg y_21p2p36p36) y_29p2p36p36.toNatClampNeg y_21p2p36p36p36)))]) hx hb hts hinX7 tyX7 tyX7_ok nmX7 hown hK hP hD hS 0 rfl rfl 1 (by decide) w_1 rfl rfl rfl rfl (Nat.le_of_ble_eq_true rfl) rfl dX7_put_30 (fun H locs hP hD hS => ?_)
  refine lv_iinc (v := (-8)) (lv' := [(2, .int (-8)), (0, .ref h), (1, .int x1)]) hx hb dX7_put_33 hl (k := 0) rfl (by decide +kernel) (by decide) rfl (fun ls hl => ?_)
  refine lv_goto (tgt := 3) hx hb dX7_put_36 (by decide) ?_
  refine lv_iload_n hx hb dX7_put_3 rfl (lv_at hl 0 rfl) ?_
  refine lv_if_lt (tgt := 39) hx hb dX7_put_4 (by decide) (fun _ => ?_) (fun q9 => absurd q9 (by decide +kernel))
  exact k_rv B hP hD hS dX7_put_39 ((fun k9 => match k9 with | 0 => y_29p2p36p36p36 | _ => 0), (fun _ => 0), (fun k9 => match k9 with | 0 => (upd (upd (upd (upd f0 (i 1).toNatClampNeg y_21p2) y_29p2.toNatClampNeg y_21p2p36) y_29p2p36.toNatClampNeg y_21p2p36p36) y_29p2p36p36.toNatClampNeg y_21p2p36p36p36) | _ => (fun _ => 0)), (fun _ => (fun _ => 0)), (fun _ => 0)) [0, 1] rfl rfl (Nat.le_of_ble_eq_true rfl) (Nat.le_of_ble_eq_true rfl) ⟨f_29p2p36p36p36_8, (aR_upd _ (aR_upd _ (aR_upd _ (aR_upd _ hf0 f_21p2_1) f_21p2p36_3) f_21p2p36p36_5) f_21p2p36p36p36_7)⟩
set_option maxHeartbeats 8000000 in
set_option maxRecDepth 100000 in
theorem s_X7_put_v9 (l : Launch) (dC : Nat → ClassId) (dI : Nat → Nat → Nat) (cI cJ cZ cM : ClassId) (h : Nat) (r : Nat → Nat) (i : Nat → Int32) (j : Nat → Int64) (x1 : Int32) (f0 : Nat → Int32) (hm1 : iR (i 1) 12 1592) (hI : mR i) (hf0 : aR f0 0 255) : k_Mv l yX7_put wsX7_put ({ frames := 1, cells := 0, slots := 0, locals := 40 }) (dC, dI) vwCl (tyy cI cJ cZ cM) [(h, .inr (7, oM r i j)), ((r 0), .inl (cI, 1800, .inl f0))] [.ref h, .int x1] 0 0 (fun (u9 : SU) => [(h, .inr (7, oM r (upd i 1 (u9.1 0)) j)), ((r 0), .inl (cI, 1800, .inl (u9.2.2.1 0)))]) (fun (u9 : SU) => (iR (u9.1 0) 16 1596) ∧ (aR (u9.2.2.1 0) 0 255)) := by
  refine fun sz => k_enter (cc := cX7_put) (maxL := 3) (ret := none) (Qc := fun A => va_Qv (fun (u9 : SU) => (iR (u9.1 0) 16 1596) ∧ (aR (u9.2.2.1 0) 0 255)) (fun u => k_B (dC, dI) vwCl (tyy cI cJ cZ cM) A ((fun (u9 : SU) => [(h, .inr (7, oM r (upd i 1 (u9.1 0)) j)), ((r 0), .inl (cI, 1800, .inl (u9.2.2.1 0)))]) u)) A) sz (by decide +kernel) rfl (Nat.le_of_ble_eq_true rfl) (fun p e s m args below meth c A ls H locs B hP hD hS hl => ?_)
  obtain ⟨hx, hb, hml, hown, hts, hr, hlk, hnm, hK, hA, hN, hC⟩ := id B
  have hown : s.vm.findClass RX7 = some m.cls := hown
  have hl : lv_has ls 3 [(0, .ref h), (1, .int x1)] := hl
  have w_0 : (Cond.fieldLink RX7 7 "WishSeaModel" "tape" "[I").before args s = true := hts _ (List.mem_of_getElem? (i := 1) rfl)
  have w_1 : (Cond.fieldLink RX7 13 "WishSeaModel" "taped" "I").before args s = true := hts _ (List.mem_of_getElem? (i := 2) rfl)
  have hinX7 : ∀ w ∈ u_ws RX7 TX7 92, w ∈ wsX7_put := fun _ h => List.mem_cons_of_mem _ (List.mem_append_right _ h)
  refine lv_bipush (v := 24) hx hb dX7_put_0 (by decide +kernel) ?_
  refine lv_istore_n (lv' := [(2, .int 24), (0, .ref h), (1, .int x1)]) hx hb dX7_put_2 rfl hl (by decide) rfl (fun ls hl => ?_)
  refine lv_iload_n hx hb dX7_put_3 rfl (lv_at hl 0 rfl) ?_
  refine lv_if_lt (tgt := 39) hx hb dX7_put_4 (by decide) (fun q9 => absurd q9 (by decide +kernel)) (fun _ => ?_)
  refine lv_aload_n hx hb dX7_put_7 rfl (lv_at hl 1 rfl) ?_
  refine k_get (D := (dC, dI)) (ci := 7) (v := .ref (r 0)) (C := RX7) (T := TX7) (N := 92) hx hb hts hinX7 hown hK hP 0 rfl rfl 0 (by decide) w_0 rfl rfl dX7_put_8 ?_
  refine lv_aload_n hx hb dX7_put_11 rfl (lv_at hl 1 rfl) ?_
  refine k_get (D := (dC, dI)) (ci := 7) (v := .int (i 1)) (C := RX7) (T := TX7) (N := 92) hx hb hts hinX7 hown hK hP 0 rfl rfl 1 (by decide) w_1 rfl rfl dX7_put_12 ?_
  refine lv_iload_n hx hb dX7_put_15 rfl (lv_at hl 2 rfl) ?_
  refine lv_iload_n hx hb dX7_put_16 rfl (lv_at hl 0 rfl) ?_
  refine lv_ishr hx hb dX7_put_17 ?_
  refine lv_topi (fun y_17p2 ey_17p2 => ?_)
  refine lv_sipush (v := 255) hx hb dX7_put_18 (by decide +kernel) ?_
  refine lv_iand hx hb dX7_put_21 ?_
  refine lv_topi (fun y_21p2 ey_21p2 => ?_)
  have f_21p2_1 : iR y_21p2 0 255 := iR_andR ey_21p2 (iR_c (n := 255) (a := 255) (b := 255) (by decide +kernel) (by decide +kernel)) (by decide +kernel)
  refine s_iast (g := (upd f0 (i 1).toNatClampNeg y_21p2)) (ws' := [(h, .inr (7, oM r i j)), ((r 0), .inl (cI, 1800, .inl (upd f0 (i 1).toNatClampNeg y_21p2)))]) hx hb hK hP hD hS 1 0 rfl rfl (iR_vp hm1 (by decide +kernel)) rfl rfl dX7_put_22 (fun H locs hP hD hS => ?_)
  refine lv_aload_n hx hb dX7_put_23 rfl (lv_at hl 1 rfl) ?_
  refine lv_dup hx hb dX7_put_24 rfl ?_
  refine k_get (D := (dC, dI)) (ci := 7) (v := .int (i 1)) (C := RX7) (T := TX7) (N := 92) hx hb hts hinX7 hown hK hP 0 rfl rfl 1 (by decide) w_1 rfl rfl dX7_put_25 ?_
  refine lv_iconst (v := 1) hx hb dX7_put_28 (by decide +kernel) ?_
  refine lv_iadd hx hb dX7_put_29 ?_
  refine lv_topi (fun y_29p2 ey_29p2 => ?_)
  have f_29p2_2 : iR y_29p2 13 1593 := iR_add ey_29p2 hm1 (iR_c (n := 1) (a := 1) (b := 1) (by decide +kernel) (by decide +kernel)) (by decide +kernel)
  refine k_put (D := (dC, dI)) (ci := 7) (v := .int y_29p2) (C := RX7) (T := TX7) (N := 92) (ws' := [(h, .inr (7, oM r (upd i 1 y_29p2) j)), ((r 0), .inl (cI, 1800, .inl (upd f0 (i 1).toNatClampNeg y_21p2)))]) hx hb hts hinX7 tyX7 tyX7_ok nmX7 hown hK hP hD hS 0 rfl rfl 1 (by decide) w_1 rfl rfl rfl rfl (Nat.le_of_ble_eq_true rfl) rfl dX7_put_30 (fun H locs hP hD hS => ?_)
  refine lv_iinc (v := 16) (lv' := [(2, .int 16), (0, .ref h), (1, .int x1)]) hx hb dX7_put_33 hl (k := 0) rfl (by decide +kernel) (by decide) rfl (fun ls hl => ?_)
  refine lv_goto (tgt := 3) hx hb dX7_put_36 (by decide) ?_
  refine lv_iload_n hx hb dX7_put_3 rfl (lv_at hl 0 rfl) ?_
  refine lv_if_lt (tgt := 39) hx hb dX7_put_4 (by decide) (fun q9 => absurd q9 (by decide +kernel)) (fun _ => ?_)
  refine lv_aload_n hx hb dX7_put_7 rfl (lv_at hl 1 rfl) ?_
  refine k_get (D := (dC, dI)) (ci := 7) (v := .ref (r 0)) (C := RX7) (T := TX7) (N := 92) hx hb hts hinX7 hown hK hP 0 rfl rfl 0 (by decide) w_0 rfl rfl dX7_put_8 ?_
  refine lv_aload_n hx hb dX7_put_11 rfl (lv_at hl 1 rfl) ?_
  refine k_get (D := (dC, dI)) (ci := 7) (v := .int y_29p2) (C := RX7) (T := TX7) (N := 92) hx hb hts hinX7 hown hK hP 0 rfl rfl 1 (by decide) w_1 rfl rfl dX7_put_12 ?_
  refine lv_iload_n hx hb dX7_put_15 rfl (lv_at hl 2 rfl) ?_
  refine lv_iload_n hx hb dX7_put_16 rfl (lv_at hl 0 rfl) ?_
  refine lv_ishr hx hb dX7_put_17 ?_
  refine lv_topi (fun y_17p2p36 ey_17p2p36 => ?_)
  refine lv_sipush (v := 255) hx hb dX7_put_18 (by decide +kernel) ?_
  refine lv_iand hx hb dX7_put_21 ?_
  refine lv_topi (fun y_21p2p36 ey_21p2p36 => ?_)
  have f_21p2p36_3 : iR y_21p2p36 0 255 := iR_andR ey_21p2p36 (iR_c (n := 255) (a := 255) (b := 255) (by decide +kernel) (by decide +kernel)) (by decide +kernel)
  refine s_iast (g := (upd (upd f0 (i 1).toNatClampNeg y_21p2) y_29p2.toNatClampNeg y_21p2p36)) (ws' := [(h, .inr (7, oM r (upd i 1 y_29p2) j)), ((r 0), .inl (cI, 1800, .inl (upd (upd f0 (i 1).toNatClampNeg y_21p2) y_29p2.toNatClampNeg y_21p2p36)))]) hx hb hK hP hD hS 1 0 rfl rfl (iR_vp f_29p2_2 (by decide +kernel)) rfl rfl dX7_put_22 (fun H locs hP hD hS => ?_)
  refine lv_aload_n hx hb dX7_put_23 rfl (lv_at hl 1 rfl) ?_
  refine lv_dup hx hb dX7_put_24 rfl ?_
  refine k_get (D := (dC, dI)) (ci := 7) (v := .int y_29p2) (C := RX7) (T := TX7) (N := 92) hx hb hts hinX7 hown hK hP 0 rfl rfl 1 (by decide) w_1 rfl rfl dX7_put_25 ?_
  refine lv_iconst (v := 1) hx hb dX7_put_28 (by decide +kernel) ?_
  refine lv_iadd hx hb dX7_put_29 ?_
  refine lv_topi (fun y_29p2p36 ey_29p2p36 => ?_)
  have f_29p2p36_4 : iR y_29p2p36 14 1594 := iR_add ey_29p2p36 f_29p2_2 (iR_c (n := 1) (a := 1) (b := 1) (by decide +kernel) (by decide +kernel)) (by decide +kernel)
  refine k_put (D := (dC, dI)) (ci := 7) (v := .int y_29p2p36) (C := RX7) (T := TX7) (N := 92) (ws' := [(h, .inr (7, oM r (upd i 1 y_29p2p36) j)), ((r 0), .inl (cI, 1800, .inl (upd (upd f0 (i 1).toNatClampNeg y_21p2) y_29p2.toNatClampNeg y_21p2p36)))]) hx hb hts hinX7 tyX7 tyX7_ok nmX7 hown hK hP hD hS 0 rfl rfl 1 (by decide) w_1 rfl rfl rfl rfl (Nat.le_of_ble_eq_true rfl) rfl dX7_put_30 (fun H locs hP hD hS => ?_)
  refine lv_iinc (v := 8) (lv' := [(2, .int 8), (0, .ref h), (1, .int x1)]) hx hb dX7_put_33 hl (k := 0) rfl (by decide +kernel) (by decide) rfl (fun ls hl => ?_)
  refine lv_goto (tgt := 3) hx hb dX7_put_36 (by decide) ?_
  refine lv_iload_n hx hb dX7_put_3 rfl (lv_at hl 0 rfl) ?_
  refine lv_if_lt (tgt := 39) hx hb dX7_put_4 (by decide) (fun q9 => absurd q9 (by decide +kernel)) (fun _ => ?_)
  refine lv_aload_n hx hb dX7_put_7 rfl (lv_at hl 1 rfl) ?_
  refine k_get (D := (dC, dI)) (ci := 7) (v := .ref (r 0)) (C := RX7) (T := TX7) (N := 92) hx hb hts hinX7 hown hK hP 0 rfl rfl 0 (by decide) w_0 rfl rfl dX7_put_8 ?_
  refine lv_aload_n hx hb dX7_put_11 rfl (lv_at hl 1 rfl) ?_
  refine k_get (D := (dC, dI)) (ci := 7) (v := .int y_29p2p36) (C := RX7) (T := TX7) (N := 92) hx hb hts hinX7 hown hK hP 0 rfl rfl 1 (by decide) w_1 rfl rfl dX7_put_12 ?_
  refine lv_iload_n hx hb dX7_put_15 rfl (lv_at hl 2 rfl) ?_
  refine lv_iload_n hx hb dX7_put_16 rfl (lv_at hl 0 rfl) ?_
  refine lv_ishr hx hb dX7_put_17 ?_
  refine lv_topi (fun y_17p2p36p36 ey_17p2p36p36 => ?_)
  refine lv_sipush (v := 255) hx hb dX7_put_18 (by decide +kernel) ?_
  refine lv_iand hx hb dX7_put_21 ?_
  refine lv_topi (fun y_21p2p36p36 ey_21p2p36p36 => ?_)
  have f_21p2p36p36_5 : iR y_21p2p36p36 0 255 := iR_andR ey_21p2p36p36 (iR_c (n := 255) (a := 255) (b := 255) (by decide +kernel) (by decide +kernel)) (by decide +kernel)
  refine s_iast (g := (upd (upd (upd f0 (i 1).toNatClampNeg y_21p2) y_29p2.toNatClampNeg y_21p2p36) y_29p2p36.toNatClampNeg y_21p2p36p36)) (ws' := [(h, .inr (7, oM r (upd i 1 y_29p2p36) j)), ((r 0), .inl (cI, 1800, .inl (upd (upd (upd f0 (i 1).toNatClampNeg y_21p2) y_29p2.toNatClampNeg y_21p2p36) y_29p2p36.toNatClampNeg y_21p2p36p36)))]) hx hb hK hP hD hS 1 0 rfl rfl (iR_vp f_29p2p36_4 (by decide +kernel)) rfl rfl dX7_put_22 (fun H locs hP hD hS => ?_)
  refine lv_aload_n hx hb dX7_put_23 rfl (lv_at hl 1 rfl) ?_
  refine lv_dup hx hb dX7_put_24 rfl ?_
  refine k_get (D := (dC, dI)) (ci := 7) (v := .int y_29p2p36) (C := RX7) (T := TX7) (N := 92) hx hb hts hinX7 hown hK hP 0 rfl rfl 1 (by decide) w_1 rfl rfl dX7_put_25 ?_
  refine lv_iconst (v := 1) hx hb dX7_put_28 (by decide +kernel) ?_
  refine lv_iadd hx hb dX7_put_29 ?_
  refine lv_topi (fun y_29p2p36p36 ey_29p2p36p36 => ?_)
  have f_29p2p36p36_6 : iR y_29p2p36p36 15 1595 := iR_add ey_29p2p36p36 f_29p2p36_4 (iR_c (n := 1) (a := 1) (b := 1) (by decide +kernel) (by decide +kernel)) (by decide +kernel)
  refine k_put (D := (dC, dI)) (ci := 7) (v := .int y_29p2p36p36) (C := RX7) (T := TX7) (N := 92) (ws' := [(h, .inr (7, oM r (upd i 1 y_29p2p36p36) j)), ((r 0), .inl (cI, 1800, .inl (upd (upd (upd f0 (i 1).toNatClampNeg y_21p2) y_29p2.toNatClampNeg y_21p2p36) y_29p2p36.toNatClampNeg y_21p2p36p36)))]) hx hb hts hinX7 tyX7 tyX7_ok nmX7 hown hK hP hD hS 0 rfl rfl 1 (by decide) w_1 rfl rfl rfl rfl (Nat.le_of_ble_eq_true rfl) rfl dX7_put_30 (fun H locs hP hD hS => ?_)
  refine lv_iinc (v := 0) (lv' := [(2, .int 0), (0, .ref h), (1, .int x1)]) hx hb dX7_put_33 hl (k := 0) rfl (by decide +kernel) (by decide) rfl (fun ls hl => ?_)
  refine lv_goto (tgt := 3) hx hb dX7_put_36 (by decide) ?_
  refine lv_iload_n hx hb dX7_put_3 rfl (lv_at hl 0 rfl) ?_
  refine lv_if_lt (tgt := 39) hx hb dX7_put_4 (by decide) (fun q9 => absurd q9 (by decide +kernel)) (fun _ => ?_)
  refine lv_aload_n hx hb dX7_put_7 rfl (lv_at hl 1 rfl) ?_
  refine k_get (D := (dC, dI)) (ci := 7) (v := .ref (r 0)) (C := RX7) (T := TX7) (N := 92) hx hb hts hinX7 hown hK hP 0 rfl rfl 0 (by decide) w_0 rfl rfl dX7_put_8 ?_
  refine lv_aload_n hx hb dX7_put_11 rfl (lv_at hl 1 rfl) ?_
  refine k_get (D := (dC, dI)) (ci := 7) (v := .int y_29p2p36p36) (C := RX7) (T := TX7) (N := 92) hx hb hts hinX7 hown hK hP 0 rfl rfl 1 (by decide) w_1 rfl rfl dX7_put_12 ?_
  refine lv_iload_n hx hb dX7_put_15 rfl (lv_at hl 2 rfl) ?_
  refine lv_iload_n hx hb dX7_put_16 rfl (lv_at hl 0 rfl) ?_
  refine lv_ishr hx hb dX7_put_17 ?_
  refine lv_topi (fun y_17p2p36p36p36 ey_17p2p36p36p36 => ?_)
  refine lv_sipush (v := 255) hx hb dX7_put_18 (by decide +kernel) ?_
  refine lv_iand hx hb dX7_put_21 ?_
  refine lv_topi (fun y_21p2p36p36p36 ey_21p2p36p36p36 => ?_)
  have f_21p2p36p36p36_7 : iR y_21p2p36p36p36 0 255 := iR_andR ey_21p2p36p36p36 (iR_c (n := 255) (a := 255) (b := 255) (by decide +kernel) (by decide +kernel)) (by decide +kernel)
  refine s_iast (g := (upd (upd (upd (upd f0 (i 1).toNatClampNeg y_21p2) y_29p2.toNatClampNeg y_21p2p36) y_29p2p36.toNatClampNeg y_21p2p36p36) y_29p2p36p36.toNatClampNeg y_21p2p36p36p36)) (ws' := [(h, .inr (7, oM r (upd i 1 y_29p2p36p36) j)), ((r 0), .inl (cI, 1800, .inl (upd (upd (upd (upd f0 (i 1).toNatClampNeg y_21p2) y_29p2.toNatClampNeg y_21p2p36) y_29p2p36.toNatClampNeg y_21p2p36p36) y_29p2p36p36.toNatClampNeg y_21p2p36p36p36)))]) hx hb hK hP hD hS 1 0 rfl rfl (iR_vp f_29p2p36p36_6 (by decide +kernel)) rfl rfl dX7_put_22 (fun H locs hP hD hS => ?_)
  refine lv_aload_n hx hb dX7_put_23 rfl (lv_at hl 1 rfl) ?_
  refine lv_dup hx hb dX7_put_24 rfl ?_
  refine k_get (D := (dC, dI)) (ci := 7) (v := .int y_29p2p36p36) (C := RX7) (T := TX7) (N := 92) hx hb hts hinX7 hown hK hP 0 rfl rfl 1 (by decide) w_1 rfl rfl dX7_put_25 ?_
  refine lv_iconst (v := 1) hx hb dX7_put_28 (by decide +kernel) ?_
  refine lv_iadd hx hb dX7_put_29 ?_
  refine lv_topi (fun y_29p2p36p36p36 ey_29p2p36p36p36 => ?_)
  have f_29p2p36p36p36_8 : iR y_29p2p36p36p36 16 1596 := iR_add ey_29p2p36p36p36 f_29p2p36p36_6 (iR_c (n := 1) (a := 1) (b := 1) (by decide +kernel) (by decide +kernel)) (by decide +kernel)
  refine k_put (D := (dC, dI)) (ci := 7) (v := .int y_29p2p36p36p36) (C := RX7) (T := TX7) (N := 92) (ws' := [(h, .inr (7, oM r (upd i 1 y_29p2p36p36p36) j)), ((r 0), .inl (cI, 1800, .inl (upd (upd (upd (upd f0 (i 1).toNatClampNeg y_21p2) y_29p2.toNatClampNeg y_21p2p36) y_29p2p36.toNatClampNeg y_21p2p36p36) y_29p2p36p36.toNatClampNeg y_21p2p36p36p36)))]) hx hb hts hinX7 tyX7 tyX7_ok nmX7 hown hK hP hD hS 0 rfl rfl 1 (by decide) w_1 rfl rfl rfl rfl (Nat.le_of_ble_eq_true rfl) rfl dX7_put_30 (fun H locs hP hD hS => ?_)
  refine lv_iinc (v := (-8)) (lv' := [(2, .int (-8)), (0, .ref h), (1, .int x1)]) hx hb dX7_put_33 hl (k := 0) rfl (by decide +kernel) (by decide) rfl (fun ls hl => ?_)
  refine lv_goto (tgt := 3) hx hb dX7_put_36 (by decide) ?_
  refine lv_iload_n hx hb dX7_put_3 rfl (lv_at hl 0 rfl) ?_
  refine lv_if_lt (tgt := 39) hx hb dX7_put_4 (by decide) (fun _ => ?_) (fun q9 => absurd q9 (by decide +kernel))
  exact k_rv B hP hD hS dX7_put_39 ((fun k9 => match k9 with | 0 => y_29p2p36p36p36 | _ => 0), (fun _ => 0), (fun k9 => match k9 with | 0 => (upd (upd (upd (upd f0 (i 1).toNatClampNeg y_21p2) y_29p2.toNatClampNeg y_21p2p36) y_29p2p36.toNatClampNeg y_21p2p36p36) y_29p2p36p36.toNatClampNeg y_21p2p36p36p36) | _ => (fun _ => 0)), (fun _ => (fun _ => 0)), (fun _ => 0)) [0, 1] rfl rfl (Nat.le_of_ble_eq_true rfl) (Nat.le_of_ble_eq_true rfl) ⟨f_29p2p36p36p36_8, (aR_upd _ (aR_upd _ (aR_upd _ (aR_upd _ hf0 f_21p2_1) f_21p2p36_3) f_21p2p36p36_5) f_21p2p36p36p36_7)⟩
set_option maxHeartbeats 8000000 in
set_option maxRecDepth 100000 in
theorem s_X7_put_v10 (l : Launch) (dC : Nat → ClassId) (dI : Nat → Nat → Nat) (cI cJ cZ cM : ClassId) (h : Nat) (r : Nat → Nat) (i : Nat → Int32) (j : Nat → Int64) (x1 : Int32) (f0 : Nat → Int32) (hm1 : iR (i 1) 16 1596) (hI : mR i) (hf0 : aR f0 0 255) : k_Mv l yX7_put wsX7_put ({ frames := 1, cells := 0, slots := 0, locals := 40 }) (dC, dI) vwCl (tyy cI cJ cZ cM) [(h, .inr (7, oM r i j)), ((r 0), .inl (cI, 1800, .inl f0))] [.ref h, .int x1] 0 0 (fun (u9 : SU) => [(h, .inr (7, oM r (upd i 1 (u9.1 0)) j)), ((r 0), .inl (cI, 1800, .inl (u9.2.2.1 0)))]) (fun (u9 : SU) => (iR (u9.1 0) 20 1600) ∧ (aR (u9.2.2.1 0) 0 255)) := by
  refine fun sz => k_enter (cc := cX7_put) (maxL := 3) (ret := none) (Qc := fun A => va_Qv (fun (u9 : SU) => (iR (u9.1 0) 20 1600) ∧ (aR (u9.2.2.1 0) 0 255)) (fun u => k_B (dC, dI) vwCl (tyy cI cJ cZ cM) A ((fun (u9 : SU) => [(h, .inr (7, oM r (upd i 1 (u9.1 0)) j)), ((r 0), .inl (cI, 1800, .inl (u9.2.2.1 0)))]) u)) A) sz (by decide +kernel) rfl (Nat.le_of_ble_eq_true rfl) (fun p e s m args below meth c A ls H locs B hP hD hS hl => ?_)
  obtain ⟨hx, hb, hml, hown, hts, hr, hlk, hnm, hK, hA, hN, hC⟩ := id B
  have hown : s.vm.findClass RX7 = some m.cls := hown
  have hl : lv_has ls 3 [(0, .ref h), (1, .int x1)] := hl
  have w_0 : (Cond.fieldLink RX7 7 "WishSeaModel" "tape" "[I").before args s = true := hts _ (List.mem_of_getElem? (i := 1) rfl)
  have w_1 : (Cond.fieldLink RX7 13 "WishSeaModel" "taped" "I").before args s = true := hts _ (List.mem_of_getElem? (i := 2) rfl)
  have hinX7 : ∀ w ∈ u_ws RX7 TX7 92, w ∈ wsX7_put := fun _ h => List.mem_cons_of_mem _ (List.mem_append_right _ h)
  refine lv_bipush (v := 24) hx hb dX7_put_0 (by decide +kernel) ?_
  refine lv_istore_n (lv' := [(2, .int 24), (0, .ref h), (1, .int x1)]) hx hb dX7_put_2 rfl hl (by decide) rfl (fun ls hl => ?_)
  refine lv_iload_n hx hb dX7_put_3 rfl (lv_at hl 0 rfl) ?_
  refine lv_if_lt (tgt := 39) hx hb dX7_put_4 (by decide) (fun q9 => absurd q9 (by decide +kernel)) (fun _ => ?_)
  refine lv_aload_n hx hb dX7_put_7 rfl (lv_at hl 1 rfl) ?_
  refine k_get (D := (dC, dI)) (ci := 7) (v := .ref (r 0)) (C := RX7) (T := TX7) (N := 92) hx hb hts hinX7 hown hK hP 0 rfl rfl 0 (by decide) w_0 rfl rfl dX7_put_8 ?_
  refine lv_aload_n hx hb dX7_put_11 rfl (lv_at hl 1 rfl) ?_
  refine k_get (D := (dC, dI)) (ci := 7) (v := .int (i 1)) (C := RX7) (T := TX7) (N := 92) hx hb hts hinX7 hown hK hP 0 rfl rfl 1 (by decide) w_1 rfl rfl dX7_put_12 ?_
  refine lv_iload_n hx hb dX7_put_15 rfl (lv_at hl 2 rfl) ?_
  refine lv_iload_n hx hb dX7_put_16 rfl (lv_at hl 0 rfl) ?_
  refine lv_ishr hx hb dX7_put_17 ?_
  refine lv_topi (fun y_17p2 ey_17p2 => ?_)
  refine lv_sipush (v := 255) hx hb dX7_put_18 (by decide +kernel) ?_
  refine lv_iand hx hb dX7_put_21 ?_
  refine lv_topi (fun y_21p2 ey_21p2 => ?_)
  have f_21p2_1 : iR y_21p2 0 255 := iR_andR ey_21p2 (iR_c (n := 255) (a := 255) (b := 255) (by decide +kernel) (by decide +kernel)) (by decide +kernel)
  refine s_iast (g := (upd f0 (i 1).toNatClampNeg y_21p2)) (ws' := [(h, .inr (7, oM r i j)), ((r 0), .inl (cI, 1800, .inl (upd f0 (i 1).toNatClampNeg y_21p2)))]) hx hb hK hP hD hS 1 0 rfl rfl (iR_vp hm1 (by decide +kernel)) rfl rfl dX7_put_22 (fun H locs hP hD hS => ?_)
  refine lv_aload_n hx hb dX7_put_23 rfl (lv_at hl 1 rfl) ?_
  refine lv_dup hx hb dX7_put_24 rfl ?_
  refine k_get (D := (dC, dI)) (ci := 7) (v := .int (i 1)) (C := RX7) (T := TX7) (N := 92) hx hb hts hinX7 hown hK hP 0 rfl rfl 1 (by decide) w_1 rfl rfl dX7_put_25 ?_
  refine lv_iconst (v := 1) hx hb dX7_put_28 (by decide +kernel) ?_
  refine lv_iadd hx hb dX7_put_29 ?_
  refine lv_topi (fun y_29p2 ey_29p2 => ?_)
  have f_29p2_2 : iR y_29p2 17 1597 := iR_add ey_29p2 hm1 (iR_c (n := 1) (a := 1) (b := 1) (by decide +kernel) (by decide +kernel)) (by decide +kernel)
  refine k_put (D := (dC, dI)) (ci := 7) (v := .int y_29p2) (C := RX7) (T := TX7) (N := 92) (ws' := [(h, .inr (7, oM r (upd i 1 y_29p2) j)), ((r 0), .inl (cI, 1800, .inl (upd f0 (i 1).toNatClampNeg y_21p2)))]) hx hb hts hinX7 tyX7 tyX7_ok nmX7 hown hK hP hD hS 0 rfl rfl 1 (by decide) w_1 rfl rfl rfl rfl (Nat.le_of_ble_eq_true rfl) rfl dX7_put_30 (fun H locs hP hD hS => ?_)
  refine lv_iinc (v := 16) (lv' := [(2, .int 16), (0, .ref h), (1, .int x1)]) hx hb dX7_put_33 hl (k := 0) rfl (by decide +kernel) (by decide) rfl (fun ls hl => ?_)
  refine lv_goto (tgt := 3) hx hb dX7_put_36 (by decide) ?_
  refine lv_iload_n hx hb dX7_put_3 rfl (lv_at hl 0 rfl) ?_
  refine lv_if_lt (tgt := 39) hx hb dX7_put_4 (by decide) (fun q9 => absurd q9 (by decide +kernel)) (fun _ => ?_)
  refine lv_aload_n hx hb dX7_put_7 rfl (lv_at hl 1 rfl) ?_
  refine k_get (D := (dC, dI)) (ci := 7) (v := .ref (r 0)) (C := RX7) (T := TX7) (N := 92) hx hb hts hinX7 hown hK hP 0 rfl rfl 0 (by decide) w_0 rfl rfl dX7_put_8 ?_
  refine lv_aload_n hx hb dX7_put_11 rfl (lv_at hl 1 rfl) ?_
  refine k_get (D := (dC, dI)) (ci := 7) (v := .int y_29p2) (C := RX7) (T := TX7) (N := 92) hx hb hts hinX7 hown hK hP 0 rfl rfl 1 (by decide) w_1 rfl rfl dX7_put_12 ?_
  refine lv_iload_n hx hb dX7_put_15 rfl (lv_at hl 2 rfl) ?_
  refine lv_iload_n hx hb dX7_put_16 rfl (lv_at hl 0 rfl) ?_
  refine lv_ishr hx hb dX7_put_17 ?_
  refine lv_topi (fun y_17p2p36 ey_17p2p36 => ?_)
  refine lv_sipush (v := 255) hx hb dX7_put_18 (by decide +kernel) ?_
  refine lv_iand hx hb dX7_put_21 ?_
  refine lv_topi (fun y_21p2p36 ey_21p2p36 => ?_)
  have f_21p2p36_3 : iR y_21p2p36 0 255 := iR_andR ey_21p2p36 (iR_c (n := 255) (a := 255) (b := 255) (by decide +kernel) (by decide +kernel)) (by decide +kernel)
  refine s_iast (g := (upd (upd f0 (i 1).toNatClampNeg y_21p2) y_29p2.toNatClampNeg y_21p2p36)) (ws' := [(h, .inr (7, oM r (upd i 1 y_29p2) j)), ((r 0), .inl (cI, 1800, .inl (upd (upd f0 (i 1).toNatClampNeg y_21p2) y_29p2.toNatClampNeg y_21p2p36)))]) hx hb hK hP hD hS 1 0 rfl rfl (iR_vp f_29p2_2 (by decide +kernel)) rfl rfl dX7_put_22 (fun H locs hP hD hS => ?_)
  refine lv_aload_n hx hb dX7_put_23 rfl (lv_at hl 1 rfl) ?_
  refine lv_dup hx hb dX7_put_24 rfl ?_
  refine k_get (D := (dC, dI)) (ci := 7) (v := .int y_29p2) (C := RX7) (T := TX7) (N := 92) hx hb hts hinX7 hown hK hP 0 rfl rfl 1 (by decide) w_1 rfl rfl dX7_put_25 ?_
  refine lv_iconst (v := 1) hx hb dX7_put_28 (by decide +kernel) ?_
  refine lv_iadd hx hb dX7_put_29 ?_
  refine lv_topi (fun y_29p2p36 ey_29p2p36 => ?_)
  have f_29p2p36_4 : iR y_29p2p36 18 1598 := iR_add ey_29p2p36 f_29p2_2 (iR_c (n := 1) (a := 1) (b := 1) (by decide +kernel) (by decide +kernel)) (by decide +kernel)
  refine k_put (D := (dC, dI)) (ci := 7) (v := .int y_29p2p36) (C := RX7) (T := TX7) (N := 92) (ws' := [(h, .inr (7, oM r (upd i 1 y_29p2p36) j)), ((r 0), .inl (cI, 1800, .inl (upd (upd f0 (i 1).toNatClampNeg y_21p2) y_29p2.toNatClampNeg y_21p2p36)))]) hx hb hts hinX7 tyX7 tyX7_ok nmX7 hown hK hP hD hS 0 rfl rfl 1 (by decide) w_1 rfl rfl rfl rfl (Nat.le_of_ble_eq_true rfl) rfl dX7_put_30 (fun H locs hP hD hS => ?_)
  refine lv_iinc (v := 8) (lv' := [(2, .int 8), (0, .ref h), (1, .int x1)]) hx hb dX7_put_33 hl (k := 0) rfl (by decide +kernel) (by decide) rfl (fun ls hl => ?_)
  refine lv_goto (tgt := 3) hx hb dX7_put_36 (by decide) ?_
  refine lv_iload_n hx hb dX7_put_3 rfl (lv_at hl 0 rfl) ?_
  refine lv_if_lt (tgt := 39) hx hb dX7_put_4 (by decide) (fun q9 => absurd q9 (by decide +kernel)) (fun _ => ?_)
  refine lv_aload_n hx hb dX7_put_7 rfl (lv_at hl 1 rfl) ?_
  refine k_get (D := (dC, dI)) (ci := 7) (v := .ref (r 0)) (C := RX7) (T := TX7) (N := 92) hx hb hts hinX7 hown hK hP 0 rfl rfl 0 (by decide) w_0 rfl rfl dX7_put_8 ?_
  refine lv_aload_n hx hb dX7_put_11 rfl (lv_at hl 1 rfl) ?_
  refine k_get (D := (dC, dI)) (ci := 7) (v := .int y_29p2p36) (C := RX7) (T := TX7) (N := 92) hx hb hts hinX7 hown hK hP 0 rfl rfl 1 (by decide) w_1 rfl rfl dX7_put_12 ?_
  refine lv_iload_n hx hb dX7_put_15 rfl (lv_at hl 2 rfl) ?_
  refine lv_iload_n hx hb dX7_put_16 rfl (lv_at hl 0 rfl) ?_
  refine lv_ishr hx hb dX7_put_17 ?_
  refine lv_topi (fun y_17p2p36p36 ey_17p2p36p36 => ?_)
  refine lv_sipush (v := 255) hx hb dX7_put_18 (by decide +kernel) ?_
  refine lv_iand hx hb dX7_put_21 ?_
  refine lv_topi (fun y_21p2p36p36 ey_21p2p36p36 => ?_)
  have f_21p2p36p36_5 : iR y_21p2p36p36 0 255 := iR_andR ey_21p2p36p36 (iR_c (n := 255) (a := 255) (b := 255) (by decide +kernel) (by decide +kernel)) (by decide +kernel)
  refine s_iast (g := (upd (upd (upd f0 (i 1).toNatClampNeg y_21p2) y_29p2.toNatClampNeg y_21p2p36) y_29p2p36.toNatClampNeg y_21p2p36p36)) (ws' := [(h, .inr (7, oM r (upd i 1 y_29p2p36) j)), ((r 0), .inl (cI, 1800, .inl (upd (upd (upd f0 (i 1).toNatClampNeg y_21p2) y_29p2.toNatClampNeg y_21p2p36) y_29p2p36.toNatClampNeg y_21p2p36p36)))]) hx hb hK hP hD hS 1 0 rfl rfl (iR_vp f_29p2p36_4 (by decide +kernel)) rfl rfl dX7_put_22 (fun H locs hP hD hS => ?_)
  refine lv_aload_n hx hb dX7_put_23 rfl (lv_at hl 1 rfl) ?_
  refine lv_dup hx hb dX7_put_24 rfl ?_
  refine k_get (D := (dC, dI)) (ci := 7) (v := .int y_29p2p36) (C := RX7) (T := TX7) (N := 92) hx hb hts hinX7 hown hK hP 0 rfl rfl 1 (by decide) w_1 rfl rfl dX7_put_25 ?_
  refine lv_iconst (v := 1) hx hb dX7_put_28 (by decide +kernel) ?_
  refine lv_iadd hx hb dX7_put_29 ?_
  refine lv_topi (fun y_29p2p36p36 ey_29p2p36p36 => ?_)
  have f_29p2p36p36_6 : iR y_29p2p36p36 19 1599 := iR_add ey_29p2p36p36 f_29p2p36_4 (iR_c (n := 1) (a := 1) (b := 1) (by decide +kernel) (by decide +kernel)) (by decide +kernel)
  refine k_put (D := (dC, dI)) (ci := 7) (v := .int y_29p2p36p36) (C := RX7) (T := TX7) (N := 92) (ws' := [(h, .inr (7, oM r (upd i 1 y_29p2p36p36) j)), ((r 0), .inl (cI, 1800, .inl (upd (upd (upd f0 (i 1).toNatClampNeg y_21p2) y_29p2.toNatClampNeg y_21p2p36) y_29p2p36.toNatClampNeg y_21p2p36p36)))]) hx hb hts hinX7 tyX7 tyX7_ok nmX7 hown hK hP hD hS 0 rfl rfl 1 (by decide) w_1 rfl rfl rfl rfl (Nat.le_of_ble_eq_true rfl) rfl dX7_put_30 (fun H locs hP hD hS => ?_)
  refine lv_iinc (v := 0) (lv' := [(2, .int 0), (0, .ref h), (1, .int x1)]) hx hb dX7_put_33 hl (k := 0) rfl (by decide +kernel) (by decide) rfl (fun ls hl => ?_)
  refine lv_goto (tgt := 3) hx hb dX7_put_36 (by decide) ?_
  refine lv_iload_n hx hb dX7_put_3 rfl (lv_at hl 0 rfl) ?_
  refine lv_if_lt (tgt := 39) hx hb dX7_put_4 (by decide) (fun q9 => absurd q9 (by decide +kernel)) (fun _ => ?_)
  refine lv_aload_n hx hb dX7_put_7 rfl (lv_at hl 1 rfl) ?_
  refine k_get (D := (dC, dI)) (ci := 7) (v := .ref (r 0)) (C := RX7) (T := TX7) (N := 92) hx hb hts hinX7 hown hK hP 0 rfl rfl 0 (by decide) w_0 rfl rfl dX7_put_8 ?_
  refine lv_aload_n hx hb dX7_put_11 rfl (lv_at hl 1 rfl) ?_
  refine k_get (D := (dC, dI)) (ci := 7) (v := .int y_29p2p36p36) (C := RX7) (T := TX7) (N := 92) hx hb hts hinX7 hown hK hP 0 rfl rfl 1 (by decide) w_1 rfl rfl dX7_put_12 ?_
  refine lv_iload_n hx hb dX7_put_15 rfl (lv_at hl 2 rfl) ?_
  refine lv_iload_n hx hb dX7_put_16 rfl (lv_at hl 0 rfl) ?_
  refine lv_ishr hx hb dX7_put_17 ?_
  refine lv_topi (fun y_17p2p36p36p36 ey_17p2p36p36p36 => ?_)
  refine lv_sipush (v := 255) hx hb dX7_put_18 (by decide +kernel) ?_
  refine lv_iand hx hb dX7_put_21 ?_
  refine lv_topi (fun y_21p2p36p36p36 ey_21p2p36p36p36 => ?_)
  have f_21p2p36p36p36_7 : iR y_21p2p36p36p36 0 255 := iR_andR ey_21p2p36p36p36 (iR_c (n := 255) (a := 255) (b := 255) (by decide +kernel) (by decide +kernel)) (by decide +kernel)
  refine s_iast (g := (upd (upd (upd (upd f0 (i 1).toNatClampNeg y_21p2) y_29p2.toNatClampNeg y_21p2p36) y_29p2p36.toNatClampNeg y_21p2p36p36) y_29p2p36p36.toNatClampNeg y_21p2p36p36p36)) (ws' := [(h, .inr (7, oM r (upd i 1 y_29p2p36p36) j)), ((r 0), .inl (cI, 1800, .inl (upd (upd (upd (upd f0 (i 1).toNatClampNeg y_21p2) y_29p2.toNatClampNeg y_21p2p36) y_29p2p36.toNatClampNeg y_21p2p36p36) y_29p2p36p36.toNatClampNeg y_21p2p36p36p36)))]) hx hb hK hP hD hS 1 0 rfl rfl (iR_vp f_29p2p36p36_6 (by decide +kernel)) rfl rfl dX7_put_22 (fun H locs hP hD hS => ?_)
  refine lv_aload_n hx hb dX7_put_23 rfl (lv_at hl 1 rfl) ?_
  refine lv_dup hx hb dX7_put_24 rfl ?_
  refine k_get (D := (dC, dI)) (ci := 7) (v := .int y_29p2p36p36) (C := RX7) (T := TX7) (N := 92) hx hb hts hinX7 hown hK hP 0 rfl rfl 1 (by decide) w_1 rfl rfl dX7_put_25 ?_
  refine lv_iconst (v := 1) hx hb dX7_put_28 (by decide +kernel) ?_
  refine lv_iadd hx hb dX7_put_29 ?_
  refine lv_topi (fun y_29p2p36p36p36 ey_29p2p36p36p36 => ?_)
  have f_29p2p36p36p36_8 : iR y_29p2p36p36p36 20 1600 := iR_add ey_29p2p36p36p36 f_29p2p36p36_6 (iR_c (n := 1) (a := 1) (b := 1) (by decide +kernel) (by decide +kernel)) (by decide +kernel)
  refine k_put (D := (dC, dI)) (ci := 7) (v := .int y_29p2p36p36p36) (C := RX7) (T := TX7) (N := 92) (ws' := [(h, .inr (7, oM r (upd i 1 y_29p2p36p36p36) j)), ((r 0), .inl (cI, 1800, .inl (upd (upd (upd (upd f0 (i 1).toNatClampNeg y_21p2) y_29p2.toNatClampNeg y_21p2p36) y_29p2p36.toNatClampNeg y_21p2p36p36) y_29p2p36p36.toNatClampNeg y_21p2p36p36p36)))]) hx hb hts hinX7 tyX7 tyX7_ok nmX7 hown hK hP hD hS 0 rfl rfl 1 (by decide) w_1 rfl rfl rfl rfl (Nat.le_of_ble_eq_true rfl) rfl dX7_put_30 (fun H locs hP hD hS => ?_)
  refine lv_iinc (v := (-8)) (lv' := [(2, .int (-8)), (0, .ref h), (1, .int x1)]) hx hb dX7_put_33 hl (k := 0) rfl (by decide +kernel) (by decide) rfl (fun ls hl => ?_)
  refine lv_goto (tgt := 3) hx hb dX7_put_36 (by decide) ?_
  refine lv_iload_n hx hb dX7_put_3 rfl (lv_at hl 0 rfl) ?_
  refine lv_if_lt (tgt := 39) hx hb dX7_put_4 (by decide) (fun _ => ?_) (fun q9 => absurd q9 (by decide +kernel))
  exact k_rv B hP hD hS dX7_put_39 ((fun k9 => match k9 with | 0 => y_29p2p36p36p36 | _ => 0), (fun _ => 0), (fun k9 => match k9 with | 0 => (upd (upd (upd (upd f0 (i 1).toNatClampNeg y_21p2) y_29p2.toNatClampNeg y_21p2p36) y_29p2p36.toNatClampNeg y_21p2p36p36) y_29p2p36p36.toNatClampNeg y_21p2p36p36p36) | _ => (fun _ => 0)), (fun _ => (fun _ => 0)), (fun _ => 0)) [0, 1] rfl rfl (Nat.le_of_ble_eq_true rfl) (Nat.le_of_ble_eq_true rfl) ⟨f_29p2p36p36p36_8, (aR_upd _ (aR_upd _ (aR_upd _ (aR_upd _ hf0 f_21p2_1) f_21p2p36_3) f_21p2p36p36_5) f_21p2p36p36p36_7)⟩
set_option maxHeartbeats 8000000 in
set_option maxRecDepth 100000 in
theorem s_X7_refuses_v4 (l : Launch) (dC : Nat → ClassId) (dI : Nat → Nat → Nat) (cI cJ cZ cM : ClassId) (h : Nat) (r : Nat → Nat) (i : Nat → Int32) (j : Nat → Int64) (x1 : Int32) (f48 : Nat → Int32) (hx1 : iR x1 0 5) (hI : mR i) : k_Mi l yX7_refuses wsX7_refuses ({ frames := 1, cells := 0, slots := 0, locals := 40 }) (dC, dI) vwCl (tyy cI cJ cZ cM) [(h, .inr (7, oM r i j)), ((r 48), .inl (cI, 6, .inl f48))] [.ref h, .int x1] 0 0 (fun (u9 : SU) => [(h, .inr (7, oM r i j)), ((r 48), .inl (cI, 6, .inl (u9.2.2.1 0)))]) (fun (r9 : Int32) (u9 : SU) => (r9 = (-1))) := by
  refine fun sz => k_enter (cc := cX7_refuses) (maxL := 2) (ret := some (.int)) (Qc := fun A => va_Qi (fun (r9 : Int32) (u9 : SU) => (r9 = (-1))) (fun u => k_B (dC, dI) vwCl (tyy cI cJ cZ cM) A ((fun (u9 : SU) => [(h, .inr (7, oM r i j)), ((r 48), .inl (cI, 6, .inl (u9.2.2.1 0)))]) u)) A) sz (by decide +kernel) rfl (Nat.le_of_ble_eq_true rfl) (fun p e s m args below meth c A ls H locs B hP hD hS hl => ?_)
  obtain ⟨hx, hb, hml, hown, hts, hr, hlk, hnm, hK, hA, hN, hC⟩ := id B
  have hown : s.vm.findClass RX7 = some m.cls := hown
  have hl : lv_has ls 2 [(0, .ref h), (1, .int x1)] := hl
  have w_0 : (Cond.fieldLink RX7 159 "WishSeaModel" "refused" "[I").before args s = true := hts _ (List.mem_of_getElem? (i := 1) rfl)
  have hinX7 : ∀ w ∈ u_ws RX7 TX7 92, w ∈ wsX7_refuses := fun _ h => List.mem_cons_of_mem _ (List.mem_append_right _ h)
  refine lv_aload_n hx hb dX7_refuses_0 rfl (lv_at hl 0 rfl) ?_
  refine k_get (D := (dC, dI)) (ci := 7) (v := .ref (r 48)) (C := RX7) (T := TX7) (N := 92) hx hb hts hinX7 hown hK hP 0 rfl rfl 48 (by decide) w_0 rfl rfl dX7_refuses_1 ?_
  refine lv_iload_n hx hb dX7_refuses_4 rfl (lv_at hl 1 rfl) ?_
  refine lv_dup2_11 hx hb dX7_refuses_5 rfl rfl ?_
  refine va_iald hx hb hK hP 1 0 rfl rfl (iR_vp hx1 (by decide +kernel)) dX7_refuses_6 ?_
  refine lv_iconst (v := 1) hx hb dX7_refuses_7 (by decide +kernel) ?_
  refine lv_iadd hx hb dX7_refuses_8 ?_
  refine lv_topi (fun y_8 ey_8 => ?_)
  refine s_iast (g := (upd f48 x1.toNatClampNeg y_8)) (ws' := [(h, .inr (7, oM r i j)), ((r 48), .inl (cI, 6, .inl (upd f48 x1.toNatClampNeg y_8)))]) hx hb hK hP hD hS 1 0 rfl rfl (iR_vp hx1 (by decide +kernel)) rfl rfl dX7_refuses_9 (fun H locs hP hD hS => ?_)
  refine lv_iconst (v := (-1)) hx hb dX7_refuses_10 (by decide +kernel) ?_
  exact k_ri B hP hD hS dX7_refuses_11 ((fun _ => 0), (fun _ => 0), (fun k9 => match k9 with | 0 => (upd f48 x1.toNatClampNeg y_8) | _ => (fun _ => 0)), (fun _ => (fun _ => 0)), (fun _ => 0)) [0, 1] rfl rfl rfl (Nat.le_of_ble_eq_true rfl) (Nat.le_of_ble_eq_true rfl) rfl
set_option maxHeartbeats 8000000 in
set_option maxRecDepth 100000 in
theorem s_X7_feed_v0 (l : Launch) (dC : Nat → ClassId) (dI : Nat → Nat → Nat) (cI cJ cZ cM : ClassId) (h : Nat) (r : Nat → Nat) (i : Nat → Int32) (j : Nat → Int64) (x1 : Int32) (x2 : Int32) (x3 : Int32) (x4 : Int32) (x5 : Int32) (f0 : Nat → Int32) (f48 : Nat → Int32) (hI : mR i) (hf0 : aR f0 0 255) : k_Mi l yX7_feed wsX7_feed ({ frames := 2, cells := 0, slots := 0, locals := 62 }) (dC, dI) vwCl (tyy cI cJ cZ cM) [(h, .inr (7, oM r i j)), ((r 0), .inl (cI, 1800, .inl f0)), ((r 48), .inl (cI, 6, .inl f48))] [.ref h, .int x1, .int x2, .int x3, .int x4, .int x5] 0 0 (fun (u9 : SU) => [(h, .inr (7, oM r (upd i 1 (u9.1 0)) j)), ((r 0), .inl (cI, 1800, .inl (u9.2.2.1 0))), ((r 48), .inl (cI, 6, .inl (u9.2.2.1 1)))]) (fun (r9 : Int32) (u9 : SU) => (iR r9 (-1) 1600) ∧ (iR (u9.1 0) 20 1600) ∧ (aR (u9.2.2.1 0) 0 255)) := by
  refine fun sz => k_enter (cc := cX7_feed) (maxL := 6) (ret := some (.int)) (Qc := fun A => va_Qi (fun (r9 : Int32) (u9 : SU) => (iR r9 (-1) 1600) ∧ (iR (u9.1 0) 20 1600) ∧ (aR (u9.2.2.1 0) 0 255)) (fun u => k_B (dC, dI) vwCl (tyy cI cJ cZ cM) A ((fun (u9 : SU) => [(h, .inr (7, oM r (upd i 1 (u9.1 0)) j)), ((r 0), .inl (cI, 1800, .inl (u9.2.2.1 0))), ((r 48), .inl (cI, 6, .inl (u9.2.2.1 1)))]) u)) A) sz (by decide +kernel) rfl (Nat.le_of_ble_eq_true rfl) (fun p e s m args below meth c A ls H locs B hP hD hS hl => ?_)
  obtain ⟨hx, hb, hml, hown, hts, hr, hlk, hnm, hK, hA, hN, hC⟩ := id B
  have hown : s.vm.findClass RX7 = some m.cls := hown
  have hl : lv_has ls 6 [(0, .ref h), (1, .int x1), (2, .int x2), (3, .int x3), (4, .int x4), (5, .int x5)] := hl
  have w_0 : (Cond.fieldLink RX7 13 "WishSeaModel" "taped" "I").before args s = true := hts _ (List.mem_of_getElem? (i := 1) rfl)
  have hinX7 : ∀ w ∈ u_ws RX7 TX7 92, w ∈ wsX7_feed := fun _ h => List.mem_cons_of_mem _ (List.mem_append_right _ h)
  refine lv_aload_n hx hb dX7_feed_0 rfl (lv_at hl 0 rfl) ?_
  have f_1_1 : iR (i 1) 0 1600 := hI 1
  refine k_get (D := (dC, dI)) (ci := 7) (v := .int (i 1)) (C := RX7) (T := TX7) (N := 92) hx hb hts hinX7 hown hK hP 0 rfl rfl 1 (by decide) w_0 rfl rfl dX7_feed_1 ?_
  refine lv_bipush (v := 20) hx hb dX7_feed_4 (by decide +kernel) ?_
  refine lv_iadd hx hb dX7_feed_6 ?_
  refine lv_topi (fun y_6 ey_6 => ?_)
  have f_6_2 : iR y_6 20 1620 := iR_add ey_6 f_1_1 (iR_c (n := 20) (a := 20) (b := 20) (by decide +kernel) (by decide +kernel)) (by decide +kernel)
  refine lv_sipush (v := 1600) hx hb dX7_feed_7 (by decide +kernel) ?_
  refine lv_icmp_le (tgt := 19) hx hb dX7_feed_10 (by decide) (fun c_10 => ?_) (fun c_10 => ?_)
  · have c_10 : y_6 ≤ 1600 := c_10
    have f_19_3 : iR y_6 20 1600 := iR_leL c_10 f_6_2 (iR_c (n := 1600) (a := 1600) (b := 1600) (by decide +kernel) (by decide +kernel)) (by decide +kernel)
    have f_19_4 : iR (i 1) 0 1580 := iR_addB ey_6 f_1_1 (iR_c (n := 20) (a := 20) (b := 20) (by decide +kernel) (by decide +kernel)) f_19_3 (by decide +kernel)
    refine lv_aload_n hx hb dX7_feed_19 rfl (lv_at hl 0 rfl) ?_
    refine lv_iload_n hx hb dX7_feed_20 rfl (lv_at hl 1 rfl) ?_
    refine k_cv (wc := [(h, .inr (7, oM r i j)), ((r 0), .inl (cI, 1800, .inl f0))]) (wr := [((r 48), .inl (cI, 6, .inl f48))]) (fun hPc hDc hFc => va_runV (As := [.int x1]) (rest := []) ⟨hx, hb, hml, hown, hts⟩ (s_X7_put_v6 l dC dI cI cJ cZ cM h r i j x1 f0 f_19_4 hI hf0 H.size) (cwV 1 hts gX7_feed_X7_put rfl rfl rfl (by decide +kernel) ⟨(Nat.le_of_ble_eq_true rfl), (Nat.le_of_ble_eq_true rfl)⟩) (k_pV hPc hDc hK hN hC hS hFc hP (q0 := 0) (ci := 7) rfl rfl) rfl rfl hl.1 rfl (lv_room (Nat.le_of_ble_eq_true rfl)) dX7_feed_21 ⟨(Nat.le_of_ble_eq_true rfl), (Nat.le_of_ble_eq_true rfl)⟩) hP hD hS hA [0, 1] [2] rfl rfl rfl rfl (by decide) (fun _ => rfl) 0 0 rfl rfl (fun u_21 H locs hw hP hD hS => ?_)
    obtain ⟨g_21_0, g_21_1⟩ := hw
    have hP : va_P (dC, dI) vwCl [((r 48), .inl (cI, 6, .inl f48)), (h, .inr (7, oM r (upd i 1 (u_21.1 0)) j)), ((r 0), .inl (cI, 1800, .inl (u_21.2.2.1 0)))] H := hP
    have hD : va_D A [((r 48), .inl (cI, 6, .inl f48)), (h, .inr (7, oM r (upd i 1 (u_21.1 0)) j)), ((r 0), .inl (cI, 1800, .inl (u_21.2.2.1 0)))] := hD
    refine lv_aload_n hx hb dX7_feed_24 rfl (lv_at hl 0 rfl) ?_
    refine lv_iload_n hx hb dX7_feed_25 rfl (lv_at hl 2 rfl) ?_
    refine k_cv (wc := [(h, .inr (7, oM r (upd i 1 (u_21.1 0)) j)), ((r 0), .inl (cI, 1800, .inl (u_21.2.2.1 0)))]) (wr := [((r 48), .inl (cI, 6, .inl f48))]) (fun hPc hDc hFc => va_runV (As := [.int x2]) (rest := []) ⟨hx, hb, hml, hown, hts⟩ (s_X7_put_v7 l dC dI cI cJ cZ cM h r (upd i 1 (u_21.1 0)) j x2 (u_21.2.2.1 0) g_21_0 (mR_upd 1 hI (show iR _ (loI 1) (hiI 1) from (iR_w g_21_0 (by decide +kernel)))) g_21_1 H.size) (cwV 1 hts gX7_feed_X7_put rfl rfl rfl (by decide +kernel) ⟨(Nat.le_of_ble_eq_true rfl), (Nat.le_of_ble_eq_true rfl)⟩) (k_pV hPc hDc hK hN hC hS hFc hP (q0 := 1) (ci := 7) rfl rfl) rfl rfl hl.1 rfl (lv_room (Nat.le_of_ble_eq_true rfl)) dX7_feed_26 ⟨(Nat.le_of_ble_eq_true rfl), (Nat.le_of_ble_eq_true rfl)⟩) hP hD hS hA [1, 2] [0] rfl rfl rfl rfl (by decide) (fun _ => rfl) 0 0 rfl rfl (fun u_26 H locs hw hP hD hS => ?_)
    obtain ⟨g_26_0, g_26_1⟩ := hw
    have hP : va_P (dC, dI) vwCl [((r 48), .inl (cI, 6, .inl f48)), (h, .inr (7, oM r (upd i 1 (u_26.1 0)) j)), ((r 0), .inl (cI, 1800, .inl (u_26.2.2.1 0)))] H := hP
    have hD : va_D A [((r 48), .inl (cI, 6, .inl f48)), (h, .inr (7, oM r (upd i 1 (u_26.1 0)) j)), ((r 0), .inl (cI, 1800, .inl (u_26.2.2.1 0)))] := hD
    refine lv_aload_n hx hb dX7_feed_29 rfl (lv_at hl 0 rfl) ?_
    refine lv_iload_n hx hb dX7_feed_30 rfl (lv_at hl 3 rfl) ?_
    refine k_cv (wc := [(h, .inr (7, oM r (upd i 1 (u_26.1 0)) j)), ((r 0), .inl (cI, 1800, .inl (u_26.2.2.1 0)))]) (wr := [((r 48), .inl (cI, 6, .inl f48))]) (fun hPc hDc hFc => va_runV (As := [.int x3]) (rest := []) ⟨hx, hb, hml, hown, hts⟩ (s_X7_put_v8 l dC dI cI cJ cZ cM h r (upd i 1 (u_26.1 0)) j x3 (u_26.2.2.1 0) g_26_0 (mR_upd 1 hI (show iR _ (loI 1) (hiI 1) from (iR_w g_26_0 (by decide +kernel)))) g_26_1 H.size) (cwV 1 hts gX7_feed_X7_put rfl rfl rfl (by decide +kernel) ⟨(Nat.le_of_ble_eq_true rfl), (Nat.le_of_ble_eq_true rfl)⟩) (k_pV hPc hDc hK hN hC hS hFc hP (q0 := 1) (ci := 7) rfl rfl) rfl rfl hl.1 rfl (lv_room (Nat.le_of_ble_eq_true rfl)) dX7_feed_31 ⟨(Nat.le_of_ble_eq_true rfl), (Nat.le_of_ble_eq_true rfl)⟩) hP hD hS hA [1, 2] [0] rfl rfl rfl rfl (by decide) (fun _ => rfl) 0 0 rfl rfl (fun u_31 H locs hw hP hD hS => ?_)
    obtain ⟨g_31_0, g_31_1⟩ := hw
    have hP : va_P (dC, dI) vwCl [((r 48), .inl (cI, 6, .inl f48)), (h, .inr (7, oM r (upd i 1 (u_31.1 0)) j)), ((r 0), .inl (cI, 1800, .inl (u_31.2.2.1 0)))] H := hP
    have hD : va_D A [((r 48), .inl (cI, 6, .inl f48)), (h, .inr (7, oM r (upd i 1 (u_31.1 0)) j)), ((r 0), .inl (cI, 1800, .inl (u_31.2.2.1 0)))] := hD
    refine lv_aload_n hx hb dX7_feed_34 rfl (lv_at hl 0 rfl) ?_
    refine lv_iload hx hb dX7_feed_35 (lv_at hl 4 rfl) ?_
    refine k_cv (wc := [(h, .inr (7, oM r (upd i 1 (u_31.1 0)) j)), ((r 0), .inl (cI, 1800, .inl (u_31.2.2.1 0)))]) (wr := [((r 48), .inl (cI, 6, .inl f48))]) (fun hPc hDc hFc => va_runV (As := [.int x4]) (rest := []) ⟨hx, hb, hml, hown, hts⟩ (s_X7_put_v9 l dC dI cI cJ cZ cM h r (upd i 1 (u_31.1 0)) j x4 (u_31.2.2.1 0) g_31_0 (mR_upd 1 hI (show iR _ (loI 1) (hiI 1) from (iR_w g_31_0 (by decide +kernel)))) g_31_1 H.size) (cwV 1 hts gX7_feed_X7_put rfl rfl rfl (by decide +kernel) ⟨(Nat.le_of_ble_eq_true rfl), (Nat.le_of_ble_eq_true rfl)⟩) (k_pV hPc hDc hK hN hC hS hFc hP (q0 := 1) (ci := 7) rfl rfl) rfl rfl hl.1 rfl (lv_room (Nat.le_of_ble_eq_true rfl)) dX7_feed_37 ⟨(Nat.le_of_ble_eq_true rfl), (Nat.le_of_ble_eq_true rfl)⟩) hP hD hS hA [1, 2] [0] rfl rfl rfl rfl (by decide) (fun _ => rfl) 0 0 rfl rfl (fun u_37 H locs hw hP hD hS => ?_)
    obtain ⟨g_37_0, g_37_1⟩ := hw
    have hP : va_P (dC, dI) vwCl [((r 48), .inl (cI, 6, .inl f48)), (h, .inr (7, oM r (upd i 1 (u_37.1 0)) j)), ((r 0), .inl (cI, 1800, .inl (u_37.2.2.1 0)))] H := hP
    have hD : va_D A [((r 48), .inl (cI, 6, .inl f48)), (h, .inr (7, oM r (upd i 1 (u_37.1 0)) j)), ((r 0), .inl (cI, 1800, .inl (u_37.2.2.1 0)))] := hD
    refine lv_aload_n hx hb dX7_feed_40 rfl (lv_at hl 0 rfl) ?_
    refine lv_iload hx hb dX7_feed_41 (lv_at hl 5 rfl) ?_
    refine k_cv (wc := [(h, .inr (7, oM r (upd i 1 (u_37.1 0)) j)), ((r 0), .inl (cI, 1800, .inl (u_37.2.2.1 0)))]) (wr := [((r 48), .inl (cI, 6, .inl f48))]) (fun hPc hDc hFc => va_runV (As := [.int x5]) (rest := []) ⟨hx, hb, hml, hown, hts⟩ (s_X7_put_v10 l dC dI cI cJ cZ cM h r (upd i 1 (u_37.1 0)) j x5 (u_37.2.2.1 0) g_37_0 (mR_upd 1 hI (show iR _ (loI 1) (hiI 1) from (iR_w g_37_0 (by decide +kernel)))) g_37_1 H.size) (cwV 1 hts gX7_feed_X7_put rfl rfl rfl (by decide +kernel) ⟨(Nat.le_of_ble_eq_true rfl), (Nat.le_of_ble_eq_true rfl)⟩) (k_pV hPc hDc hK hN hC hS hFc hP (q0 := 1) (ci := 7) rfl rfl) rfl rfl hl.1 rfl (lv_room (Nat.le_of_ble_eq_true rfl)) dX7_feed_43 ⟨(Nat.le_of_ble_eq_true rfl), (Nat.le_of_ble_eq_true rfl)⟩) hP hD hS hA [1, 2] [0] rfl rfl rfl rfl (by decide) (fun _ => rfl) 0 0 rfl rfl (fun u_43 H locs hw hP hD hS => ?_)
    obtain ⟨g_43_0, g_43_1⟩ := hw
    have hP : va_P (dC, dI) vwCl [((r 48), .inl (cI, 6, .inl f48)), (h, .inr (7, oM r (upd i 1 (u_43.1 0)) j)), ((r 0), .inl (cI, 1800, .inl (u_43.2.2.1 0)))] H := hP
    have hD : va_D A [((r 48), .inl (cI, 6, .inl f48)), (h, .inr (7, oM r (upd i 1 (u_43.1 0)) j)), ((r 0), .inl (cI, 1800, .inl (u_43.2.2.1 0)))] := hD
    refine lv_aload_n hx hb dX7_feed_46 rfl (lv_at hl 0 rfl) ?_
    refine k_get (D := (dC, dI)) (ci := 7) (v := .int (u_43.1 0)) (C := RX7) (T := TX7) (N := 92) hx hb hts hinX7 hown hK hP 1 rfl rfl 1 (by decide) w_0 rfl rfl dX7_feed_47 ?_
    exact k_ri B hP hD hS dX7_feed_50 ((fun k9 => match k9 with | 0 => (u_43.1 0) | _ => 0), (fun _ => 0), (fun k9 => match k9 with | 0 => (u_43.2.2.1 0) | 1 => f48 | _ => (fun _ => 0)), (fun _ => (fun _ => 0)), (fun _ => 0)) [1, 2, 0] rfl rfl rfl (Nat.le_of_ble_eq_true rfl) (Nat.le_of_ble_eq_true rfl) ⟨(iR_w g_43_0 (by decide +kernel)), g_43_0, g_43_1⟩
  · have c_10 : 1600 < y_6 := i_nle c_10
    have f_13_3 : iR y_6 1601 1620 := iR_ltR c_10 (iR_c (n := 1600) (a := 1600) (b := 1600) (by decide +kernel) (by decide +kernel)) f_6_2 (by decide +kernel)
    have f_13_4 : iR (i 1) 1581 1600 := iR_addB ey_6 f_1_1 (iR_c (n := 20) (a := 20) (b := 20) (by decide +kernel) (by decide +kernel)) f_13_3 (by decide +kernel)
    refine lv_aload_n hx hb dX7_feed_13 rfl (lv_at hl 0 rfl) ?_
    refine lv_iconst (v := 0) hx hb dX7_feed_14 (by decide +kernel) ?_
    refine k_ci (wc := [(h, .inr (7, oM r i j)), ((r 48), .inl (cI, 6, .inl f48))]) (wr := [((r 0), .inl (cI, 1800, .inl f0))]) (fun hPc hDc hFc => va_runV (As := [.int 0]) (rest := []) ⟨hx, hb, hml, hown, hts⟩ (s_X7_refuses_v4 l dC dI cI cJ cZ cM h r i j 0 f48 (iR_c (n := 0) (a := 0) (b := 5) (by decide +kernel) (by decide +kernel)) hI H.size) (cwV 1 hts gX7_feed_X7_refuses rfl rfl rfl (by decide +kernel) ⟨(Nat.le_of_ble_eq_true rfl), (Nat.le_of_ble_eq_true rfl)⟩) (k_pV hPc hDc hK hN hC hS hFc hP (q0 := 0) (ci := 7) rfl rfl) rfl rfl hl.1 rfl (lv_room (Nat.le_of_ble_eq_true rfl)) dX7_feed_15 ⟨(Nat.le_of_ble_eq_true rfl), (Nat.le_of_ble_eq_true rfl)⟩) hP hD hS hA [0, 2] [1] rfl rfl rfl rfl (by decide) (fun _ => rfl) 0 0 rfl rfl (fun r_15 u_15 H locs hw hP hD hS => ?_)
    obtain g_15_0 := hw
    obtain rfl : r_15 = (-1) := g_15_0
    have hP : va_P (dC, dI) vwCl [((r 0), .inl (cI, 1800, .inl f0)), (h, .inr (7, oM r i j)), ((r 48), .inl (cI, 6, .inl (u_15.2.2.1 0)))] H := hP
    have hD : va_D A [((r 0), .inl (cI, 1800, .inl f0)), (h, .inr (7, oM r i j)), ((r 48), .inl (cI, 6, .inl (u_15.2.2.1 0)))] := hD
    exact k_ri B hP hD hS dX7_feed_18 ((fun k9 => match k9 with | 0 => (i 1) | _ => 0), (fun _ => 0), (fun k9 => match k9 with | 0 => f0 | 1 => (u_15.2.2.1 0) | _ => (fun _ => 0)), (fun _ => (fun _ => 0)), (fun _ => 0)) [1, 0, 2] rfl rfl rfl (Nat.le_of_ble_eq_true rfl) (Nat.le_of_ble_eq_true rfl) ⟨(iR_c (n := (-1)) (a := (-1)) (b := 1600) (by decide +kernel) (by decide +kernel)), (iR_w f_13_4 (by decide +kernel)), hf0⟩
set_option maxHeartbeats 8000000 in
set_option maxRecDepth 100000 in
theorem s_X7_worthOf_v0 (l : Launch) (dC : Nat → ClassId) (dI : Nat → Nat → Nat) (cI cJ cZ cM : ClassId) (h : Nat) (r : Nat → Nat) (i : Nat → Int32) (j : Nat → Int64) (x1 : Int32) (f14 : Nat → Int32) (f15 : Nat → Int32) (hI : mR i) (hf14 : aR f14 0 10) : k_Mi l yX7_worthOf wsX7_worthOf ({ frames := 2, cells := 0, slots := 0, locals := 61 }) (dC, dI) vwCl (tyy cI cJ cZ cM) [(h, .inr (7, oM r i j)), ((r 14), .inl (cI, 2, .inl f14)), ((r 15), .inl (cI, 20, .inl f15))] [.ref h, .int x1] 0 0 (fun (u9 : Unit) => [(h, .inr (7, oM r i j)), ((r 14), .inl (cI, 2, .inl f14)), ((r 15), .inl (cI, 20, .inl f15))]) (fun (r9 : Int32) (u9 : Unit) => True) := by
  refine fun sz => k_enter (cc := cX7_worthOf) (maxL := 4) (ret := some (.int)) (Qc := fun A => va_Qi (fun (r9 : Int32) (u9 : Unit) => True) (fun u => k_B (dC, dI) vwCl (tyy cI cJ cZ cM) A ((fun (u9 : Unit) => [(h, .inr (7, oM r i j)), ((r 14), .inl (cI, 2, .inl f14)), ((r 15), .inl (cI, 20, .inl f15))]) u)) A) sz (by decide +kernel) rfl (Nat.le_of_ble_eq_true rfl) (fun p e s m args below meth c A ls H locs B hP hD hS hl => ?_)
  obtain ⟨hx, hb, hml, hown, hts, hr, hlk, hnm, hK, hA, hN, hC⟩ := id B
  have hown : s.vm.findClass RX7 = some m.cls := hown
  have hl : lv_has ls 4 [(0, .ref h), (1, .int x1)] := hl
  have w_0 : (Cond.fieldLink RX7 54 "WishSeaModel" "things" "[I").before args s = true := hts _ (List.mem_of_getElem? (i := 1) rfl)
  have w_1 : (Cond.fieldLink RX7 51 "WishSeaModel" "bank" "I").before args s = true := hts _ (List.mem_of_getElem? (i := 2) rfl)
  have w_2 : (Cond.fieldLink RX7 57 "WishSeaModel" "thingWorth" "[I").before args s = true := hts _ (List.mem_of_getElem? (i := 3) rfl)
  have hinX7 : ∀ w ∈ u_ws RX7 TX7 92, w ∈ wsX7_worthOf := fun _ h => List.mem_cons_of_mem _ (List.mem_append_right _ h)
  refine lv_iconst (v := 0) hx hb dX7_worthOf_0 (by decide +kernel) ?_
  refine lv_istore_n (lv' := [(2, .int 0), (0, .ref h), (1, .int x1)]) hx hb dX7_worthOf_1 rfl hl (by decide) rfl (fun ls hl => ?_)
  refine lv_iconst (v := 0) hx hb dX7_worthOf_2 (by decide +kernel) ?_
  have J_4 : ∀ (n_4 : Nat) (j4_L2 : Int32) (j4_L3 : Int32) (hj4_L3 : iR j4_L3 0 10) (hm_4 : (10 - j4_L3.toInt).toNat < n_4) (H : Heap) (locs : List Loc) (ls : Array Slot), va_P (dC, dI) vwCl [(h, .inr (7, oM r i j)), ((r 14), .inl (cI, 2, .inl f14)), ((r 15), .inl (cI, 20, .inl f15))] H → va_D A [(h, .inr (7, oM r i j)), ((r 14), .inl (cI, 2, .inl f14)), ((r 15), .inl (cI, 20, .inl f15))] → va_S A s.heap H locs → lv_has ls 4 [(0, .ref h), (1, .int x1), (2, .int j4_L2), (3, .int j4_L3)] → W p l e ({ frames := 2, cells := 0, slots := 0, locals := 61 }) s m args below meth c H locs 0 0 (MQ below (va_Qi (fun (r9 : Int32) (u9 : Unit) => True) (fun u => k_B (dC, dI) vwCl (tyy cI cJ cZ cM) A ((fun (u9 : Unit) => [(h, .inr (7, oM r i j)), ((r 14), .inl (cI, 2, .inl f14)), ((r 15), .inl (cI, 20, .inl f15))]) u)) A) args s 0 0 A) (F0 m 4 ls []) := by
    intro n_4
    induction n_4 with
    | zero => intro j4_L2 j4_L3 hj4_L3 hm_4; exact absurd hm_4 (Nat.not_lt_zero _)
    | succ n_4 ih_4 =>
      intro j4_L2 j4_L3 hj4_L3 hm_4 H locs ls hP hD hS hl
      refine lv_iload_n hx hb dX7_worthOf_4 rfl (lv_at hl 3 rfl) ?_
      refine lv_aload_n hx hb dX7_worthOf_5 rfl (lv_at hl 0 rfl) ?_
      refine k_get (D := (dC, dI)) (ci := 7) (v := .ref (r 14)) (C := RX7) (T := TX7) (N := 92) hx hb hts hinX7 hown hK hP 0 rfl rfl 14 (by decide) w_0 rfl rfl dX7_worthOf_6 ?_
      refine lv_aload_n hx hb dX7_worthOf_9 rfl (lv_at hl 0 rfl) ?_
      have f_10_1 : iR (i 13) 0 1 := hI 13
      refine k_get (D := (dC, dI)) (ci := 7) (v := .int (i 13)) (C := RX7) (T := TX7) (N := 92) hx hb hts hinX7 hown hK hP 0 rfl rfl 13 (by decide) w_1 rfl rfl dX7_worthOf_10 ?_
      refine va_iald hx hb hK hP 1 0 rfl rfl (iR_vp f_10_1 (by decide +kernel)) dX7_worthOf_13 ?_
      have f_13_2 : iR (f14 (i 13).toNatClampNeg) 0 10 := hf14 _
      refine lv_icmp_ge (tgt := 52) hx hb dX7_worthOf_14 (by decide) (fun c_14 => ?_) (fun c_14 => ?_)
      · have c_14 : (f14 (i 13).toNatClampNeg) ≤ j4_L3 := c_14
        refine lv_iload_n hx hb dX7_worthOf_52 rfl (lv_at hl 2 rfl) ?_
        exact k_ri B hP hD hS dX7_worthOf_53 () [0, 1, 2] rfl rfl rfl (Nat.le_of_ble_eq_true rfl) (Nat.le_of_ble_eq_true rfl) trivial
      · have c_14 : j4_L3 < (f14 (i 13).toNatClampNeg) := i_nle c_14
        have f_17_3 : iR j4_L3 0 9 := iR_ltL c_14 hj4_L3 f_13_2 (by decide +kernel)
        have f_17_4 : iR (f14 (i 13).toNatClampNeg) 1 10 := iR_ltR c_14 hj4_L3 f_13_2 (by decide +kernel)
        refine lv_iload_n hx hb dX7_worthOf_17 rfl (lv_at hl 2 rfl) ?_
        refine lv_iload_n hx hb dX7_worthOf_18 rfl (lv_at hl 1 rfl) ?_
        refine lv_iload_n hx hb dX7_worthOf_19 rfl (lv_at hl 3 rfl) ?_
        refine k_ci (wc := []) (wr := [(h, .inr (7, oM r i j)), ((r 14), .inl (cI, 2, .inl f14)), ((r 15), .inl (cI, 20, .inl f15))]) (fun hPc hDc hFc => va_runS (As := [.int x1, .int j4_L3]) (rest := [.int j4_L2]) ⟨hx, hb, hml, hown, hts⟩ (s_X7_holds_v0 l dC dI cI cJ cZ cM x1 j4_L3 H.size) (va_cwS 2 hts gX7_worthOf_X7_holds rfl rfl rfl (by decide +kernel) ⟨(Nat.le_of_ble_eq_true rfl), (Nat.le_of_ble_eq_true rfl)⟩) (k_pS hPc hDc hK hN hC hS hFc) rfl rfl hl.1 rfl (lv_room (Nat.le_of_ble_eq_true rfl)) dX7_worthOf_20 ⟨(Nat.le_of_ble_eq_true rfl), (Nat.le_of_ble_eq_true rfl)⟩) hP hD hS hA [] [0, 1, 2] rfl rfl rfl rfl (by decide) (fun _ => rfl) 0 0 rfl rfl (fun r_20 u_20 H locs hw hP hD hS => ?_)
        obtain g_20_0 := hw
        have hP : va_P (dC, dI) vwCl [(h, .inr (7, oM r i j)), ((r 14), .inl (cI, 2, .inl f14)), ((r 15), .inl (cI, 20, .inl f15))] H := hP
        have hD : va_D A [(h, .inr (7, oM r i j)), ((r 14), .inl (cI, 2, .inl f14)), ((r 15), .inl (cI, 20, .inl f15))] := hD
        have J_44 : ∀ (j44_S0 : Int32)  (H : Heap) (locs : List Loc) (ls : Array Slot), va_P (dC, dI) vwCl [(h, .inr (7, oM r i j)), ((r 14), .inl (cI, 2, .inl f14)), ((r 15), .inl (cI, 20, .inl f15))] H → va_D A [(h, .inr (7, oM r i j)), ((r 14), .inl (cI, 2, .inl f14)), ((r 15), .inl (cI, 20, .inl f15))] → va_S A s.heap H locs → lv_has ls 4 [(0, .ref h), (1, .int x1), (3, .int j4_L3)] → W p l e ({ frames := 2, cells := 0, slots := 0, locals := 61 }) s m args below meth c H locs 0 0 (MQ below (va_Qi (fun (r9 : Int32) (u9 : Unit) => True) (fun u => k_B (dC, dI) vwCl (tyy cI cJ cZ cM) A ((fun (u9 : Unit) => [(h, .inr (7, oM r i j)), ((r 14), .inl (cI, 2, .inl f14)), ((r 15), .inl (cI, 20, .inl f15))]) u)) A) args s 0 0 A) (F0 m 44 ls [.int j44_S0, .int j4_L2]) := by
          intro j44_S0  H locs ls hP hD hS hl
          refine lv_iadd hx hb dX7_worthOf_44 ?_
          refine lv_topi (fun y_44 ey_44 => ?_)
          refine lv_istore_n (lv' := [(2, .int y_44), (0, .ref h), (1, .int x1), (3, .int j4_L3)]) hx hb dX7_worthOf_45 rfl hl (by decide) rfl (fun ls hl => ?_)
          obtain ⟨y_46, ey_46⟩ : ∃ y : Int32, y = j4_L3 + 1 := ⟨_, rfl⟩
          refine lv_iinc (v := y_46) (lv' := [(3, .int y_46), (2, .int y_44), (0, .ref h), (1, .int x1)]) hx hb dX7_worthOf_46 hl (k := 3) rfl ey_46.symm (by decide) rfl (fun ls hl => ?_)
          have f_46_1 : iR y_46 1 10 := iR_add ey_46 f_17_3 (iR_c (n := 1) (a := 1) (b := 1) (by decide +kernel) (by decide +kernel)) (by decide +kernel)
          refine lv_goto (tgt := 4) hx hb dX7_worthOf_49 (by decide) ?_
          exact ih_4 y_44 y_46 (iR_w f_46_1 (by decide +kernel)) (m_up (B := 10) hm_4 ey_46 f_17_3 (by decide +kernel)) H locs ls hP hD hS (lv_sub hl [2, 3, 1, 0] rfl)
        refine lv_if_eq (tgt := 43) hx hb dX7_worthOf_23 (by decide) (fun c_23 => ?_) (fun c_23 => ?_)
        · have c_23 : r_20 = 0 := c_23
          have f_43_5 : iR r_20 0 0 := iR_eqL c_23 g_20_0 (iR_c (n := 0) (a := 0) (b := 0) (by decide +kernel) (by decide +kernel)) (by decide +kernel)
          refine lv_iconst (v := 0) hx hb dX7_worthOf_43 (by decide +kernel) ?_
          exact J_44 0  H locs ls hP hD hS (lv_sub hl [0, 1, 3] rfl)
        · have c_23 : ¬ r_20 = 0 := c_23
          have f_26_5 : iR r_20 1 1 := iR_neL c_23 g_20_0 (iR_c (n := 0) (a := 0) (b := 0) (by decide +kernel) (by decide +kernel)) (by decide +kernel)
          refine lv_aload_n hx hb dX7_worthOf_26 rfl (lv_at hl 0 rfl) ?_
          refine k_get (D := (dC, dI)) (ci := 7) (v := .ref (r 15)) (C := RX7) (T := TX7) (N := 92) hx hb hts hinX7 hown hK hP 0 rfl rfl 15 (by decide) w_2 rfl rfl dX7_worthOf_27 ?_
          refine lv_bipush (v := 10) hx hb dX7_worthOf_30 (by decide +kernel) ?_
          refine lv_aload_n hx hb dX7_worthOf_32 rfl (lv_at hl 0 rfl) ?_
          refine k_get (D := (dC, dI)) (ci := 7) (v := .int (i 13)) (C := RX7) (T := TX7) (N := 92) hx hb hts hinX7 hown hK hP 0 rfl rfl 13 (by decide) w_1 rfl rfl dX7_worthOf_33 ?_
          refine lv_imul hx hb dX7_worthOf_36 ?_
          refine lv_topi (fun y_36 ey_36 => ?_)
          have f_36_6 : iR y_36 0 10 := iR_mul ey_36 (iR_c (n := 10) (a := 10) (b := 10) (by decide +kernel) (by decide +kernel)) f_10_1 (by decide +kernel)
          refine lv_iload_n hx hb dX7_worthOf_37 rfl (lv_at hl 3 rfl) ?_
          refine lv_iadd hx hb dX7_worthOf_38 ?_
          refine lv_topi (fun y_38 ey_38 => ?_)
          have f_38_7 : iR y_38 0 19 := iR_add ey_38 f_36_6 f_17_3 (by decide +kernel)
          refine va_iald hx hb hK hP 2 0 rfl rfl (iR_vp f_38_7 (by decide +kernel)) dX7_worthOf_39 ?_
          refine lv_goto (tgt := 44) hx hb dX7_worthOf_40 (by decide) ?_
          exact J_44 (f15 y_38.toNatClampNeg)  H locs ls hP hD hS (lv_sub hl [0, 1, 3] rfl)
  refine lv_istore_n (lv' := [(3, .int 0), (2, .int 0), (0, .ref h), (1, .int x1)]) hx hb dX7_worthOf_3 rfl hl (by decide) rfl (fun ls hl => ?_)
  exact J_4 _ 0 0 (iR_c (n := 0) (a := 0) (b := 10) (by decide +kernel) (by decide +kernel)) (Nat.lt_succ_self _) H locs ls hP hD hS (lv_sub hl [2, 3, 1, 0] rfl)
set_option maxHeartbeats 8000000 in
set_option maxRecDepth 100000 in
theorem s_X7_wayTo_v0 (l : Launch) (dC : Nat → ClassId) (dI : Nat → Nat → Nat) (cI cJ cZ cM : ClassId) (h : Nat) (r : Nat → Nat) (i : Nat → Int32) (j : Nat → Int64) (x1 : Int32) (f73 : Nat → Int32) (f74 : Nat → Int32) (hx1 : iR x1 0 7) (hI : mR i) (hf73 : aR f73 0 1023) (hf74 : aR f74 0 11) : k_Mi l yX7_wayTo wsX7_wayTo ({ frames := 1, cells := 0, slots := 0, locals := 40 }) (dC, dI) vwCl (tyy cI cJ cZ cM) [(h, .inr (7, oM r i j)), ((r 73), .inl (cI, 9216, .inl f73)), ((r 74), .inl (cI, 9216, .inl f74))] [.ref h, .int x1] 0 0 (fun (u9 : Unit) => [(h, .inr (7, oM r i j)), ((r 73), .inl (cI, 9216, .inl f73)), ((r 74), .inl (cI, 9216, .inl f74))]) (fun (r9 : Int32) (u9 : Unit) => (iR r9 0 11)) := by
  refine fun sz => k_enter (cc := cX7_wayTo) (maxL := 4) (ret := some (.int)) (Qc := fun A => va_Qi (fun (r9 : Int32) (u9 : Unit) => (iR r9 0 11)) (fun u => k_B (dC, dI) vwCl (tyy cI cJ cZ cM) A ((fun (u9 : Unit) => [(h, .inr (7, oM r i j)), ((r 73), .inl (cI, 9216, .inl f73)), ((r 74), .inl (cI, 9216, .inl f74))]) u)) A) sz (by decide +kernel) rfl (Nat.le_of_ble_eq_true rfl) (fun p e s m args below meth c A ls H locs B hP hD hS hl => ?_)
  obtain ⟨hx, hb, hml, hown, hts, hr, hlk, hnm, hK, hA, hN, hC⟩ := id B
  have hown : s.vm.findClass RX7 = some m.cls := hown
  have hl : lv_has ls 4 [(0, .ref h), (1, .int x1)] := hl
  have w_0 : (Cond.fieldLink RX7 243 "WishSeaModel" "foundSet" "I").before args s = true := hts _ (List.mem_of_getElem? (i := 1) rfl)
  have w_1 : (Cond.fieldLink RX7 240 "WishSeaModel" "foundRung" "I").before args s = true := hts _ (List.mem_of_getElem? (i := 2) rfl)
  have w_2 : (Cond.fieldLink RX7 237 "WishSeaModel" "rungBy" "[I").before args s = true := hts _ (List.mem_of_getElem? (i := 4) rfl)
  have w_3 : (Cond.fieldLink RX7 234 "WishSeaModel" "rungFrom" "[I").before args s = true := hts _ (List.mem_of_getElem? (i := 3) rfl)
  have hinX7 : ∀ w ∈ u_ws RX7 TX7 92, w ∈ wsX7_wayTo := fun _ h => List.mem_cons_of_mem _ (List.mem_append_right _ h)
  refine lv_aload_n hx hb dX7_wayTo_0 rfl (lv_at hl 0 rfl) ?_
  have f_1_1 : iR (i 76) 0 1023 := hI 76
  refine k_get (D := (dC, dI)) (ci := 7) (v := .int (i 76)) (C := RX7) (T := TX7) (N := 92) hx hb hts hinX7 hown hK hP 0 rfl rfl 76 (by decide) w_0 rfl rfl dX7_wayTo_1 ?_
  refine lv_istore_n (lv' := [(2, .int (i 76)), (0, .ref h), (1, .int x1)]) hx hb dX7_wayTo_4 rfl hl (by decide) rfl (fun ls hl => ?_)
  refine lv_aload_n hx hb dX7_wayTo_5 rfl (lv_at hl 1 rfl) ?_
  have f_6_2 : iR (i 75) (-1) 8 := hI 75
  refine k_get (D := (dC, dI)) (ci := 7) (v := .int (i 75)) (C := RX7) (T := TX7) (N := 92) hx hb hts hinX7 hown hK hP 0 rfl rfl 75 (by decide) w_1 rfl rfl dX7_wayTo_6 ?_
  have J_10 : ∀ (n_10 : Nat) (j10_L2 : Int32) (j10_L3 : Int32) (hj10_L2 : iR j10_L2 0 1023) (hj10_L3 : iR j10_L3 (-1) 8) (hm_10 : (j10_L3.toInt - (-1)).toNat < n_10) (H : Heap) (locs : List Loc) (ls : Array Slot), va_P (dC, dI) vwCl [(h, .inr (7, oM r i j)), ((r 73), .inl (cI, 9216, .inl f73)), ((r 74), .inl (cI, 9216, .inl f74))] H → va_D A [(h, .inr (7, oM r i j)), ((r 73), .inl (cI, 9216, .inl f73)), ((r 74), .inl (cI, 9216, .inl f74))] → va_S A s.heap H locs → lv_has ls 4 [(0, .ref h), (1, .int x1), (2, .int j10_L2), (3, .int j10_L3)] → W p l e ({ frames := 1, cells := 0, slots := 0, locals := 40 }) s m args below meth c H locs 0 0 (MQ below (va_Qi (fun (r9 : Int32) (u9 : Unit) => (iR r9 0 11)) (fun u => k_B (dC, dI) vwCl (tyy cI cJ cZ cM) A ((fun (u9 : Unit) => [(h, .inr (7, oM r i j)), ((r 73), .inl (cI, 9216, .inl f73)), ((r 74), .inl (cI, 9216, .inl f74))]) u)) A) args s 0 0 A) (F0 m 10 ls []) := by
    intro n_10
    induction n_10 with
    | zero => intro j10_L2 j10_L3 hj10_L2 hj10_L3 hm_10; exact absurd hm_10 (Nat.not_lt_zero _)
    | succ n_10 ih_10 =>
      intro j10_L2 j10_L3 hj10_L2 hj10_L3 hm_10 H locs ls hP hD hS hl
      refine lv_iload_n hx hb dX7_wayTo_10 rfl (lv_at hl 3 rfl) ?_
      refine lv_iload_n hx hb dX7_wayTo_11 rfl (lv_at hl 1 rfl) ?_
      refine lv_iconst (v := 1) hx hb dX7_wayTo_12 (by decide +kernel) ?_
      refine lv_iadd hx hb dX7_wayTo_13 ?_
      refine lv_topi (fun y_13 ey_13 => ?_)
      have f_13_1 : iR y_13 1 8 := iR_add ey_13 hx1 (iR_c (n := 1) (a := 1) (b := 1) (by decide +kernel) (by decide +kernel)) (by decide +kernel)
      refine lv_icmp_le (tgt := 36) hx hb dX7_wayTo_14 (by decide) (fun c_14 => ?_) (fun c_14 => ?_)
      · have c_14 : j10_L3 ≤ y_13 := c_14
        refine lv_aload_n hx hb dX7_wayTo_36 rfl (lv_at hl 0 rfl) ?_
        refine k_get (D := (dC, dI)) (ci := 7) (v := .ref (r 74)) (C := RX7) (T := TX7) (N := 92) hx hb hts hinX7 hown hK hP 0 rfl rfl 74 (by decide) w_2 rfl rfl dX7_wayTo_37 ?_
        refine lv_sipush (v := 1024) hx hb dX7_wayTo_40 (by decide +kernel) ?_
        refine lv_iload_n hx hb dX7_wayTo_43 rfl (lv_at hl 1 rfl) ?_
        refine lv_iconst (v := 1) hx hb dX7_wayTo_44 (by decide +kernel) ?_
        refine lv_iadd hx hb dX7_wayTo_45 ?_
        refine lv_topi (fun y_45 ey_45 => ?_)
        have f_45_2 : iR y_45 1 8 := iR_add ey_45 hx1 (iR_c (n := 1) (a := 1) (b := 1) (by decide +kernel) (by decide +kernel)) (by decide +kernel)
        refine lv_imul hx hb dX7_wayTo_46 ?_
        refine lv_topi (fun y_46 ey_46 => ?_)
        have f_46_3 : iR y_46 1024 8192 := iR_mul ey_46 (iR_c (n := 1024) (a := 1024) (b := 1024) (by decide +kernel) (by decide +kernel)) f_45_2 (by decide +kernel)
        refine lv_iload_n hx hb dX7_wayTo_47 rfl (lv_at hl 2 rfl) ?_
        refine lv_iadd hx hb dX7_wayTo_48 ?_
        refine lv_topi (fun y_48 ey_48 => ?_)
        have f_48_4 : iR y_48 1024 9215 := iR_add ey_48 f_46_3 hj10_L2 (by decide +kernel)
        refine va_iald hx hb hK hP 2 0 rfl rfl (iR_vp f_48_4 (by decide +kernel)) dX7_wayTo_49 ?_
        have f_49_5 : iR (f74 y_48.toNatClampNeg) 0 11 := hf74 _
        exact k_ri B hP hD hS dX7_wayTo_50 () [0, 1, 2] rfl rfl rfl (Nat.le_of_ble_eq_true rfl) (Nat.le_of_ble_eq_true rfl) f_49_5
      · have c_14 : y_13 < j10_L3 := i_nle c_14
        have f_17_2 : iR y_13 1 7 := iR_ltL c_14 f_13_1 hj10_L3 (by decide +kernel)
        have f_17_3 : iR x1 0 6 := iR_addB ey_13 hx1 (iR_c (n := 1) (a := 1) (b := 1) (by decide +kernel) (by decide +kernel)) f_17_2 (by decide +kernel)
        have f_17_4 : iR j10_L3 2 8 := iR_ltR c_14 f_13_1 hj10_L3 (by decide +kernel)
        refine lv_aload_n hx hb dX7_wayTo_17 rfl (lv_at hl 0 rfl) ?_
        refine k_get (D := (dC, dI)) (ci := 7) (v := .ref (r 73)) (C := RX7) (T := TX7) (N := 92) hx hb hts hinX7 hown hK hP 0 rfl rfl 73 (by decide) w_3 rfl rfl dX7_wayTo_18 ?_
        refine lv_sipush (v := 1024) hx hb dX7_wayTo_21 (by decide +kernel) ?_
        refine lv_iload_n hx hb dX7_wayTo_24 rfl (lv_at hl 3 rfl) ?_
        refine lv_imul hx hb dX7_wayTo_25 ?_
        refine lv_topi (fun y_25 ey_25 => ?_)
        have f_25_5 : iR y_25 2048 8192 := iR_mul ey_25 (iR_c (n := 1024) (a := 1024) (b := 1024) (by decide +kernel) (by decide +kernel)) f_17_4 (by decide +kernel)
        refine lv_iload_n hx hb dX7_wayTo_26 rfl (lv_at hl 2 rfl) ?_
        refine lv_iadd hx hb dX7_wayTo_27 ?_
        refine lv_topi (fun y_27 ey_27 => ?_)
        have f_27_6 : iR y_27 2048 9215 := iR_add ey_27 f_25_5 hj10_L2 (by decide +kernel)
        refine va_iald hx hb hK hP 1 0 rfl rfl (iR_vp f_27_6 (by decide +kernel)) dX7_wayTo_28 ?_
        have f_28_7 : iR (f73 y_27.toNatClampNeg) 0 1023 := hf73 _
        refine lv_istore_n (lv' := [(2, .int (f73 y_27.toNatClampNeg)), (0, .ref h), (1, .int x1), (3, .int j10_L3)]) hx hb dX7_wayTo_29 rfl hl (by decide) rfl (fun ls hl => ?_)
        obtain ⟨y_30, ey_30⟩ : ∃ y : Int32, y = j10_L3 + (-1) := ⟨_, rfl⟩
        refine lv_iinc (v := y_30) (lv' := [(3, .int y_30), (2, .int (f73 y_27.toNatClampNeg)), (0, .ref h), (1, .int x1)]) hx hb dX7_wayTo_30 hl (k := 3) rfl ey_30.symm (by decide) rfl (fun ls hl => ?_)
        have f_30_8 : iR y_30 1 7 := iR_add ey_30 f_17_4 (iR_c (n := (-1)) (a := (-1)) (b := (-1)) (by decide +kernel) (by decide +kernel)) (by decide +kernel)
        refine lv_goto (tgt := 10) hx hb dX7_wayTo_33 (by decide) ?_
        exact ih_10 (f73 y_27.toNatClampNeg) y_30 f_28_7 (iR_w f_30_8 (by decide +kernel)) (m_dn (B := (-1)) hm_10 ey_30 f_17_4 (by decide +kernel)) H locs ls hP hD hS (lv_sub hl [2, 3, 1, 0] rfl)
  refine lv_istore_n (lv' := [(3, .int (i 75)), (2, .int (i 76)), (0, .ref h), (1, .int x1)]) hx hb dX7_wayTo_9 rfl hl (by decide) rfl (fun ls hl => ?_)
  exact J_10 _ (i 76) (i 75) f_1_1 f_6_2 (Nat.lt_succ_self _) H locs ls hP hD hS (lv_sub hl [2, 3, 1, 0] rfl)
set_option maxHeartbeats 8000000 in
set_option maxRecDepth 100000 in
theorem s_X7_remembers_v0 (l : Launch) (dC : Nat → ClassId) (dI : Nat → Nat → Nat) (cI cJ cZ cM : ClassId) (h : Nat) (r : Nat → Nat) (i : Nat → Int32) (j : Nat → Int64) (x1 : Int32) (f49 : Nat → Int32) (f50 : Nat → Int32) (f52 : Nat → Int32) (hI : mR i) (hf49 : aR f49 0 1023) (hf50 : aR f50 0 999) : k_Mv l yX7_remembers wsX7_remembers ({ frames := 1, cells := 0, slots := 0, locals := 40 }) (dC, dI) vwCl (tyy cI cJ cZ cM) [(h, .inr (7, oM r i j)), ((r 49), .inl (cI, 22, .inl f49)), ((r 50), .inl (cI, 22, .inl f50)), ((r 52), .inl (cI, 22, .inl f52))] [.ref h, .int x1] 0 0 (fun (u9 : SU) => [(h, .inr (7, oM r (upd (upd (upd (upd (upd i 67 x1) 68 (f49 1)) 69 (f50 1)) 70 (f52 1)) 71 (u9.1 0)) j)), ((r 49), .inl (cI, 22, .inl f49)), ((r 50), .inl (cI, 22, .inl f50)), ((r 52), .inl (cI, 22, .inl f52))]) (fun (u9 : SU) => (iR (u9.1 0) 0 2147483647)) := by
  refine fun sz => k_enter (cc := cX7_remembers) (maxL := 2) (ret := none) (Qc := fun A => va_Qv (fun (u9 : SU) => (iR (u9.1 0) 0 2147483647)) (fun u => k_B (dC, dI) vwCl (tyy cI cJ cZ cM) A ((fun (u9 : SU) => [(h, .inr (7, oM r (upd (upd (upd (upd (upd i 67 x1) 68 (f49 1)) 69 (f50 1)) 70 (f52 1)) 71 (u9.1 0)) j)), ((r 49), .inl (cI, 22, .inl f49)), ((r 50), .inl (cI, 22, .inl f50)), ((r 52), .inl (cI, 22, .inl f52))]) u)) A) sz (by decide +kernel) rfl (Nat.le_of_ble_eq_true rfl) (fun p e s m args below meth c A ls H locs B hP hD hS hl => ?_)
  obtain ⟨hx, hb, hml, hown, hts, hr, hlk, hnm, hK, hA, hN, hC⟩ := id B
  have hown : s.vm.findClass RX7 = some m.cls := hown
  have hl : lv_has ls 2 [(0, .ref h), (1, .int x1)] := hl
  have w_0 : (Cond.fieldLink RX7 216 "WishSeaModel" "wentEnd" "I").before args s = true := hts _ (List.mem_of_getElem? (i := 1) rfl)
  have w_1 : (Cond.fieldLink RX7 162 "WishSeaModel" "hadOf" "[I").before args s = true := hts _ (List.mem_of_getElem? (i := 2) rfl)
  have w_2 : (Cond.fieldLink RX7 219 "WishSeaModel" "wentHad" "I").before args s = true := hts _ (List.mem_of_getElem? (i := 3) rfl)
  have w_3 : (Cond.fieldLink RX7 165 "WishSeaModel" "seaOf" "[I").before args s = true := hts _ (List.mem_of_getElem? (i := 4) rfl)
  have w_4 : (Cond.fieldLink RX7 222 "WishSeaModel" "wentSea" "I").before args s = true := hts _ (List.mem_of_getElem? (i := 5) rfl)
  have w_5 : (Cond.fieldLink RX7 171 "WishSeaModel" "dayOf" "[I").before args s = true := hts _ (List.mem_of_getElem? (i := 6) rfl)
  have w_6 : (Cond.fieldLink RX7 225 "WishSeaModel" "wentDay" "I").before args s = true := hts _ (List.mem_of_getElem? (i := 7) rfl)
  have w_7 : (Cond.fieldLink RX7 228 "WishSeaModel" "wentMost" "I").before args s = true := hts _ (List.mem_of_getElem? (i := 8) rfl)
  have hinX7 : ∀ w ∈ u_ws RX7 TX7 92, w ∈ wsX7_remembers := fun _ h => List.mem_cons_of_mem _ (List.mem_append_right _ h)
  refine lv_aload_n hx hb dX7_remembers_0 rfl (lv_at hl 0 rfl) ?_
  refine lv_iload_n hx hb dX7_remembers_1 rfl (lv_at hl 1 rfl) ?_
  refine k_put (D := (dC, dI)) (ci := 7) (v := .int x1) (C := RX7) (T := TX7) (N := 92) (ws' := [(h, .inr (7, oM r (upd i 67 x1) j)), ((r 49), .inl (cI, 22, .inl f49)), ((r 50), .inl (cI, 22, .inl f50)), ((r 52), .inl (cI, 22, .inl f52))]) hx hb hts hinX7 tyX7 tyX7_ok nmX7 hown hK hP hD hS 0 rfl rfl 67 (by decide) w_0 rfl rfl rfl rfl (Nat.le_of_ble_eq_true rfl) rfl dX7_remembers_2 (fun H locs hP hD hS => ?_)
  refine lv_aload_n hx hb dX7_remembers_5 rfl (lv_at hl 0 rfl) ?_
  refine lv_aload_n hx hb dX7_remembers_6 rfl (lv_at hl 0 rfl) ?_
  refine k_get (D := (dC, dI)) (ci := 7) (v := .ref (r 49)) (C := RX7) (T := TX7) (N := 92) hx hb hts hinX7 hown hK hP 0 rfl rfl 49 (by decide) w_1 rfl rfl dX7_remembers_7 ?_
  refine lv_iconst (v := 1) hx hb dX7_remembers_10 (by decide +kernel) ?_
  refine k_iald (v := (f49 1)) hx hb hK hP 1 0 1 rfl rfl rfl (Nat.le_of_ble_eq_true rfl) (Nat.le_of_ble_eq_true rfl) rfl dX7_remembers_11 ?_
  have f_11_1 : iR (f49 1) 0 1023 := hf49 _
  refine k_put (D := (dC, dI)) (ci := 7) (v := .int (f49 1)) (C := RX7) (T := TX7) (N := 92) (ws' := [(h, .inr (7, oM r (upd (upd i 67 x1) 68 (f49 1)) j)), ((r 49), .inl (cI, 22, .inl f49)), ((r 50), .inl (cI, 22, .inl f50)), ((r 52), .inl (cI, 22, .inl f52))]) hx hb hts hinX7 tyX7 tyX7_ok nmX7 hown hK hP hD hS 0 rfl rfl 68 (by decide) w_2 rfl rfl rfl rfl (Nat.le_of_ble_eq_true rfl) rfl dX7_remembers_12 (fun H locs hP hD hS => ?_)
  refine lv_aload_n hx hb dX7_remembers_15 rfl (lv_at hl 0 rfl) ?_
  refine lv_aload_n hx hb dX7_remembers_16 rfl (lv_at hl 0 rfl) ?_
  refine k_get (D := (dC, dI)) (ci := 7) (v := .ref (r 50)) (C := RX7) (T := TX7) (N := 92) hx hb hts hinX7 hown hK hP 0 rfl rfl 50 (by decide) w_3 rfl rfl dX7_remembers_17 ?_
  refine lv_iconst (v := 1) hx hb dX7_remembers_20 (by decide +kernel) ?_
  refine k_iald (v := (f50 1)) hx hb hK hP 2 0 1 rfl rfl rfl (Nat.le_of_ble_eq_true rfl) (Nat.le_of_ble_eq_true rfl) rfl dX7_remembers_21 ?_
  have f_21_2 : iR (f50 1) 0 999 := hf50 _
  refine k_put (D := (dC, dI)) (ci := 7) (v := .int (f50 1)) (C := RX7) (T := TX7) (N := 92) (ws' := [(h, .inr (7, oM r (upd (upd (upd i 67 x1) 68 (f49 1)) 69 (f50 1)) j)), ((r 49), .inl (cI, 22, .inl f49)), ((r 50), .inl (cI, 22, .inl f50)), ((r 52), .inl (cI, 22, .inl f52))]) hx hb hts hinX7 tyX7 tyX7_ok nmX7 hown hK hP hD hS 0 rfl rfl 69 (by decide) w_4 rfl rfl rfl rfl (Nat.le_of_ble_eq_true rfl) rfl dX7_remembers_22 (fun H locs hP hD hS => ?_)
  refine lv_aload_n hx hb dX7_remembers_25 rfl (lv_at hl 0 rfl) ?_
  refine lv_aload_n hx hb dX7_remembers_26 rfl (lv_at hl 0 rfl) ?_
  refine k_get (D := (dC, dI)) (ci := 7) (v := .ref (r 52)) (C := RX7) (T := TX7) (N := 92) hx hb hts hinX7 hown hK hP 0 rfl rfl 52 (by decide) w_5 rfl rfl dX7_remembers_27 ?_
  refine lv_iconst (v := 1) hx hb dX7_remembers_30 (by decide +kernel) ?_
  refine k_iald (v := (f52 1)) hx hb hK hP 3 0 1 rfl rfl rfl (Nat.le_of_ble_eq_true rfl) (Nat.le_of_ble_eq_true rfl) rfl dX7_remembers_31 ?_
  refine k_put (D := (dC, dI)) (ci := 7) (v := .int (f52 1)) (C := RX7) (T := TX7) (N := 92) (ws' := [(h, .inr (7, oM r (upd (upd (upd (upd i 67 x1) 68 (f49 1)) 69 (f50 1)) 70 (f52 1)) j)), ((r 49), .inl (cI, 22, .inl f49)), ((r 50), .inl (cI, 22, .inl f50)), ((r 52), .inl (cI, 22, .inl f52))]) hx hb hts hinX7 tyX7 tyX7_ok nmX7 hown hK hP hD hS 0 rfl rfl 70 (by decide) w_6 rfl rfl rfl rfl (Nat.le_of_ble_eq_true rfl) rfl dX7_remembers_32 (fun H locs hP hD hS => ?_)
  refine lv_aload_n hx hb dX7_remembers_35 rfl (lv_at hl 0 rfl) ?_
  refine lv_aload_n hx hb dX7_remembers_36 rfl (lv_at hl 0 rfl) ?_
  refine k_get (D := (dC, dI)) (ci := 7) (v := .int (f50 1)) (C := RX7) (T := TX7) (N := 92) hx hb hts hinX7 hown hK hP 0 rfl rfl 69 (by decide) w_4 rfl rfl dX7_remembers_37 ?_
  refine lv_aload_n hx hb dX7_remembers_40 rfl (lv_at hl 0 rfl) ?_
  refine k_get (D := (dC, dI)) (ci := 7) (v := .int (i 71)) (C := RX7) (T := TX7) (N := 92) hx hb hts hinX7 hown hK hP 0 rfl rfl 71 (by decide) w_7 rfl rfl dX7_remembers_41 ?_
  have J_58 : ∀ (j58_S0 : Int32) (hj58_S0 : iR j58_S0 0 2147483647) (H : Heap) (locs : List Loc) (ls : Array Slot), va_P (dC, dI) vwCl [(h, .inr (7, oM r (upd (upd (upd (upd i 67 x1) 68 (f49 1)) 69 (f50 1)) 70 (f52 1)) j)), ((r 49), .inl (cI, 22, .inl f49)), ((r 50), .inl (cI, 22, .inl f50)), ((r 52), .inl (cI, 22, .inl f52))] H → va_D A [(h, .inr (7, oM r (upd (upd (upd (upd i 67 x1) 68 (f49 1)) 69 (f50 1)) 70 (f52 1)) j)), ((r 49), .inl (cI, 22, .inl f49)), ((r 50), .inl (cI, 22, .inl f50)), ((r 52), .inl (cI, 22, .inl f52))] → va_S A s.heap H locs → lv_has ls 2 [] → W p l e ({ frames := 1, cells := 0, slots := 0, locals := 40 }) s m args below meth c H locs 0 0 (MQ below (va_Qv (fun (u9 : SU) => (iR (u9.1 0) 0 2147483647)) (fun u => k_B (dC, dI) vwCl (tyy cI cJ cZ cM) A ((fun (u9 : SU) => [(h, .inr (7, oM r (upd (upd (upd (upd (upd i 67 x1) 68 (f49 1)) 69 (f50 1)) 70 (f52 1)) 71 (u9.1 0)) j)), ((r 49), .inl (cI, 22, .inl f49)), ((r 50), .inl (cI, 22, .inl f50)), ((r 52), .inl (cI, 22, .inl f52))]) u)) A) args s 0 0 A) (F0 m 58 ls [.int j58_S0, .ref h]) := by
    intro j58_S0 hj58_S0 H locs ls hP hD hS hl
    refine k_put (D := (dC, dI)) (ci := 7) (v := .int j58_S0) (C := RX7) (T := TX7) (N := 92) (ws' := [(h, .inr (7, oM r (upd (upd (upd (upd (upd i 67 x1) 68 (f49 1)) 69 (f50 1)) 70 (f52 1)) 71 j58_S0) j)), ((r 49), .inl (cI, 22, .inl f49)), ((r 50), .inl (cI, 22, .inl f50)), ((r 52), .inl (cI, 22, .inl f52))]) hx hb hts hinX7 tyX7 tyX7_ok nmX7 hown hK hP hD hS 0 rfl rfl 71 (by decide) w_7 rfl rfl rfl rfl (Nat.le_of_ble_eq_true rfl) rfl dX7_remembers_58 (fun H locs hP hD hS => ?_)
    exact k_rv B hP hD hS dX7_remembers_61 ((fun k9 => match k9 with | 0 => j58_S0 | _ => 0), (fun _ => 0), (fun _ => (fun _ => 0)), (fun _ => (fun _ => 0)), (fun _ => 0)) [0, 1, 2, 3] rfl rfl (Nat.le_of_ble_eq_true rfl) (Nat.le_of_ble_eq_true rfl) hj58_S0
  refine lv_icmp_le (tgt := 54) hx hb dX7_remembers_44 (by decide) (fun c_44 => ?_) (fun c_44 => ?_)
  · have c_44 : (f50 1) ≤ (i 71) := c_44
    have f_54_3 : iR (i 71) 0 2147483647 := iR_leR c_44 f_21_2 (iR_top _) (by decide +kernel)
    refine lv_aload_n hx hb dX7_remembers_54 rfl (lv_at hl 0 rfl) ?_
    refine k_get (D := (dC, dI)) (ci := 7) (v := .int (i 71)) (C := RX7) (T := TX7) (N := 92) hx hb hts hinX7 hown hK hP 0 rfl rfl 71 (by decide) w_7 rfl rfl dX7_remembers_55 ?_
    exact J_58 (i 71) f_54_3 H locs ls hP hD hS (lv_sub hl [] rfl)
  · have c_44 : (i 71) < (f50 1) := i_nle c_44
    have f_47_3 : iR (i 71) (-2147483648) 998 := iR_ltL c_44 (iR_top _) f_21_2 (by decide +kernel)
    refine lv_aload_n hx hb dX7_remembers_47 rfl (lv_at hl 0 rfl) ?_
    refine k_get (D := (dC, dI)) (ci := 7) (v := .int (f50 1)) (C := RX7) (T := TX7) (N := 92) hx hb hts hinX7 hown hK hP 0 rfl rfl 69 (by decide) w_4 rfl rfl dX7_remembers_48 ?_
    refine lv_goto (tgt := 58) hx hb dX7_remembers_51 (by decide) ?_
    exact J_58 (f50 1) (iR_w f_21_2 (by decide +kernel)) H locs ls hP hD hS (lv_sub hl [] rfl)
set_option maxHeartbeats 8000000 in
set_option maxRecDepth 100000 in
theorem s_X7_rank_v0 (l : Launch) (dC : Nat → ClassId) (dI : Nat → Nat → Nat) (cI cJ cZ cM : ClassId) (x0 : Int32)  : k_Mi l yX7_rank wsX7_rank ({ frames := 1, cells := 0, slots := 0, locals := 40 }) (dC, dI) vwCl (tyy cI cJ cZ cM) [] [.int x0] 0 0 (fun (u9 : Unit) => []) (fun (r9 : Int32) (u9 : Unit) => (iR r9 1 6)) := by
  refine fun sz => k_enter (cc := cX7_rank) (maxL := 1) (ret := some (.int)) (Qc := fun A => va_Qi (fun (r9 : Int32) (u9 : Unit) => (iR r9 1 6)) (fun u => k_B (dC, dI) vwCl (tyy cI cJ cZ cM) A ((fun (u9 : Unit) => []) u)) A) sz (by decide +kernel) rfl (Nat.le_of_ble_eq_true rfl) (fun p e s m args below meth c A ls H locs B hP hD hS hl => ?_)
  obtain ⟨hx, hb, hml, hown, hts, hr, hlk, hnm, hK, hA, hN, hC⟩ := id B
  have hown : s.vm.findClass RX7 = some m.cls := hown
  have hl : lv_has ls 1 [(0, .int x0)] := hl
  refine lv_iload_n hx hb dX7_rank_0 rfl (lv_at hl 0 rfl) ?_
  refine lv_bipush (v := 21) hx hb dX7_rank_1 (by decide +kernel) ?_
  refine lv_icmp_ne (tgt := 10) hx hb dX7_rank_3 (by decide) (fun c_3 => ?_) (fun c_3 => ?_)
  · have c_3 : ¬ x0 = 21 := c_3
    refine lv_iload_n hx hb dX7_rank_10 rfl (lv_at hl 0 rfl) ?_
    refine lv_bipush (v := 20) hx hb dX7_rank_11 (by decide +kernel) ?_
    refine lv_icmp_ne (tgt := 20) hx hb dX7_rank_13 (by decide) (fun c_13 => ?_) (fun c_13 => ?_)
    · have c_13 : ¬ x0 = 20 := c_13
      refine lv_iload_n hx hb dX7_rank_20 rfl (lv_at hl 0 rfl) ?_
      refine lv_bipush (v := 22) hx hb dX7_rank_21 (by decide +kernel) ?_
      refine lv_icmp_ne (tgt := 30) hx hb dX7_rank_23 (by decide) (fun c_23 => ?_) (fun c_23 => ?_)
      · have c_23 : ¬ x0 = 22 := c_23
        refine lv_iload_n hx hb dX7_rank_30 rfl (lv_at hl 0 rfl) ?_
        refine lv_bipush (v := 17) hx hb dX7_rank_31 (by decide +kernel) ?_
        have J_48 : ∀  (k48_0 : iR x0 17 19) (H : Heap) (locs : List Loc) (ls : Array Slot), va_P (dC, dI) vwCl [] H → va_D A [] → va_S A s.heap H locs → lv_has ls 1 [] → W p l e ({ frames := 1, cells := 0, slots := 0, locals := 40 }) s m args below meth c H locs 0 0 (MQ below (va_Qi (fun (r9 : Int32) (u9 : Unit) => (iR r9 1 6)) (fun u => k_B (dC, dI) vwCl (tyy cI cJ cZ cM) A ((fun (u9 : Unit) => []) u)) A) args s 0 0 A) (F0 m 48 ls []) := by
          intro  k48_0 H locs ls hP hD hS hl
          refine lv_iconst (v := 4) hx hb dX7_rank_48 (by decide +kernel) ?_
          refine lv_goto (tgt := 70) hx hb dX7_rank_49 (by decide) ?_
          exact k_ri B hP hD hS dX7_rank_70 () [] rfl rfl rfl (Nat.le_of_ble_eq_true rfl) (Nat.le_of_ble_eq_true rfl) (iR_c (n := 4) (a := 1) (b := 6) (by decide +kernel) (by decide +kernel))
        refine lv_icmp_eq (tgt := 48) hx hb dX7_rank_33 (by decide) (fun c_33 => ?_) (fun c_33 => ?_)
        · have c_33 : x0 = 17 := c_33
          have f_48_1 : iR x0 17 17 := iR_eqL c_33 (iR_top _) (iR_c (n := 17) (a := 17) (b := 17) (by decide +kernel) (by decide +kernel)) (by decide +kernel)
          exact J_48  (iR_w f_48_1 (by decide +kernel)) H locs ls hP hD hS (lv_sub hl [] rfl)
        · have c_33 : ¬ x0 = 17 := c_33
          refine lv_iload_n hx hb dX7_rank_36 rfl (lv_at hl 0 rfl) ?_
          refine lv_bipush (v := 18) hx hb dX7_rank_37 (by decide +kernel) ?_
          refine lv_icmp_eq (tgt := 48) hx hb dX7_rank_39 (by decide) (fun c_39 => ?_) (fun c_39 => ?_)
          · have c_39 : x0 = 18 := c_39
            have f_48_1 : iR x0 18 18 := iR_eqL c_39 (iR_top _) (iR_c (n := 18) (a := 18) (b := 18) (by decide +kernel) (by decide +kernel)) (by decide +kernel)
            exact J_48  (iR_w f_48_1 (by decide +kernel)) H locs ls hP hD hS (lv_sub hl [] rfl)
          · have c_39 : ¬ x0 = 18 := c_39
            refine lv_iload_n hx hb dX7_rank_42 rfl (lv_at hl 0 rfl) ?_
            refine lv_bipush (v := 19) hx hb dX7_rank_43 (by decide +kernel) ?_
            refine lv_icmp_ne (tgt := 52) hx hb dX7_rank_45 (by decide) (fun c_45 => ?_) (fun c_45 => ?_)
            · have c_45 : ¬ x0 = 19 := c_45
              refine lv_iload_n hx hb dX7_rank_52 rfl (lv_at hl 0 rfl) ?_
              refine lv_bipush (v := 10) hx hb dX7_rank_53 (by decide +kernel) ?_
              have J_64 : ∀  (k64_0 : iR x0 10 11) (H : Heap) (locs : List Loc) (ls : Array Slot), va_P (dC, dI) vwCl [] H → va_D A [] → va_S A s.heap H locs → lv_has ls 1 [] → W p l e ({ frames := 1, cells := 0, slots := 0, locals := 40 }) s m args below meth c H locs 0 0 (MQ below (va_Qi (fun (r9 : Int32) (u9 : Unit) => (iR r9 1 6)) (fun u => k_B (dC, dI) vwCl (tyy cI cJ cZ cM) A ((fun (u9 : Unit) => []) u)) A) args s 0 0 A) (F0 m 64 ls []) := by
                intro  k64_0 H locs ls hP hD hS hl
                refine lv_iconst (v := 5) hx hb dX7_rank_64 (by decide +kernel) ?_
                refine lv_goto (tgt := 70) hx hb dX7_rank_65 (by decide) ?_
                exact k_ri B hP hD hS dX7_rank_70 () [] rfl rfl rfl (Nat.le_of_ble_eq_true rfl) (Nat.le_of_ble_eq_true rfl) (iR_c (n := 5) (a := 1) (b := 6) (by decide +kernel) (by decide +kernel))
              refine lv_icmp_eq (tgt := 64) hx hb dX7_rank_55 (by decide) (fun c_55 => ?_) (fun c_55 => ?_)
              · have c_55 : x0 = 10 := c_55
                have f_64_1 : iR x0 10 10 := iR_eqL c_55 (iR_top _) (iR_c (n := 10) (a := 10) (b := 10) (by decide +kernel) (by decide +kernel)) (by decide +kernel)
                exact J_64  (iR_w f_64_1 (by decide +kernel)) H locs ls hP hD hS (lv_sub hl [] rfl)
              · have c_55 : ¬ x0 = 10 := c_55
                refine lv_iload_n hx hb dX7_rank_58 rfl (lv_at hl 0 rfl) ?_
                refine lv_bipush (v := 11) hx hb dX7_rank_59 (by decide +kernel) ?_
                refine lv_icmp_ne (tgt := 68) hx hb dX7_rank_61 (by decide) (fun c_61 => ?_) (fun c_61 => ?_)
                · have c_61 : ¬ x0 = 11 := c_61
                  refine lv_bipush (v := 6) hx hb dX7_rank_68 (by decide +kernel) ?_
                  exact k_ri B hP hD hS dX7_rank_70 () [] rfl rfl rfl (Nat.le_of_ble_eq_true rfl) (Nat.le_of_ble_eq_true rfl) (iR_c (n := 6) (a := 1) (b := 6) (by decide +kernel) (by decide +kernel))
                · have c_61 : x0 = 11 := c_61
                  have f_64_1 : iR x0 11 11 := iR_eqL c_61 (iR_top _) (iR_c (n := 11) (a := 11) (b := 11) (by decide +kernel) (by decide +kernel)) (by decide +kernel)
                  exact J_64  (iR_w f_64_1 (by decide +kernel)) H locs ls hP hD hS (lv_sub hl [] rfl)
            · have c_45 : x0 = 19 := c_45
              have f_48_1 : iR x0 19 19 := iR_eqL c_45 (iR_top _) (iR_c (n := 19) (a := 19) (b := 19) (by decide +kernel) (by decide +kernel)) (by decide +kernel)
              exact J_48  (iR_w f_48_1 (by decide +kernel)) H locs ls hP hD hS (lv_sub hl [] rfl)
      · have c_23 : x0 = 22 := c_23
        have f_26_1 : iR x0 22 22 := iR_eqL c_23 (iR_top _) (iR_c (n := 22) (a := 22) (b := 22) (by decide +kernel) (by decide +kernel)) (by decide +kernel)
        refine lv_iconst (v := 3) hx hb dX7_rank_26 (by decide +kernel) ?_
        refine lv_goto (tgt := 70) hx hb dX7_rank_27 (by decide) ?_
        exact k_ri B hP hD hS dX7_rank_70 () [] rfl rfl rfl (Nat.le_of_ble_eq_true rfl) (Nat.le_of_ble_eq_true rfl) (iR_c (n := 3) (a := 1) (b := 6) (by decide +kernel) (by decide +kernel))
    · have c_13 : x0 = 20 := c_13
      have f_16_1 : iR x0 20 20 := iR_eqL c_13 (iR_top _) (iR_c (n := 20) (a := 20) (b := 20) (by decide +kernel) (by decide +kernel)) (by decide +kernel)
      refine lv_iconst (v := 2) hx hb dX7_rank_16 (by decide +kernel) ?_
      refine lv_goto (tgt := 70) hx hb dX7_rank_17 (by decide) ?_
      exact k_ri B hP hD hS dX7_rank_70 () [] rfl rfl rfl (Nat.le_of_ble_eq_true rfl) (Nat.le_of_ble_eq_true rfl) (iR_c (n := 2) (a := 1) (b := 6) (by decide +kernel) (by decide +kernel))
  · have c_3 : x0 = 21 := c_3
    have f_6_1 : iR x0 21 21 := iR_eqL c_3 (iR_top _) (iR_c (n := 21) (a := 21) (b := 21) (by decide +kernel) (by decide +kernel)) (by decide +kernel)
    refine lv_iconst (v := 1) hx hb dX7_rank_6 (by decide +kernel) ?_
    refine lv_goto (tgt := 70) hx hb dX7_rank_7 (by decide) ?_
    exact k_ri B hP hD hS dX7_rank_70 () [] rfl rfl rfl (Nat.le_of_ble_eq_true rfl) (Nat.le_of_ble_eq_true rfl) (iR_c (n := 1) (a := 1) (b := 6) (by decide +kernel) (by decide +kernel))
set_option maxHeartbeats 8000000 in
set_option maxRecDepth 100000 in
theorem s_X7_counts_v1 (l : Launch) (dC : Nat → ClassId) (dI : Nat → Nat → Nat) (cI cJ cZ cM : ClassId) (h : Nat) (r : Nat → Nat) (i : Nat → Int32) (j : Nat → Int64) (f0 : Nat → Int32) (hI : mR i) (hf0 : aR f0 0 255) : k_Mi l yX7_counts wsX7_counts ({ frames := 3, cells := 0, slots := 0, locals := 87 }) (dC, dI) vwCl (tyy cI cJ cZ cM) [(h, .inr (7, oM r i j)), ((r 0), .inl (cI, 1800, .inl f0))] [.ref h, .int 0] 0 0 (fun (u9 : SU) => [(h, .inr (7, oM r (upd (upd (upd (upd (upd i 3 (u9.1 0)) 4 (u9.1 1)) 5 (u9.1 2)) 6 (u9.1 3)) 12 (u9.1 4)) (vp_updL j 7 (u9.2.1 0)))), ((r 0), .inl (cI, 1800, .inl f0))]) (fun (r9 : Int32) (u9 : SU) => (iR r9 0 1) ∧ (iR (u9.1 0) 0 3) ∧ (iR (u9.1 1) 0 1600) ∧ (iR (u9.1 2) 0 1600) ∧ (iR (u9.1 3) 0 9999)) := by
  refine fun sz => k_enter (cc := cX7_counts) (maxL := 2) (ret := some (.boolean)) (Qc := fun A => va_Qi (fun (r9 : Int32) (u9 : SU) => (iR r9 0 1) ∧ (iR (u9.1 0) 0 3) ∧ (iR (u9.1 1) 0 1600) ∧ (iR (u9.1 2) 0 1600) ∧ (iR (u9.1 3) 0 9999)) (fun u => k_B (dC, dI) vwCl (tyy cI cJ cZ cM) A ((fun (u9 : SU) => [(h, .inr (7, oM r (upd (upd (upd (upd (upd i 3 (u9.1 0)) 4 (u9.1 1)) 5 (u9.1 2)) 6 (u9.1 3)) 12 (u9.1 4)) (vp_updL j 7 (u9.2.1 0)))), ((r 0), .inl (cI, 1800, .inl f0))]) u)) A) sz (by decide +kernel) rfl (Nat.le_of_ble_eq_true rfl) (fun p e s m args below meth c A ls H locs B hP hD hS hl => ?_)
  obtain ⟨hx, hb, hml, hown, hts, hr, hlk, hnm, hK, hA, hN, hC⟩ := id B
  have hown : s.vm.findClass RX7 = some m.cls := hown
  have hl : lv_has ls 2 [(0, .ref h), (1, .int 0)] := hl
  have w_0 : (Cond.fieldLink RX7 36 "WishSeaModel" "faultKind" "I").before args s = true := hts _ (List.mem_of_getElem? (i := 1) rfl)
  have hinX7 : ∀ w ∈ u_ws RX7 TX7 92, w ∈ wsX7_counts := fun _ h => List.mem_cons_of_mem _ (List.mem_append_right _ h)
  refine lv_aload_n hx hb dX7_counts_0 rfl (lv_at hl 0 rfl) ?_
  have f_1_1 : iR (i 8) 0 6 := hI 8
  refine k_get (D := (dC, dI)) (ci := 7) (v := .int (i 8)) (C := RX7) (T := TX7) (N := 92) hx hb hts hinX7 hown hK hP 0 rfl rfl 8 (by decide) w_0 rfl rfl dX7_counts_1 ?_
  refine lv_if_ne (tgt := 21) hx hb dX7_counts_4 (by decide) (fun c_4 => ?_) (fun c_4 => ?_)
  · have c_4 : ¬ (i 8) = 0 := c_4
    have f_21_2 : iR (i 8) 1 6 := iR_neL c_4 f_1_1 (iR_c (n := 0) (a := 0) (b := 0) (by decide +kernel) (by decide +kernel)) (by decide +kernel)
    refine lv_aload_n hx hb dX7_counts_21 rfl (lv_at hl 0 rfl) ?_
    refine k_get (D := (dC, dI)) (ci := 7) (v := .int (i 8)) (C := RX7) (T := TX7) (N := 92) hx hb hts hinX7 hown hK hP 0 rfl rfl 8 (by decide) w_0 rfl rfl dX7_counts_22 ?_
    refine lv_if_ne (tgt := 32) hx hb dX7_counts_25 (by decide) (fun c_25p4 => ?_) (fun c_25p4 => ?_)
    · have c_25p4 : ¬ (i 8) = 0 := c_25p4
      refine lv_aload_n hx hb dX7_counts_32 rfl (lv_at hl 0 rfl) ?_
      refine k_get (D := (dC, dI)) (ci := 7) (v := .int (i 8)) (C := RX7) (T := TX7) (N := 92) hx hb hts hinX7 hown hK hP 0 rfl rfl 8 (by decide) w_0 rfl rfl dX7_counts_33 ?_
      refine lv_if_ne (tgt := 43) hx hb dX7_counts_36 (by decide) (fun c_36p4p25 => ?_) (fun c_36p4p25 => ?_)
      · have c_36p4p25 : ¬ (i 8) = 0 := c_36p4p25
        refine lv_iconst (v := 0) hx hb dX7_counts_43 (by decide +kernel) ?_
        exact k_ri B hP hD hS dX7_counts_44 ((fun k9 => match k9 with | 0 => (i 3) | 1 => (i 4) | 2 => (i 5) | 3 => (i 6) | 4 => (i 12) | _ => 0), (fun k9 => match k9 with | 0 => (j 7) | _ => 0), (fun _ => (fun _ => 0)), (fun _ => (fun _ => 0)), (fun _ => 0)) [0, 1] rfl rfl rfl (Nat.le_of_ble_eq_true rfl) (Nat.le_of_ble_eq_true rfl) ⟨(iR_c (n := 0) (a := 0) (b := 1) (by decide +kernel) (by decide +kernel)), (hI 3), (hI 4), (hI 5), (hI 6)⟩
      · exact iR_cl (iR_eqL (a' := 1) (b' := 0) c_36p4p25 f_21_2 (iR_c (n := 0) (a := 0) (b := 0) (by decide +kernel) (by decide +kernel)) (by decide +kernel)) (by decide +kernel)
    · exact iR_cl (iR_eqL (a' := 1) (b' := 0) c_25p4 f_21_2 (iR_c (n := 0) (a := 0) (b := 0) (by decide +kernel) (by decide +kernel)) (by decide +kernel)) (by decide +kernel)
  · have c_4 : (i 8) = 0 := c_4
    have f_7_2 : iR (i 8) 0 0 := iR_eqL c_4 f_1_1 (iR_c (n := 0) (a := 0) (b := 0) (by decide +kernel) (by decide +kernel)) (by decide +kernel)
    refine lv_iload_n hx hb dX7_counts_7 rfl (lv_at hl 1 rfl) ?_
    refine lv_if_eq (tgt := 21) hx hb dX7_counts_8 (by decide) (fun _ => ?_) (fun q9 => absurd q9 (by decide +kernel))
    refine lv_aload_n hx hb dX7_counts_21 rfl (lv_at hl 0 rfl) ?_
    refine k_get (D := (dC, dI)) (ci := 7) (v := .int (i 8)) (C := RX7) (T := TX7) (N := 92) hx hb hts hinX7 hown hK hP 0 rfl rfl 8 (by decide) w_0 rfl rfl dX7_counts_22 ?_
    refine lv_if_ne (tgt := 32) hx hb dX7_counts_25 (by decide) (fun c_25p8 => ?_) (fun c_25p8 => ?_)
    · exact absurd (i_eqc f_7_2 (iR_c (n := 0) (a := 0) (b := 0) (by decide +kernel) (by decide +kernel))) c_25p8
    · have c_25p8 : (i 8) = 0 := c_25p8
      refine lv_aload_n hx hb dX7_counts_28 rfl (lv_at hl 0 rfl) ?_
      refine k_cv (wc := [(h, .inr (7, oM r i j)), ((r 0), .inl (cI, 1800, .inl f0))]) (wr := []) (fun hPc hDc hFc => va_runV (As := []) (rest := []) ⟨hx, hb, hml, hown, hts⟩ (s_X7_ahead_v1 l dC dI cI cJ cZ cM h r i j f0 hI hf0 H.size) (cwV 0 hts gX7_counts_X7_ahead rfl rfl rfl (by decide +kernel) ⟨(Nat.le_of_ble_eq_true rfl), (Nat.le_of_ble_eq_true rfl)⟩) (k_pV hPc hDc hK hN hC hS hFc hP (q0 := 0) (ci := 7) rfl rfl) rfl rfl hl.1 rfl (lv_room (Nat.le_of_ble_eq_true rfl)) dX7_counts_29 ⟨(Nat.le_of_ble_eq_true rfl), (Nat.le_of_ble_eq_true rfl)⟩) hP hD hS hA [0, 1] [] rfl rfl rfl rfl (by decide) (fun _ => rfl) 0 0 rfl rfl (fun u_29p8 H locs hw hP hD hS => ?_)
      obtain ⟨g_29p8_0, g_29p8_1, g_29p8_2, g_29p8_3, g_29p8_4, g_29p8_5⟩ := hw
      have hP : va_P (dC, dI) vwCl [(h, .inr (7, oM r (upd (upd (upd (upd (upd i 3 (u_29p8.1 0)) 4 (u_29p8.1 1)) 5 (u_29p8.1 2)) 6 (u_29p8.1 3)) 12 (u_29p8.1 4)) (vp_updL j 7 (u_29p8.2.1 0)))), ((r 0), .inl (cI, 1800, .inl f0))] H := hP
      have hD : va_D A [(h, .inr (7, oM r (upd (upd (upd (upd (upd i 3 (u_29p8.1 0)) 4 (u_29p8.1 1)) 5 (u_29p8.1 2)) 6 (u_29p8.1 3)) 12 (u_29p8.1 4)) (vp_updL j 7 (u_29p8.2.1 0)))), ((r 0), .inl (cI, 1800, .inl f0))] := hD
      refine lv_aload_n hx hb dX7_counts_32 rfl (lv_at hl 0 rfl) ?_
      refine k_get (D := (dC, dI)) (ci := 7) (v := .int (i 8)) (C := RX7) (T := TX7) (N := 92) hx hb hts hinX7 hown hK hP 0 rfl rfl 8 (by decide) w_0 rfl rfl dX7_counts_33 ?_
      refine lv_if_ne (tgt := 43) hx hb dX7_counts_36 (by decide) (fun c_36p8p29 => ?_) (fun c_36p8p29 => ?_)
      · exact absurd (i_eqc f_7_2 (iR_c (n := 0) (a := 0) (b := 0) (by decide +kernel) (by decide +kernel))) c_36p8p29
      · have c_36p8p29 : (i 8) = 0 := c_36p8p29
        refine lv_iconst (v := 1) hx hb dX7_counts_39 (by decide +kernel) ?_
        refine lv_goto (tgt := 44) hx hb dX7_counts_40 (by decide) ?_
        exact k_ri B hP hD hS dX7_counts_44 ((fun k9 => match k9 with | 0 => (u_29p8.1 0) | 1 => (u_29p8.1 1) | 2 => (u_29p8.1 2) | 3 => (u_29p8.1 3) | 4 => (u_29p8.1 4) | _ => 0), (fun k9 => match k9 with | 0 => (u_29p8.2.1 0) | _ => 0), (fun _ => (fun _ => 0)), (fun _ => (fun _ => 0)), (fun _ => 0)) [0, 1] rfl rfl rfl (Nat.le_of_ble_eq_true rfl) (Nat.le_of_ble_eq_true rfl) ⟨(iR_c (n := 1) (a := 0) (b := 1) (by decide +kernel) (by decide +kernel)), g_29p8_0, g_29p8_1, g_29p8_2, g_29p8_3⟩
set_option maxHeartbeats 8000000 in
set_option maxRecDepth 100000 in
theorem s_X7_number_v0 (l : Launch) (dC : Nat → ClassId) (dI : Nat → Nat → Nat) (cI cJ cZ cM : ClassId) (h : Nat) (r : Nat → Nat) (i : Nat → Int32) (j : Nat → Int64) (x1 : Int32) (x2 : Int32) (f0 : Nat → Int32) (hI : mR i) (hf0 : aR f0 0 255) : k_Mi l yX7_number wsX7_number ({ frames := 3, cells := 0, slots := 0, locals := 87 }) (dC, dI) vwCl (tyy cI cJ cZ cM) [(h, .inr (7, oM r i j)), ((r 0), .inl (cI, 1800, .inl f0))] [.ref h, .int x1, .int x2] 0 0 (fun (u9 : SU) => [(h, .inr (7, oM r (upd (upd (upd (upd (upd (upd (upd i 3 (u9.1 0)) 4 (u9.1 1)) 5 (u9.1 2)) 6 (u9.1 3)) 8 (u9.1 4)) 9 (u9.1 5)) 12 (u9.1 6)) (vp_updL j 7 (u9.2.1 0)))), ((r 0), .inl (cI, 1800, .inl f0))]) (fun (r9 : Int32) (u9 : SU) => (iR r9 0 9999) ∧ (iR (u9.1 0) 0 3) ∧ (iR (u9.1 1) 0 1600) ∧ (iR (u9.1 2) 0 1600) ∧ (iR (u9.1 3) 0 9999) ∧ (iR (u9.1 4) 0 6) ∧ ((0 < (u9.1 4)) ∨ ((x1 ≤ r9) ∧ (r9 ≤ x2)))) := by
  refine fun sz => k_enter (cc := cX7_number) (maxL := 4) (ret := some (.int)) (Qc := fun A => va_Qi (fun (r9 : Int32) (u9 : SU) => (iR r9 0 9999) ∧ (iR (u9.1 0) 0 3) ∧ (iR (u9.1 1) 0 1600) ∧ (iR (u9.1 2) 0 1600) ∧ (iR (u9.1 3) 0 9999) ∧ (iR (u9.1 4) 0 6) ∧ ((0 < (u9.1 4)) ∨ ((x1 ≤ r9) ∧ (r9 ≤ x2)))) (fun u => k_B (dC, dI) vwCl (tyy cI cJ cZ cM) A ((fun (u9 : SU) => [(h, .inr (7, oM r (upd (upd (upd (upd (upd (upd (upd i 3 (u9.1 0)) 4 (u9.1 1)) 5 (u9.1 2)) 6 (u9.1 3)) 8 (u9.1 4)) 9 (u9.1 5)) 12 (u9.1 6)) (vp_updL j 7 (u9.2.1 0)))), ((r 0), .inl (cI, 1800, .inl f0))]) u)) A) sz (by decide +kernel) rfl (Nat.le_of_ble_eq_true rfl) (fun p e s m args below meth c A ls H locs B hP hD hS hl => ?_)
  obtain ⟨hx, hb, hml, hown, hts, hr, hlk, hnm, hK, hA, hN, hC⟩ := id B
  have hown : s.vm.findClass RX7 = some m.cls := hown
  have hl : lv_has ls 4 [(0, .ref h), (1, .int x1), (2, .int x2)] := hl
  have w_0 : (Cond.fieldLink RX7 36 "WishSeaModel" "faultKind" "I").before args s = true := hts _ (List.mem_of_getElem? (i := 1) rfl)
  have w_1 : (Cond.fieldLink RX7 20 "WishSeaModel" "sign" "I").before args s = true := hts _ (List.mem_of_getElem? (i := 2) rfl)
  have w_2 : (Cond.fieldLink RX7 29 "WishSeaModel" "value" "I").before args s = true := hts _ (List.mem_of_getElem? (i := 4) rfl)
  have w_3 : (Cond.fieldLink RX7 23 "WishSeaModel" "signAt" "I").before args s = true := hts _ (List.mem_of_getElem? (i := 3) rfl)
  have hinX7 : ∀ w ∈ u_ws RX7 TX7 92, w ∈ wsX7_number := fun _ h => List.mem_cons_of_mem _ (List.mem_append_right _ h)
  refine lv_aload_n hx hb dX7_number_0 rfl (lv_at hl 0 rfl) ?_
  refine k_cv (wc := [(h, .inr (7, oM r i j))]) (wr := [((r 0), .inl (cI, 1800, .inl f0))]) (fun hPc hDc hFc => va_runV (As := []) (rest := []) ⟨hx, hb, hml, hown, hts⟩ (s_X7_lex_v1 l dC dI cI cJ cZ cM h r i j hI H.size) (cwV 0 hts gX7_number_X7_lex rfl rfl rfl (by decide +kernel) ⟨(Nat.le_of_ble_eq_true rfl), (Nat.le_of_ble_eq_true rfl)⟩) (k_pV hPc hDc hK hN hC hS hFc hP (q0 := 0) (ci := 7) rfl rfl) rfl rfl hl.1 rfl (lv_room (Nat.le_of_ble_eq_true rfl)) dX7_number_1 ⟨(Nat.le_of_ble_eq_true rfl), (Nat.le_of_ble_eq_true rfl)⟩) hP hD hS hA [0] [1] rfl rfl rfl rfl (by decide) (fun _ => rfl) 0 0 rfl rfl (fun u_1 H locs hw hP hD hS => ?_)
  obtain g_1_0 := hw
  have hP : va_P (dC, dI) vwCl [((r 0), .inl (cI, 1800, .inl f0)), (h, .inr (7, oM r (upd (upd i 8 (u_1.1 0)) 9 (u_1.1 1)) j))] H := hP
  have hD : va_D A [((r 0), .inl (cI, 1800, .inl f0)), (h, .inr (7, oM r (upd (upd i 8 (u_1.1 0)) 9 (u_1.1 1)) j))] := hD
  refine lv_aload_n hx hb dX7_number_4 rfl (lv_at hl 0 rfl) ?_
  refine k_get (D := (dC, dI)) (ci := 7) (v := .int (u_1.1 0)) (C := RX7) (T := TX7) (N := 92) hx hb hts hinX7 hown hK hP 1 rfl rfl 8 (by decide) w_0 rfl rfl dX7_number_5 ?_
  refine lv_if_le (tgt := 13) hx hb dX7_number_8 (by decide) (fun c_8 => ?_) (fun c_8 => ?_)
  · have c_8 : (u_1.1 0) ≤ 0 := c_8
    have f_13_1 : iR (u_1.1 0) 0 0 := iR_leL c_8 g_1_0 (iR_c (n := 0) (a := 0) (b := 0) (by decide +kernel) (by decide +kernel)) (by decide +kernel)
    refine lv_aload_n hx hb dX7_number_13 rfl (lv_at hl 0 rfl) ?_
    have f_14_2 : iR (i 3) 0 3 := hI 3
    refine k_get (D := (dC, dI)) (ci := 7) (v := .int (i 3)) (C := RX7) (T := TX7) (N := 92) hx hb hts hinX7 hown hK hP 1 rfl rfl 3 (by decide) w_1 rfl rfl dX7_number_14 ?_
    refine lv_iconst (v := 2) hx hb dX7_number_17 (by decide +kernel) ?_
    refine lv_icmp_eq (tgt := 30) hx hb dX7_number_18 (by decide) (fun c_18 => ?_) (fun c_18 => ?_)
    · have c_18 : (i 3) = 2 := c_18
      have f_30_3 : iR (i 3) 2 2 := iR_eqL c_18 f_14_2 (iR_c (n := 2) (a := 2) (b := 2) (by decide +kernel) (by decide +kernel)) (by decide +kernel)
      refine lv_aload_n hx hb dX7_number_30 rfl (lv_at hl 0 rfl) ?_
      refine k_get (D := (dC, dI)) (ci := 7) (v := .int (u_1.1 0)) (C := RX7) (T := TX7) (N := 92) hx hb hts hinX7 hown hK hP 1 rfl rfl 8 (by decide) w_0 rfl rfl dX7_number_31 ?_
      refine lv_if_ne (tgt := 58) hx hb dX7_number_34 (by decide) (fun c_34p18 => ?_) (fun c_34p18 => ?_)
      · exact absurd (i_eqc f_13_1 (iR_c (n := 0) (a := 0) (b := 0) (by decide +kernel) (by decide +kernel))) c_34p18
      · have c_34p18 : (u_1.1 0) = 0 := c_34p18
        refine lv_aload_n hx hb dX7_number_37 rfl (lv_at hl 0 rfl) ?_
        have f_38p18_4 : iR (i 6) 0 9999 := hI 6
        refine k_get (D := (dC, dI)) (ci := 7) (v := .int (i 6)) (C := RX7) (T := TX7) (N := 92) hx hb hts hinX7 hown hK hP 1 rfl rfl 6 (by decide) w_2 rfl rfl dX7_number_38 ?_
        refine lv_iload_n hx hb dX7_number_41 rfl (lv_at hl 1 rfl) ?_
        refine lv_iload_n hx hb dX7_number_42 rfl (lv_at hl 2 rfl) ?_
        refine k_ci (wc := []) (wr := [((r 0), .inl (cI, 1800, .inl f0)), (h, .inr (7, oM r (upd (upd i 8 (u_1.1 0)) 9 (u_1.1 1)) j))]) (fun hPc hDc hFc => va_runS (As := [.int (i 6), .int x1, .int x2]) (rest := []) ⟨hx, hb, hml, hown, hts⟩ (s_X7_is_v0 l dC dI cI cJ cZ cM (i 6) x1 x2 H.size) (va_cwS 3 hts gX7_number_X7_is rfl rfl rfl (by decide +kernel) ⟨(Nat.le_of_ble_eq_true rfl), (Nat.le_of_ble_eq_true rfl)⟩) (k_pS hPc hDc hK hN hC hS hFc) rfl rfl hl.1 rfl (lv_room (Nat.le_of_ble_eq_true rfl)) dX7_number_43 ⟨(Nat.le_of_ble_eq_true rfl), (Nat.le_of_ble_eq_true rfl)⟩) hP hD hS hA [] [0, 1] rfl rfl rfl rfl (by decide) (fun _ => rfl) 0 0 rfl rfl (fun r_43p18 u_43p18 H locs hw hP hD hS => ?_)
        obtain ⟨g_43p18_0, g_43p18_1⟩ := hw
        have hP : va_P (dC, dI) vwCl [((r 0), .inl (cI, 1800, .inl f0)), (h, .inr (7, oM r (upd (upd i 8 (u_1.1 0)) 9 (u_1.1 1)) j))] H := hP
        have hD : va_D A [((r 0), .inl (cI, 1800, .inl f0)), (h, .inr (7, oM r (upd (upd i 8 (u_1.1 0)) 9 (u_1.1 1)) j))] := hD
        refine lv_if_ne (tgt := 58) hx hb dX7_number_46 (by decide) (fun c_46p18 => ?_) (fun c_46p18 => ?_)
        · have c_46p18 : ¬ r_43p18 = 0 := c_46p18
          have f_58p18_5 : iR r_43p18 1 1 := iR_neL c_46p18 g_43p18_0 (iR_c (n := 0) (a := 0) (b := 0) (by decide +kernel) (by decide +kernel)) (by decide +kernel)
          obtain ⟨d_46p18_1_0, d_46p18_1_1⟩ := g_43p18_1.resolve_left c_46p18
          have f_58p18_6 : iR x1 (-2147483648) 9999 := iR_leL d_46p18_1_0 (iR_top _) f_38p18_4 (by decide +kernel)
          have f_58p18_7 : iR x2 0 2147483647 := iR_leR d_46p18_1_1 f_38p18_4 (iR_top _) (by decide +kernel)
          refine lv_aload_n hx hb dX7_number_58 rfl (lv_at hl 0 rfl) ?_
          refine k_get (D := (dC, dI)) (ci := 7) (v := .int (i 6)) (C := RX7) (T := TX7) (N := 92) hx hb hts hinX7 hown hK hP 1 rfl rfl 6 (by decide) w_2 rfl rfl dX7_number_59 ?_
          refine lv_istore_n (lv' := [(3, .int (i 6)), (0, .ref h), (1, .int x1), (2, .int x2)]) hx hb dX7_number_62 rfl hl (by decide) rfl (fun ls hl => ?_)
          refine lv_aload_n hx hb dX7_number_63 rfl (lv_at hl 1 rfl) ?_
          refine k_get (D := (dC, dI)) (ci := 7) (v := .int (u_1.1 0)) (C := RX7) (T := TX7) (N := 92) hx hb hts hinX7 hown hK hP 1 rfl rfl 8 (by decide) w_0 rfl rfl dX7_number_64 ?_
          refine lv_if_ne (tgt := 74) hx hb dX7_number_67 (by decide) (fun c_67p18p46 => ?_) (fun c_67p18p46 => ?_)
          · exact absurd (i_eqc f_13_1 (iR_c (n := 0) (a := 0) (b := 0) (by decide +kernel) (by decide +kernel))) c_67p18p46
          · have c_67p18p46 : (u_1.1 0) = 0 := c_67p18p46
            refine lv_aload_n hx hb dX7_number_70 rfl (lv_at hl 1 rfl) ?_
            refine k_cv (wc := [(h, .inr (7, oM r (upd (upd i 8 (u_1.1 0)) 9 (u_1.1 1)) j)), ((r 0), .inl (cI, 1800, .inl f0))]) (wr := []) (fun hPc hDc hFc => va_runV (As := []) (rest := []) ⟨hx, hb, hml, hown, hts⟩ (s_X7_ahead_v1 l dC dI cI cJ cZ cM h r (upd (upd i 8 (u_1.1 0)) 9 (u_1.1 1)) j f0 (mR_upd 9 (mR_upd 8 hI (show iR _ (loI 8) (hiI 8) from (iR_w f_13_1 (by decide +kernel)))) (show iR _ (loI 9) (hiI 9) from (iR_top _))) hf0 H.size) (cwV 0 hts gX7_number_X7_ahead rfl rfl rfl (by decide +kernel) ⟨(Nat.le_of_ble_eq_true rfl), (Nat.le_of_ble_eq_true rfl)⟩) (k_pV hPc hDc hK hN hC hS hFc hP (q0 := 1) (ci := 7) rfl rfl) rfl rfl hl.1 rfl (lv_room (Nat.le_of_ble_eq_true rfl)) dX7_number_71 ⟨(Nat.le_of_ble_eq_true rfl), (Nat.le_of_ble_eq_true rfl)⟩) hP hD hS hA [1, 0] [] rfl rfl rfl rfl (by decide) (fun _ => rfl) 0 0 rfl rfl (fun u_71p18p46 H locs hw hP hD hS => ?_)
            obtain ⟨g_71p18p46_0, g_71p18p46_1, g_71p18p46_2, g_71p18p46_3, g_71p18p46_4, g_71p18p46_5⟩ := hw
            have hP : va_P (dC, dI) vwCl [(h, .inr (7, oM r (upd (upd (upd (upd (upd (upd (upd i 3 (u_71p18p46.1 0)) 4 (u_71p18p46.1 1)) 5 (u_71p18p46.1 2)) 6 (u_71p18p46.1 3)) 8 (u_1.1 0)) 9 (u_1.1 1)) 12 (u_71p18p46.1 4)) (vp_updL j 7 (u_71p18p46.2.1 0)))), ((r 0), .inl (cI, 1800, .inl f0))] H := hP
            have hD : va_D A [(h, .inr (7, oM r (upd (upd (upd (upd (upd (upd (upd i 3 (u_71p18p46.1 0)) 4 (u_71p18p46.1 1)) 5 (u_71p18p46.1 2)) 6 (u_71p18p46.1 3)) 8 (u_1.1 0)) 9 (u_1.1 1)) 12 (u_71p18p46.1 4)) (vp_updL j 7 (u_71p18p46.2.1 0)))), ((r 0), .inl (cI, 1800, .inl f0))] := hD
            refine lv_iload_n hx hb dX7_number_74 rfl (lv_at hl 0 rfl) ?_
            exact k_ri B hP hD hS dX7_number_75 ((fun k9 => match k9 with | 0 => (u_71p18p46.1 0) | 1 => (u_71p18p46.1 1) | 2 => (u_71p18p46.1 2) | 3 => (u_71p18p46.1 3) | 4 => (u_1.1 0) | 5 => (u_1.1 1) | 6 => (u_71p18p46.1 4) | _ => 0), (fun k9 => match k9 with | 0 => (u_71p18p46.2.1 0) | _ => 0), (fun _ => (fun _ => 0)), (fun _ => (fun _ => 0)), (fun _ => 0)) [0, 1] rfl rfl rfl (Nat.le_of_ble_eq_true rfl) (Nat.le_of_ble_eq_true rfl) ⟨f_38p18_4, g_71p18p46_0, g_71p18p46_1, g_71p18p46_2, g_71p18p46_3, (iR_w f_13_1 (by decide +kernel)), (Or.inr ⟨d_46p18_1_0, d_46p18_1_1⟩)⟩
        · have c_46p18 : r_43p18 = 0 := c_46p18
          have f_49p18_5 : iR r_43p18 0 0 := iR_eqL c_46p18 g_43p18_0 (iR_c (n := 0) (a := 0) (b := 0) (by decide +kernel) (by decide +kernel)) (by decide +kernel)
          refine lv_aload_n hx hb dX7_number_49 rfl (lv_at hl 0 rfl) ?_
          refine lv_iconst (v := 4) hx hb dX7_number_50 (by decide +kernel) ?_
          refine lv_aload_n hx hb dX7_number_51 rfl (lv_at hl 0 rfl) ?_
          have f_52p18_6 : iR (i 4) 0 1600 := hI 4
          refine k_get (D := (dC, dI)) (ci := 7) (v := .int (i 4)) (C := RX7) (T := TX7) (N := 92) hx hb hts hinX7 hown hK hP 1 rfl rfl 4 (by decide) w_3 rfl rfl dX7_number_52 ?_
          refine k_cv (wc := [(h, .inr (7, oM r (upd (upd i 8 (u_1.1 0)) 9 (u_1.1 1)) j))]) (wr := [((r 0), .inl (cI, 1800, .inl f0))]) (fun hPc hDc hFc => va_runV (As := [.int 4, .int (i 4)]) (rest := []) ⟨hx, hb, hml, hown, hts⟩ (s_X7_blame_v2 l dC dI cI cJ cZ cM h r (upd (upd i 8 (u_1.1 0)) 9 (u_1.1 1)) j 4 (i 4) (iR_c (n := 4) (a := 1) (b := 6) (by decide +kernel) (by decide +kernel)) (mR_upd 9 (mR_upd 8 hI (show iR _ (loI 8) (hiI 8) from (iR_w f_13_1 (by decide +kernel)))) (show iR _ (loI 9) (hiI 9) from (iR_top _))) H.size) (cwV 2 hts gX7_number_X7_blame rfl rfl rfl (by decide +kernel) ⟨(Nat.le_of_ble_eq_true rfl), (Nat.le_of_ble_eq_true rfl)⟩) (k_pV hPc hDc hK hN hC hS hFc hP (q0 := 1) (ci := 7) rfl rfl) rfl rfl hl.1 rfl (lv_room (Nat.le_of_ble_eq_true rfl)) dX7_number_55 ⟨(Nat.le_of_ble_eq_true rfl), (Nat.le_of_ble_eq_true rfl)⟩) hP hD hS hA [1] [0] rfl rfl rfl rfl (by decide) (fun _ => rfl) 0 0 rfl rfl (fun u_55p18 H locs hw hP hD hS => ?_)
          obtain g_55p18_0 := hw
          have hP : va_P (dC, dI) vwCl [((r 0), .inl (cI, 1800, .inl f0)), (h, .inr (7, oM r (upd (upd i 8 (u_55p18.1 0)) 9 (u_55p18.1 1)) j))] H := hP
          have hD : va_D A [((r 0), .inl (cI, 1800, .inl f0)), (h, .inr (7, oM r (upd (upd i 8 (u_55p18.1 0)) 9 (u_55p18.1 1)) j))] := hD
          refine lv_aload_n hx hb dX7_number_58 rfl (lv_at hl 0 rfl) ?_
          refine k_get (D := (dC, dI)) (ci := 7) (v := .int (i 6)) (C := RX7) (T := TX7) (N := 92) hx hb hts hinX7 hown hK hP 1 rfl rfl 6 (by decide) w_2 rfl rfl dX7_number_59 ?_
          refine lv_istore_n (lv' := [(3, .int (i 6)), (0, .ref h), (1, .int x1), (2, .int x2)]) hx hb dX7_number_62 rfl hl (by decide) rfl (fun ls hl => ?_)
          refine lv_aload_n hx hb dX7_number_63 rfl (lv_at hl 1 rfl) ?_
          refine k_get (D := (dC, dI)) (ci := 7) (v := .int (u_55p18.1 0)) (C := RX7) (T := TX7) (N := 92) hx hb hts hinX7 hown hK hP 1 rfl rfl 8 (by decide) w_0 rfl rfl dX7_number_64 ?_
          refine lv_if_ne (tgt := 74) hx hb dX7_number_67 (by decide) (fun c_67p18p55 => ?_) (fun c_67p18p55 => ?_)
          · have c_67p18p55 : ¬ (u_55p18.1 0) = 0 := c_67p18p55
            refine lv_iload_n hx hb dX7_number_74 rfl (lv_at hl 0 rfl) ?_
            exact k_ri B hP hD hS dX7_number_75 ((fun k9 => match k9 with | 0 => (i 3) | 1 => (i 4) | 2 => (i 5) | 3 => (i 6) | 4 => (u_55p18.1 0) | 5 => (u_55p18.1 1) | 6 => (i 12) | _ => 0), (fun k9 => match k9 with | 0 => (j 7) | _ => 0), (fun _ => (fun _ => 0)), (fun _ => (fun _ => 0)), (fun _ => 0)) [1, 0] rfl rfl rfl (Nat.le_of_ble_eq_true rfl) (Nat.le_of_ble_eq_true rfl) ⟨f_38p18_4, (iR_w f_30_3 (by decide +kernel)), f_52p18_6, (hI 5), f_38p18_4, (iR_w g_55p18_0 (by decide +kernel)), (Or.inl (i_ltf (iR_c (n := 0) (a := 0) (b := 0) (by decide +kernel) (by decide +kernel)) g_55p18_0 (by decide +kernel)))⟩
          · exact iR_cl (iR_eqL (a' := 1) (b' := 0) c_67p18p55 g_55p18_0 (iR_c (n := 0) (a := 0) (b := 0) (by decide +kernel) (by decide +kernel)) (by decide +kernel)) (by decide +kernel)
    · have c_18 : ¬ (i 3) = 2 := c_18
      refine lv_aload_n hx hb dX7_number_21 rfl (lv_at hl 0 rfl) ?_
      refine lv_iconst (v := 1) hx hb dX7_number_22 (by decide +kernel) ?_
      refine lv_aload_n hx hb dX7_number_23 rfl (lv_at hl 0 rfl) ?_
      have f_24_3 : iR (i 4) 0 1600 := hI 4
      refine k_get (D := (dC, dI)) (ci := 7) (v := .int (i 4)) (C := RX7) (T := TX7) (N := 92) hx hb hts hinX7 hown hK hP 1 rfl rfl 4 (by decide) w_3 rfl rfl dX7_number_24 ?_
      refine k_cv (wc := [(h, .inr (7, oM r (upd (upd i 8 (u_1.1 0)) 9 (u_1.1 1)) j))]) (wr := [((r 0), .inl (cI, 1800, .inl f0))]) (fun hPc hDc hFc => va_runV (As := [.int 1, .int (i 4)]) (rest := []) ⟨hx, hb, hml, hown, hts⟩ (s_X7_blame_v2 l dC dI cI cJ cZ cM h r (upd (upd i 8 (u_1.1 0)) 9 (u_1.1 1)) j 1 (i 4) (iR_c (n := 1) (a := 1) (b := 6) (by decide +kernel) (by decide +kernel)) (mR_upd 9 (mR_upd 8 hI (show iR _ (loI 8) (hiI 8) from (iR_w f_13_1 (by decide +kernel)))) (show iR _ (loI 9) (hiI 9) from (iR_top _))) H.size) (cwV 2 hts gX7_number_X7_blame rfl rfl rfl (by decide +kernel) ⟨(Nat.le_of_ble_eq_true rfl), (Nat.le_of_ble_eq_true rfl)⟩) (k_pV hPc hDc hK hN hC hS hFc hP (q0 := 1) (ci := 7) rfl rfl) rfl rfl hl.1 rfl (lv_room (Nat.le_of_ble_eq_true rfl)) dX7_number_27 ⟨(Nat.le_of_ble_eq_true rfl), (Nat.le_of_ble_eq_true rfl)⟩) hP hD hS hA [1] [0] rfl rfl rfl rfl (by decide) (fun _ => rfl) 0 0 rfl rfl (fun u_27 H locs hw hP hD hS => ?_)
      obtain g_27_0 := hw
      have hP : va_P (dC, dI) vwCl [((r 0), .inl (cI, 1800, .inl f0)), (h, .inr (7, oM r (upd (upd i 8 (u_27.1 0)) 9 (u_27.1 1)) j))] H := hP
      have hD : va_D A [((r 0), .inl (cI, 1800, .inl f0)), (h, .inr (7, oM r (upd (upd i 8 (u_27.1 0)) 9 (u_27.1 1)) j))] := hD
      refine lv_aload_n hx hb dX7_number_30 rfl (lv_at hl 0 rfl) ?_
      refine k_get (D := (dC, dI)) (ci := 7) (v := .int (u_27.1 0)) (C := RX7) (T := TX7) (N := 92) hx hb hts hinX7 hown hK hP 1 rfl rfl 8 (by decide) w_0 rfl rfl dX7_number_31 ?_
      refine lv_if_ne (tgt := 58) hx hb dX7_number_34 (by decide) (fun c_34p27 => ?_) (fun c_34p27 => ?_)
      · have c_34p27 : ¬ (u_27.1 0) = 0 := c_34p27
        refine lv_aload_n hx hb dX7_number_58 rfl (lv_at hl 0 rfl) ?_
        have f_59p27p34_4 : iR (i 6) 0 9999 := hI 6
        refine k_get (D := (dC, dI)) (ci := 7) (v := .int (i 6)) (C := RX7) (T := TX7) (N := 92) hx hb hts hinX7 hown hK hP 1 rfl rfl 6 (by decide) w_2 rfl rfl dX7_number_59 ?_
        refine lv_istore_n (lv' := [(3, .int (i 6)), (0, .ref h), (1, .int x1), (2, .int x2)]) hx hb dX7_number_62 rfl hl (by decide) rfl (fun ls hl => ?_)
        refine lv_aload_n hx hb dX7_number_63 rfl (lv_at hl 1 rfl) ?_
        refine k_get (D := (dC, dI)) (ci := 7) (v := .int (u_27.1 0)) (C := RX7) (T := TX7) (N := 92) hx hb hts hinX7 hown hK hP 1 rfl rfl 8 (by decide) w_0 rfl rfl dX7_number_64 ?_
        refine lv_if_ne (tgt := 74) hx hb dX7_number_67 (by decide) (fun c_67p27p34 => ?_) (fun c_67p27p34 => ?_)
        · have c_67p27p34 : ¬ (u_27.1 0) = 0 := c_67p27p34
          refine lv_iload_n hx hb dX7_number_74 rfl (lv_at hl 0 rfl) ?_
          exact k_ri B hP hD hS dX7_number_75 ((fun k9 => match k9 with | 0 => (i 3) | 1 => (i 4) | 2 => (i 5) | 3 => (i 6) | 4 => (u_27.1 0) | 5 => (u_27.1 1) | 6 => (i 12) | _ => 0), (fun k9 => match k9 with | 0 => (j 7) | _ => 0), (fun _ => (fun _ => 0)), (fun _ => (fun _ => 0)), (fun _ => 0)) [1, 0] rfl rfl rfl (Nat.le_of_ble_eq_true rfl) (Nat.le_of_ble_eq_true rfl) ⟨f_59p27p34_4, f_14_2, f_24_3, (hI 5), f_59p27p34_4, (iR_w g_27_0 (by decide +kernel)), (Or.inl (i_ltf (iR_c (n := 0) (a := 0) (b := 0) (by decide +kernel) (by decide +kernel)) g_27_0 (by decide +kernel)))⟩
        · exact iR_cl (iR_eqL (a' := 1) (b' := 0) c_67p27p34 g_27_0 (iR_c (n := 0) (a := 0) (b := 0) (by decide +kernel) (by decide +kernel)) (by decide +kernel)) (by decide +kernel)
      · exact iR_cl (iR_eqL (a' := 1) (b' := 0) c_34p27 g_27_0 (iR_c (n := 0) (a := 0) (b := 0) (by decide +kernel) (by decide +kernel)) (by decide +kernel)) (by decide +kernel)
  · have c_8 : 0 < (u_1.1 0) := i_nle c_8
    have f_11_1 : iR (u_1.1 0) 1 6 := iR_ltR c_8 (iR_c (n := 0) (a := 0) (b := 0) (by decide +kernel) (by decide +kernel)) g_1_0 (by decide +kernel)
    refine lv_iconst (v := 0) hx hb dX7_number_11 (by decide +kernel) ?_
    exact k_ri B hP hD hS dX7_number_12 ((fun k9 => match k9 with | 0 => (i 3) | 1 => (i 4) | 2 => (i 5) | 3 => (i 6) | 4 => (u_1.1 0) | 5 => (u_1.1 1) | 6 => (i 12) | _ => 0), (fun k9 => match k9 with | 0 => (j 7) | _ => 0), (fun _ => (fun _ => 0)), (fun _ => (fun _ => 0)), (fun _ => 0)) [1, 0] rfl rfl rfl (Nat.le_of_ble_eq_true rfl) (Nat.le_of_ble_eq_true rfl) ⟨(iR_c (n := 0) (a := 0) (b := 9999) (by decide +kernel) (by decide +kernel)), (hI 3), (hI 4), (hI 5), (hI 6), (iR_w f_11_1 (by decide +kernel)), (Or.inl c_8)⟩
