set_option maxHeartbeats 8000000 in
set_option maxRecDepth 100000 in
theorem s_X7_lex_v7 (l : Launch) (dC : Nat → ClassId) (dI : Nat → Nat → Nat) (cI cJ cZ cM : ClassId) (h : Nat) (r : Nat → Nat) (i : Nat → Int32) (j : Nat → Int64) (hI : mR i) : k_Mv l yX7_lex wsX7_lex ({ frames := 2, cells := 0, slots := 0, locals := 62 }) (dC, dI) vwCl (tyy cI cJ cZ cM) [(h, .inr (7, oM r i j))] [.ref h] 0 0 (fun (u9 : SU) => [(h, .inr (7, oM r (upd (upd i 8 (u9.1 0)) 9 (u9.1 1)) j))]) (fun (u9 : SU) => (iR (u9.1 0) 0 6)) := by
  refine fun sz => k_enter (cc := cX7_lex) (maxL := 1) (ret := none) (Qc := fun A => va_Qv (fun (u9 : SU) => (iR (u9.1 0) 0 6)) (fun u => k_B (dC, dI) vwCl (tyy cI cJ cZ cM) A ((fun (u9 : SU) => [(h, .inr (7, oM r (upd (upd i 8 (u9.1 0)) 9 (u9.1 1)) j))]) u)) A) sz (by decide +kernel) rfl (Nat.le_of_ble_eq_true rfl) (fun p e s m args below meth c A ls H locs B hP hD hS hl => ?_)
  obtain ⟨hx, hb, hml, hown, hts, hr, hlk, hnm, hK, hA, hN, hC⟩ := id B
  have hown : s.vm.findClass RX7 = some m.cls := hown
  have hl : lv_has ls 1 [(0, .ref h)] := hl
  have w_0 : (Cond.fieldLink RX7 48 "WishSeaModel" "lexAt" "I").before args s = true := hts _ (List.mem_of_getElem? (i := 1) rfl)
  have hinX7 : ∀ w ∈ u_ws RX7 TX7 92, w ∈ wsX7_lex := fun _ h => List.mem_cons_of_mem _ (List.mem_append_right _ h)
  refine lv_aload_n hx hb dX7_lex_0 rfl (lv_at hl 0 rfl) ?_
  refine k_get (D := (dC, dI)) (ci := 7) (v := .int (i 12)) (C := RX7) (T := TX7) (N := 92) hx hb hts hinX7 hown hK hP 0 rfl rfl 12 (by decide) w_0 rfl rfl dX7_lex_1 ?_
  refine lv_iconst (v := (-1)) hx hb dX7_lex_4 (by decide +kernel) ?_
  have J_17 : ∀ (j17_M0_8 : Int32) (j17_M0_9 : Int32) (hj17_M0_8 : iR j17_M0_8 0 6) (H : Heap) (locs : List Loc) (ls : Array Slot), va_P (dC, dI) vwCl [(h, .inr (7, oM r (upd (upd i 8 j17_M0_8) 9 j17_M0_9) j))] H → va_D A [(h, .inr (7, oM r (upd (upd i 8 j17_M0_8) 9 j17_M0_9) j))] → va_S A s.heap H locs → lv_has ls 1 [] → W p l e ({ frames := 2, cells := 0, slots := 0, locals := 62 }) s m args below meth c H locs 0 0 (MQ below (va_Qv (fun (u9 : SU) => (iR (u9.1 0) 0 6)) (fun u => k_B (dC, dI) vwCl (tyy cI cJ cZ cM) A ((fun (u9 : SU) => [(h, .inr (7, oM r (upd (upd i 8 (u9.1 0)) 9 (u9.1 1)) j))]) u)) A) args s 0 0 A) (F0 m 17 ls []) := by
    intro j17_M0_8 j17_M0_9 hj17_M0_8 H locs ls hP hD hS hl
    exact k_rv B hP hD hS dX7_lex_17 ((fun k9 => match k9 with | 0 => j17_M0_8 | 1 => j17_M0_9 | _ => 0), (fun _ => 0), (fun _ => (fun _ => 0)), (fun _ => (fun _ => 0)), (fun _ => 0)) [0] rfl rfl (Nat.le_of_ble_eq_true rfl) (Nat.le_of_ble_eq_true rfl) hj17_M0_8
  refine lv_icmp_eq (tgt := 17) hx hb dX7_lex_5 (by decide) (fun c_5 => ?_) (fun c_5 => ?_)
  · have c_5 : (i 12) = (-1) := c_5
    have f_17_1 : iR (i 12) (-1) (-1) := iR_eqL c_5 (iR_top _) (iR_c (n := (-1)) (by decide +kernel) (by decide +kernel)) (by decide +kernel)
    exact J_17 (i 8) (i 9) (show iR (i 8) 0 6 from hI 8) H locs ls hP hD hS (lv_sub hl [] rfl)
  · have c_5 : ¬ (i 12) = (-1) := c_5
    refine lv_aload_n hx hb dX7_lex_8 rfl (lv_at hl 0 rfl) ?_
    refine lv_iconst (v := 1) hx hb dX7_lex_9 (by decide +kernel) ?_
    refine lv_aload_n hx hb dX7_lex_10 rfl (lv_at hl 0 rfl) ?_
    refine k_get (D := (dC, dI)) (ci := 7) (v := .int (i 12)) (C := RX7) (T := TX7) (N := 92) hx hb hts hinX7 hown hK hP 0 rfl rfl 12 (by decide) w_0 rfl rfl dX7_lex_11 ?_
    refine k_cv (wc := [(h, .inr (7, oM r i j))]) (wr := []) (fun hPc hDc hFc => va_runV (As := [.int 1, .int (i 12)]) (rest := []) ⟨hx, hb, hml, hown, hts⟩ (s_X7_blame_v1 l dC dI cI cJ cZ cM h r i j 1 (i 12) (iR_c (n := 1) (by decide +kernel) (by decide +kernel)) hI H.size) (cwV 2 hts gX7_lex_X7_blame rfl rfl rfl (by decide +kernel) ⟨(Nat.le_of_ble_eq_true rfl), (Nat.le_of_ble_eq_true rfl)⟩) (k_pV hPc hDc hK hN hC hS hFc hP (q0 := 0) (ci := 7) rfl rfl) rfl rfl hl.1 rfl (lv_room (Nat.le_of_ble_eq_true rfl)) dX7_lex_14 ⟨(Nat.le_of_ble_eq_true rfl), (Nat.le_of_ble_eq_true rfl)⟩) hP hD hS hA [0] [] rfl rfl rfl rfl (by decide) (fun _ => rfl) 0 0 rfl rfl (fun u_14 H locs hw hP hD hS => ?_)
    obtain g_14_0 := hw
    have hP : va_P (dC, dI) vwCl [(h, .inr (7, oM r (upd (upd i 8 (u_14.1 0)) 9 (u_14.1 1)) j))] H := hP
    have hD : va_D A [(h, .inr (7, oM r (upd (upd i 8 (u_14.1 0)) 9 (u_14.1 1)) j))] := hD
    exact J_17 (u_14.1 0) (u_14.1 1) (iR_w g_14_0 (by decide +kernel)) H locs ls hP hD hS (lv_sub hl [] rfl)
set_option maxHeartbeats 8000000 in
set_option maxRecDepth 100000 in
theorem s_X7_manyOf_v11 (l : Launch) (dC : Nat → ClassId) (dI : Nat → Nat → Nat) (cI cJ cZ cM : ClassId) (h : Nat) (r : Nat → Nat) (i : Nat → Int32) (j : Nat → Int64) (x1 : Int32) (f14 : Nat → Int32) (hx1 : iR x1 0 1) (hI : mR i) (hf14 : aR f14 0 10) : k_Mi l yX7_manyOf wsX7_manyOf ({ frames := 1, cells := 0, slots := 0, locals := 40 }) (dC, dI) vwCl (tyy cI cJ cZ cM) [(h, .inr (7, oM r i j)), ((r 14), .inl (cI, 2, .inl f14))] [.ref h, .int x1, .int 0] 0 0 (fun (u9 : Unit) => [(h, .inr (7, oM r i j)), ((r 14), .inl (cI, 2, .inl f14))]) (fun (r9 : Int32) (u9 : Unit) => (r9 = (f14 x1.toNatClampNeg))) := by
  refine fun sz => k_enter (cc := cX7_manyOf) (maxL := 3) (ret := some (.int)) (Qc := fun A => va_Qi (fun (r9 : Int32) (u9 : Unit) => (r9 = (f14 x1.toNatClampNeg))) (fun u => k_B (dC, dI) vwCl (tyy cI cJ cZ cM) A ((fun (u9 : Unit) => [(h, .inr (7, oM r i j)), ((r 14), .inl (cI, 2, .inl f14))]) u)) A) sz (by decide +kernel) rfl (Nat.le_of_ble_eq_true rfl) (fun p e s m args below meth c A ls H locs B hP hD hS hl => ?_)
  obtain ⟨hx, hb, hml, hown, hts, hr, hlk, hnm, hK, hA, hN, hC⟩ := id B
  have hown : s.vm.findClass RX7 = some m.cls := hown
  have hl : lv_has ls 3 [(0, .ref h), (1, .int x1), (2, .int 0)] := hl
  have w_0 : (Cond.fieldLink RX7 54 "WishSeaModel" "things" "[I").before args s = true := hts _ (List.mem_of_getElem? (i := 1) rfl)
  have hinX7 : ∀ w ∈ u_ws RX7 TX7 92, w ∈ wsX7_manyOf := fun _ h => List.mem_cons_of_mem _ (List.mem_append_right _ h)
  refine lv_iload_n hx hb dX7_manyOf_0 rfl (lv_at hl 2 rfl) ?_
  refine lv_if_ne (tgt := 13) hx hb dX7_manyOf_1 (by decide) (fun q9 => absurd q9 (by decide +kernel)) (fun _ => ?_)
  refine lv_aload_n hx hb dX7_manyOf_4 rfl (lv_at hl 0 rfl) ?_
  refine k_get (D := (dC, dI)) (ci := 7) (v := .ref (r 14)) (C := RX7) (T := TX7) (N := 92) hx hb hts hinX7 hown hK hP 0 rfl rfl 14 (by decide) w_0 rfl rfl dX7_manyOf_5 ?_
  refine lv_iload_n hx hb dX7_manyOf_8 rfl (lv_at hl 1 rfl) ?_
  refine va_iald hx hb hK hP 1 0 rfl rfl (iR_vp hx1 (by decide +kernel)) dX7_manyOf_9 ?_
  have f_9_1 : iR (f14 x1.toNatClampNeg) 0 10 := hf14 _
  refine lv_goto (tgt := 19) hx hb dX7_manyOf_10 (by decide) ?_
  exact k_ri B hP hD hS dX7_manyOf_19 () [0, 1] rfl rfl rfl (Nat.le_of_ble_eq_true rfl) (Nat.le_of_ble_eq_true rfl) rfl
set_option maxHeartbeats 8000000 in
set_option maxRecDepth 100000 in
theorem s_X7_nameOf_v11 (l : Launch) (dC : Nat → ClassId) (dI : Nat → Nat → Nat) (cI cJ cZ cM : ClassId) (h : Nat) (r : Nat → Nat) (i : Nat → Int32) (j : Nat → Int64) (x1 : Int32) (x3 : Int32) (g34 : Nat → Int64) (hx1 : iR x1 0 1) (hx3 : iR x3 0 9) (hI : mR i) : k_Ml l yX7_nameOf wsX7_nameOf ({ frames := 1, cells := 0, slots := 0, locals := 40 }) (dC, dI) vwCl (tyy cI cJ cZ cM) [(h, .inr (7, oM r i j)), ((r 34), .inl (cJ, 20, .inr (.inl g34)))] [.ref h, .int x1, .int 0, .int x3] 0 0 (fun (u9 : Unit) => [(h, .inr (7, oM r i j)), ((r 34), .inl (cJ, 20, .inr (.inl g34)))]) (fun (r9 : Int64) (u9 : Unit) => True) := by
  refine fun sz => k_enter (cc := cX7_nameOf) (maxL := 4) (ret := some (.long)) (Qc := fun A => va_Ql (fun (r9 : Int64) (u9 : Unit) => True) (fun u => k_B (dC, dI) vwCl (tyy cI cJ cZ cM) A ((fun (u9 : Unit) => [(h, .inr (7, oM r i j)), ((r 34), .inl (cJ, 20, .inr (.inl g34)))]) u)) A) sz (by decide +kernel) rfl (Nat.le_of_ble_eq_true rfl) (fun p e s m args below meth c A ls H locs B hP hD hS hl => ?_)
  obtain ⟨hx, hb, hml, hown, hts, hr, hlk, hnm, hK, hA, hN, hC⟩ := id B
  have hown : s.vm.findClass RX7 = some m.cls := hown
  have hl : lv_has ls 4 [(0, .ref h), (1, .int x1), (2, .int 0), (3, .int x3)] := hl
  have w_0 : (Cond.fieldLink RX7 114 "WishSeaModel" "thingName" "[J").before args s = true := hts _ (List.mem_of_getElem? (i := 1) rfl)
  have hinX7 : ∀ w ∈ u_ws RX7 TX7 92, w ∈ wsX7_nameOf := fun _ h => List.mem_cons_of_mem _ (List.mem_append_right _ h)
  refine lv_iload_n hx hb dX7_nameOf_0 rfl (lv_at hl 2 rfl) ?_
  have J_29 : ∀ (j29_S0 : Int64)  (H : Heap) (locs : List Loc) (ls : Array Slot), va_P (dC, dI) vwCl [(h, .inr (7, oM r i j)), ((r 34), .inl (cJ, 20, .inr (.inl g34)))] H → va_D A [(h, .inr (7, oM r i j)), ((r 34), .inl (cJ, 20, .inr (.inl g34)))] → va_S A s.heap H locs → lv_has ls 4 [] → W p l e ({ frames := 1, cells := 0, slots := 0, locals := 40 }) s m args below meth c H locs 0 0 (MQ below (va_Ql (fun (r9 : Int64) (u9 : Unit) => True) (fun u => k_B (dC, dI) vwCl (tyy cI cJ cZ cM) A ((fun (u9 : Unit) => [(h, .inr (7, oM r i j)), ((r 34), .inl (cJ, 20, .inr (.inl g34)))]) u)) A) args s 0 0 A) (F0 m 29 ls [.long j29_S0]) := by
    intro j29_S0  H locs ls hP hD hS hl
    exact k_rl B hP hD hS dX7_nameOf_29 () [0, 1] rfl rfl (Nat.le_of_ble_eq_true rfl) (Nat.le_of_ble_eq_true rfl) trivial
  refine lv_if_ne (tgt := 18) hx hb dX7_nameOf_1 (by decide) (fun q9 => absurd q9 (by decide +kernel)) (fun _ => ?_)
  refine lv_aload_n hx hb dX7_nameOf_4 rfl (lv_at hl 0 rfl) ?_
  refine k_get (D := (dC, dI)) (ci := 7) (v := .ref (r 34)) (C := RX7) (T := TX7) (N := 92) hx hb hts hinX7 hown hK hP 0 rfl rfl 34 (by decide) w_0 rfl rfl dX7_nameOf_5 ?_
  refine lv_bipush (v := 10) hx hb dX7_nameOf_8 (by decide +kernel) ?_
  refine lv_iload_n hx hb dX7_nameOf_10 rfl (lv_at hl 1 rfl) ?_
  refine lv_imul hx hb dX7_nameOf_11 ?_
  refine lv_topi (fun y_11 ey_11 => ?_)
  have f_11_1 : iR y_11 0 10 := iR_mul ey_11 (iR_c (n := 10) (by decide +kernel) (by decide +kernel)) hx1 (by decide +kernel)
  refine lv_iload_n hx hb dX7_nameOf_12 rfl (lv_at hl 3 rfl) ?_
  refine lv_iadd hx hb dX7_nameOf_13 ?_
  refine lv_topi (fun y_13 ey_13 => ?_)
  have f_13_2 : iR y_13 0 19 := iR_add ey_13 f_11_1 hx3 (by decide +kernel)
  refine va_lald hx hb hK hP 1 1 rfl rfl (iR_vp f_13_2 (by decide +kernel)) dX7_nameOf_14 ?_
  refine lv_goto (tgt := 29) hx hb dX7_nameOf_15 (by decide) ?_
  exact J_29 (g34 y_13.toNatClampNeg)  H locs ls hP hD hS (lv_sub hl [] rfl)
set_option maxHeartbeats 8000000 in
set_option maxRecDepth 100000 in
theorem s_X7_named_v7 (l : Launch) (dC : Nat → ClassId) (dI : Nat → Nat → Nat) (cI cJ cZ cM : ClassId) (h : Nat) (r : Nat → Nat) (i : Nat → Int32) (j : Nat → Int64) (x2 : Int64) (f14 : Nat → Int32) (g34 : Nat → Int64) (hI : mR i) (hf14 : aR f14 0 10) : k_Mi l yX7_named wsX7_named ({ frames := 2, cells := 0, slots := 0, locals := 63 }) (dC, dI) vwCl (tyy cI cJ cZ cM) [(h, .inr (7, oM r i j)), ((r 14), .inl (cI, 2, .inl f14)), ((r 34), .inl (cJ, 20, .inr (.inl g34)))] [.ref h, .int 0, .long x2] 0 0 (fun (u9 : Unit) => [(h, .inr (7, oM r i j)), ((r 14), .inl (cI, 2, .inl f14)), ((r 34), .inl (cJ, 20, .inr (.inl g34)))]) (fun (r9 : Int32) (u9 : Unit) => (iR r9 (-1) 9)) := by
  refine fun sz => k_enter (cc := cX7_named) (maxL := 5) (ret := some (.int)) (Qc := fun A => va_Qi (fun (r9 : Int32) (u9 : Unit) => (iR r9 (-1) 9)) (fun u => k_B (dC, dI) vwCl (tyy cI cJ cZ cM) A ((fun (u9 : Unit) => [(h, .inr (7, oM r i j)), ((r 14), .inl (cI, 2, .inl f14)), ((r 34), .inl (cJ, 20, .inr (.inl g34)))]) u)) A) sz (by decide +kernel) rfl (Nat.le_of_ble_eq_true rfl) (fun p e s m args below meth c A ls H locs B hP hD hS hl => ?_)
  obtain ⟨hx, hb, hml, hown, hts, hr, hlk, hnm, hK, hA, hN, hC⟩ := id B
  have hown : s.vm.findClass RX7 = some m.cls := hown
  have hl : lv_has ls 5 [(0, .ref h), (1, .int 0), (2, .long x2)] := hl
  have w_0 : (Cond.fieldLink RX7 124 "WishSeaModel" "in" "I").before args s = true := hts _ (List.mem_of_getElem? (i := 1) rfl)
  have hinX7 : ∀ w ∈ u_ws RX7 TX7 92, w ∈ wsX7_named := fun _ h => List.mem_cons_of_mem _ (List.mem_append_right _ h)
  refine lv_iconst (v := 0) hx hb dX7_named_0 (by decide +kernel) ?_
  have J_3 : ∀ (n_3 : Nat) (j3_L4 : Int32) (hj3_L4 : iR j3_L4 0 10) (hm_3 : (10 - j3_L4.toInt).toNat < n_3) (H : Heap) (locs : List Loc) (ls : Array Slot), va_P (dC, dI) vwCl [(h, .inr (7, oM r i j)), ((r 14), .inl (cI, 2, .inl f14)), ((r 34), .inl (cJ, 20, .inr (.inl g34)))] H → va_D A [(h, .inr (7, oM r i j)), ((r 14), .inl (cI, 2, .inl f14)), ((r 34), .inl (cJ, 20, .inr (.inl g34)))] → va_S A s.heap H locs → lv_has ls 5 [(0, .ref h), (1, .int 0), (2, .long x2), (4, .int j3_L4)] → W p l e ({ frames := 2, cells := 0, slots := 0, locals := 63 }) s m args below meth c H locs 0 0 (MQ below (va_Qi (fun (r9 : Int32) (u9 : Unit) => (iR r9 (-1) 9)) (fun u => k_B (dC, dI) vwCl (tyy cI cJ cZ cM) A ((fun (u9 : Unit) => [(h, .inr (7, oM r i j)), ((r 14), .inl (cI, 2, .inl f14)), ((r 34), .inl (cJ, 20, .inr (.inl g34)))]) u)) A) args s 0 0 A) (F0 m 3 ls []) := by
    intro n_3
    induction n_3 with
    | zero => intro j3_L4 hj3_L4 hm_3; exact absurd hm_3 (Nat.not_lt_zero _)
    | succ n_3 ih_3 =>
      intro j3_L4 hj3_L4 hm_3 H locs ls hP hD hS hl
      refine lv_iload hx hb dX7_named_3 (lv_at hl 3 rfl) ?_
      refine lv_aload_n hx hb dX7_named_5 rfl (lv_at hl 0 rfl) ?_
      refine lv_aload_n hx hb dX7_named_6 rfl (lv_at hl 0 rfl) ?_
      have f_7_1 : iR (i 37) 0 1 := hI 37
      refine k_get (D := (dC, dI)) (ci := 7) (v := .int (i 37)) (C := RX7) (T := TX7) (N := 92) hx hb hts hinX7 hown hK hP 0 rfl rfl 37 (by decide) w_0 rfl rfl dX7_named_7 ?_
      refine lv_iload_n hx hb dX7_named_10 rfl (lv_at hl 1 rfl) ?_
      refine k_ci (wc := [(h, .inr (7, oM r i j)), ((r 14), .inl (cI, 2, .inl f14))]) (wr := [((r 34), .inl (cJ, 20, .inr (.inl g34)))]) (fun hPc hDc hFc => va_runV (As := [.int (i 37), .int 0]) (rest := [.int j3_L4]) ⟨hx, hb, hml, hown, hts⟩ (s_X7_manyOf_v2 l dC dI cI cJ cZ cM h r i j (i 37) f14 f_7_1 hI hf14 H.size) (cwV 2 hts gX7_named_X7_manyOf rfl rfl rfl (by decide +kernel) ⟨(Nat.le_of_ble_eq_true rfl), (Nat.le_of_ble_eq_true rfl)⟩) (k_pV hPc hDc hK hN hC hS hFc hP (q0 := 0) (ci := 7) rfl rfl) rfl rfl hl.1 rfl (lv_room (Nat.le_of_ble_eq_true rfl)) dX7_named_11 ⟨(Nat.le_of_ble_eq_true rfl), (Nat.le_of_ble_eq_true rfl)⟩) hP hD hS hA [0, 1] [2] rfl rfl rfl rfl (by decide) (fun _ => rfl) 0 0 rfl rfl (fun r_11 u_11 H locs hw hP hD hS => ?_)
      obtain g_11_0 := hw
      obtain rfl : r_11 = (f14 (i 37).toNatClampNeg) := g_11_0
      have hP : va_P (dC, dI) vwCl [((r 34), .inl (cJ, 20, .inr (.inl g34))), (h, .inr (7, oM r i j)), ((r 14), .inl (cI, 2, .inl f14))] H := hP
      have hD : va_D A [((r 34), .inl (cJ, 20, .inr (.inl g34))), (h, .inr (7, oM r i j)), ((r 14), .inl (cI, 2, .inl f14))] := hD
      refine lv_icmp_ge (tgt := 42) hx hb dX7_named_14 (by decide) (fun c_14 => ?_) (fun c_14 => ?_)
      · have c_14 : (f14 (i 37).toNatClampNeg) ≤ j3_L4 := c_14
        refine lv_iconst (v := (-1)) hx hb dX7_named_42 (by decide +kernel) ?_
        exact k_ri B hP hD hS dX7_named_43 () [1, 2, 0] rfl rfl rfl (Nat.le_of_ble_eq_true rfl) (Nat.le_of_ble_eq_true rfl) (iR_c (n := (-1)) (by decide +kernel) (by decide +kernel))
      · have c_14 : j3_L4 < (f14 (i 37).toNatClampNeg) := i_nle c_14
        have f_17_2 : iR j3_L4 0 9 := iR_ltL c_14 hj3_L4 (show iR (f14 (i 37).toNatClampNeg) 0 10 from hf14 _) (by decide +kernel)
        have f_17_3 : iR (f14 (i 37).toNatClampNeg) 1 10 := iR_ltR c_14 hj3_L4 (show iR (f14 (i 37).toNatClampNeg) 0 10 from hf14 _) (by decide +kernel)
        refine lv_aload_n hx hb dX7_named_17 rfl (lv_at hl 0 rfl) ?_
        refine lv_aload_n hx hb dX7_named_18 rfl (lv_at hl 0 rfl) ?_
        refine k_get (D := (dC, dI)) (ci := 7) (v := .int (i 37)) (C := RX7) (T := TX7) (N := 92) hx hb hts hinX7 hown hK hP 1 rfl rfl 37 (by decide) w_0 rfl rfl dX7_named_19 ?_
        refine lv_iload_n hx hb dX7_named_22 rfl (lv_at hl 1 rfl) ?_
        refine lv_iload hx hb dX7_named_23 (lv_at hl 3 rfl) ?_
        refine k_cl (wc := [(h, .inr (7, oM r i j)), ((r 34), .inl (cJ, 20, .inr (.inl g34)))]) (wr := [((r 14), .inl (cI, 2, .inl f14))]) (fun hPc hDc hFc => va_runV (As := [.int (i 37), .int 0, .int j3_L4]) (rest := []) ⟨hx, hb, hml, hown, hts⟩ (s_X7_nameOf_v2 l dC dI cI cJ cZ cM h r i j (i 37) j3_L4 g34 f_7_1 f_17_2 hI H.size) (cwV 3 hts gX7_named_X7_nameOf rfl rfl rfl (by decide +kernel) ⟨(Nat.le_of_ble_eq_true rfl), (Nat.le_of_ble_eq_true rfl)⟩) (k_pV hPc hDc hK hN hC hS hFc hP (q0 := 1) (ci := 7) rfl rfl) rfl rfl hl.1 rfl (lv_room (Nat.le_of_ble_eq_true rfl)) dX7_named_25 ⟨(Nat.le_of_ble_eq_true rfl), (Nat.le_of_ble_eq_true rfl)⟩) hP hD hS hA [1, 0] [2] rfl rfl rfl rfl (by decide) (fun _ => rfl) 0 0 rfl rfl (fun r_25 u_25 H locs hw hP hD hS => ?_)
        have hP : va_P (dC, dI) vwCl [((r 14), .inl (cI, 2, .inl f14)), (h, .inr (7, oM r i j)), ((r 34), .inl (cJ, 20, .inr (.inl g34)))] H := hP
        have hD : va_D A [((r 14), .inl (cI, 2, .inl f14)), (h, .inr (7, oM r i j)), ((r 34), .inl (cJ, 20, .inr (.inl g34)))] := hD
        refine lv_lload_n hx hb dX7_named_28 rfl (lv_at hl 2 rfl) ?_
        refine W.lcmp hx hb dX7_named_29 ?_
        refine lv_topi (fun y_29 ey_29 => ?_)
        refine lv_if_ne (tgt := 36) hx hb dX7_named_30 (by decide) (fun c_30 => ?_) (fun c_30 => ?_)
        · have c_30 : ¬ y_29 = 0 := c_30
          have lc_30 : ¬ r_25 = x2 := l_cmpne ey_29 c_30
          obtain ⟨y_36, ey_36⟩ : ∃ y : Int32, y = j3_L4 + 1 := ⟨_, rfl⟩
          refine lv_iinc (v := y_36) (lv' := [(4, .int y_36), (0, .ref h), (1, .int 0), (2, .long x2)]) hx hb dX7_named_36 hl (k := 3) rfl ey_36.symm (by decide) rfl (fun ls hl => ?_)
          have f_36_4 : iR y_36 1 10 := iR_add ey_36 f_17_2 (iR_c (n := 1) (by decide +kernel) (by decide +kernel)) (by decide +kernel)
          refine lv_goto (tgt := 3) hx hb dX7_named_39 (by decide) ?_
          exact ih_3 y_36 (iR_w f_36_4 (by decide +kernel)) (m_up (B := 10) hm_3 ey_36 f_17_2 (by decide +kernel)) H locs ls (hP.sub [1, 0, 2] rfl) (hD.sub [1, 0, 2] (by decide +kernel) rfl) hS (lv_sub hl [1, 2, 3, 0] rfl)
        · have c_30 : y_29 = 0 := c_30
          have f_33_4 : iR y_29 0 0 := iR_eqL c_30 (iR_top _) (iR_c (n := 0) (by decide +kernel) (by decide +kernel)) (by decide +kernel)
          have lc_30 : r_25 = x2 := l_cmpe ey_29 c_30
          refine lv_iload hx hb dX7_named_33 (lv_at hl 3 rfl) ?_
          exact k_ri B hP hD hS dX7_named_35 () [1, 0, 2] rfl rfl rfl (Nat.le_of_ble_eq_true rfl) (Nat.le_of_ble_eq_true rfl) (iR_w f_17_2 (by decide +kernel))
  refine lv_istore (lv' := [(4, .int 0), (0, .ref h), (1, .int 0), (2, .long x2)]) hx hb dX7_named_1 hl (by decide) rfl (fun ls hl => ?_)
  exact J_3 _ 0 (iR_c (n := 0) (by decide +kernel) (by decide +kernel)) (Nat.lt_succ_self _) H locs ls hP hD hS (lv_sub hl [1, 2, 3, 0] rfl)
set_option maxHeartbeats 8000000 in
set_option maxRecDepth 100000 in
theorem s_X7_manyOf_v12 (l : Launch) (dC : Nat → ClassId) (dI : Nat → Nat → Nat) (cI cJ cZ cM : ClassId) (h : Nat) (r : Nat → Nat) (i : Nat → Int32) (j : Nat → Int64) (x1 : Int32) (f18 : Nat → Int32) (hx1 : iR x1 0 1) (hI : mR i) (hf18 : aR f18 0 12) : k_Mi l yX7_manyOf wsX7_manyOf ({ frames := 1, cells := 0, slots := 0, locals := 40 }) (dC, dI) vwCl (tyy cI cJ cZ cM) [(h, .inr (7, oM r i j)), ((r 18), .inl (cI, 2, .inl f18))] [.ref h, .int x1, .int 1] 0 0 (fun (u9 : Unit) => [(h, .inr (7, oM r i j)), ((r 18), .inl (cI, 2, .inl f18))]) (fun (r9 : Int32) (u9 : Unit) => (r9 = (f18 x1.toNatClampNeg))) := by
  refine fun sz => k_enter (cc := cX7_manyOf) (maxL := 3) (ret := some (.int)) (Qc := fun A => va_Qi (fun (r9 : Int32) (u9 : Unit) => (r9 = (f18 x1.toNatClampNeg))) (fun u => k_B (dC, dI) vwCl (tyy cI cJ cZ cM) A ((fun (u9 : Unit) => [(h, .inr (7, oM r i j)), ((r 18), .inl (cI, 2, .inl f18))]) u)) A) sz (by decide +kernel) rfl (Nat.le_of_ble_eq_true rfl) (fun p e s m args below meth c A ls H locs B hP hD hS hl => ?_)
  obtain ⟨hx, hb, hml, hown, hts, hr, hlk, hnm, hK, hA, hN, hC⟩ := id B
  have hown : s.vm.findClass RX7 = some m.cls := hown
  have hl : lv_has ls 3 [(0, .ref h), (1, .int x1), (2, .int 1)] := hl
  have w_0 : (Cond.fieldLink RX7 66 "WishSeaModel" "wishes" "[I").before args s = true := hts _ (List.mem_of_getElem? (i := 2) rfl)
  have hinX7 : ∀ w ∈ u_ws RX7 TX7 92, w ∈ wsX7_manyOf := fun _ h => List.mem_cons_of_mem _ (List.mem_append_right _ h)
  refine lv_iload_n hx hb dX7_manyOf_0 rfl (lv_at hl 2 rfl) ?_
  refine lv_if_ne (tgt := 13) hx hb dX7_manyOf_1 (by decide) (fun _ => ?_) (fun q9 => absurd q9 (by decide +kernel))
  refine lv_aload_n hx hb dX7_manyOf_13 rfl (lv_at hl 0 rfl) ?_
  refine k_get (D := (dC, dI)) (ci := 7) (v := .ref (r 18)) (C := RX7) (T := TX7) (N := 92) hx hb hts hinX7 hown hK hP 0 rfl rfl 18 (by decide) w_0 rfl rfl dX7_manyOf_14 ?_
  refine lv_iload_n hx hb dX7_manyOf_17 rfl (lv_at hl 1 rfl) ?_
  refine va_iald hx hb hK hP 1 0 rfl rfl (iR_vp hx1 (by decide +kernel)) dX7_manyOf_18 ?_
  have f_18_1 : iR (f18 x1.toNatClampNeg) 0 12 := hf18 _
  exact k_ri B hP hD hS dX7_manyOf_19 () [0, 1] rfl rfl rfl (Nat.le_of_ble_eq_true rfl) (Nat.le_of_ble_eq_true rfl) rfl
set_option maxHeartbeats 8000000 in
set_option maxRecDepth 100000 in
theorem s_X7_nameOf_v12 (l : Launch) (dC : Nat → ClassId) (dI : Nat → Nat → Nat) (cI cJ cZ cM : ClassId) (h : Nat) (r : Nat → Nat) (i : Nat → Int32) (j : Nat → Int64) (x1 : Int32) (x3 : Int32) (g35 : Nat → Int64) (hx1 : iR x1 0 1) (hx3 : iR x3 0 11) (hI : mR i) : k_Ml l yX7_nameOf wsX7_nameOf ({ frames := 1, cells := 0, slots := 0, locals := 40 }) (dC, dI) vwCl (tyy cI cJ cZ cM) [(h, .inr (7, oM r i j)), ((r 35), .inl (cJ, 24, .inr (.inl g35)))] [.ref h, .int x1, .int 1, .int x3] 0 0 (fun (u9 : Unit) => [(h, .inr (7, oM r i j)), ((r 35), .inl (cJ, 24, .inr (.inl g35)))]) (fun (r9 : Int64) (u9 : Unit) => True) := by
  refine fun sz => k_enter (cc := cX7_nameOf) (maxL := 4) (ret := some (.long)) (Qc := fun A => va_Ql (fun (r9 : Int64) (u9 : Unit) => True) (fun u => k_B (dC, dI) vwCl (tyy cI cJ cZ cM) A ((fun (u9 : Unit) => [(h, .inr (7, oM r i j)), ((r 35), .inl (cJ, 24, .inr (.inl g35)))]) u)) A) sz (by decide +kernel) rfl (Nat.le_of_ble_eq_true rfl) (fun p e s m args below meth c A ls H locs B hP hD hS hl => ?_)
  obtain ⟨hx, hb, hml, hown, hts, hr, hlk, hnm, hK, hA, hN, hC⟩ := id B
  have hown : s.vm.findClass RX7 = some m.cls := hown
  have hl : lv_has ls 4 [(0, .ref h), (1, .int x1), (2, .int 1), (3, .int x3)] := hl
  have w_0 : (Cond.fieldLink RX7 118 "WishSeaModel" "wishName" "[J").before args s = true := hts _ (List.mem_of_getElem? (i := 2) rfl)
  have hinX7 : ∀ w ∈ u_ws RX7 TX7 92, w ∈ wsX7_nameOf := fun _ h => List.mem_cons_of_mem _ (List.mem_append_right _ h)
  refine lv_iload_n hx hb dX7_nameOf_0 rfl (lv_at hl 2 rfl) ?_
  have J_29 : ∀ (j29_S0 : Int64)  (H : Heap) (locs : List Loc) (ls : Array Slot), va_P (dC, dI) vwCl [(h, .inr (7, oM r i j)), ((r 35), .inl (cJ, 24, .inr (.inl g35)))] H → va_D A [(h, .inr (7, oM r i j)), ((r 35), .inl (cJ, 24, .inr (.inl g35)))] → va_S A s.heap H locs → lv_has ls 4 [] → W p l e ({ frames := 1, cells := 0, slots := 0, locals := 40 }) s m args below meth c H locs 0 0 (MQ below (va_Ql (fun (r9 : Int64) (u9 : Unit) => True) (fun u => k_B (dC, dI) vwCl (tyy cI cJ cZ cM) A ((fun (u9 : Unit) => [(h, .inr (7, oM r i j)), ((r 35), .inl (cJ, 24, .inr (.inl g35)))]) u)) A) args s 0 0 A) (F0 m 29 ls [.long j29_S0]) := by
    intro j29_S0  H locs ls hP hD hS hl
    exact k_rl B hP hD hS dX7_nameOf_29 () [0, 1] rfl rfl (Nat.le_of_ble_eq_true rfl) (Nat.le_of_ble_eq_true rfl) trivial
  refine lv_if_ne (tgt := 18) hx hb dX7_nameOf_1 (by decide) (fun _ => ?_) (fun q9 => absurd q9 (by decide +kernel))
  refine lv_aload_n hx hb dX7_nameOf_18 rfl (lv_at hl 0 rfl) ?_
  refine k_get (D := (dC, dI)) (ci := 7) (v := .ref (r 35)) (C := RX7) (T := TX7) (N := 92) hx hb hts hinX7 hown hK hP 0 rfl rfl 35 (by decide) w_0 rfl rfl dX7_nameOf_19 ?_
  refine lv_bipush (v := 12) hx hb dX7_nameOf_22 (by decide +kernel) ?_
  refine lv_iload_n hx hb dX7_nameOf_24 rfl (lv_at hl 1 rfl) ?_
  refine lv_imul hx hb dX7_nameOf_25 ?_
  refine lv_topi (fun y_25 ey_25 => ?_)
  have f_25_1 : iR y_25 0 12 := iR_mul ey_25 (iR_c (n := 12) (by decide +kernel) (by decide +kernel)) hx1 (by decide +kernel)
  refine lv_iload_n hx hb dX7_nameOf_26 rfl (lv_at hl 3 rfl) ?_
  refine lv_iadd hx hb dX7_nameOf_27 ?_
  refine lv_topi (fun y_27 ey_27 => ?_)
  have f_27_2 : iR y_27 0 23 := iR_add ey_27 f_25_1 hx3 (by decide +kernel)
  refine va_lald hx hb hK hP 1 1 rfl rfl (iR_vp f_27_2 (by decide +kernel)) dX7_nameOf_28 ?_
  exact J_29 (g35 y_27.toNatClampNeg)  H locs ls hP hD hS (lv_sub hl [] rfl)
set_option maxHeartbeats 8000000 in
set_option maxRecDepth 100000 in
theorem s_X7_named_v8 (l : Launch) (dC : Nat → ClassId) (dI : Nat → Nat → Nat) (cI cJ cZ cM : ClassId) (h : Nat) (r : Nat → Nat) (i : Nat → Int32) (j : Nat → Int64) (x2 : Int64) (f18 : Nat → Int32) (g35 : Nat → Int64) (hI : mR i) (hf18 : aR f18 0 12) : k_Mi l yX7_named wsX7_named ({ frames := 2, cells := 0, slots := 0, locals := 63 }) (dC, dI) vwCl (tyy cI cJ cZ cM) [(h, .inr (7, oM r i j)), ((r 18), .inl (cI, 2, .inl f18)), ((r 35), .inl (cJ, 24, .inr (.inl g35)))] [.ref h, .int 1, .long x2] 0 0 (fun (u9 : Unit) => [(h, .inr (7, oM r i j)), ((r 18), .inl (cI, 2, .inl f18)), ((r 35), .inl (cJ, 24, .inr (.inl g35)))]) (fun (r9 : Int32) (u9 : Unit) => (iR r9 (-1) 11)) := by
  refine fun sz => k_enter (cc := cX7_named) (maxL := 5) (ret := some (.int)) (Qc := fun A => va_Qi (fun (r9 : Int32) (u9 : Unit) => (iR r9 (-1) 11)) (fun u => k_B (dC, dI) vwCl (tyy cI cJ cZ cM) A ((fun (u9 : Unit) => [(h, .inr (7, oM r i j)), ((r 18), .inl (cI, 2, .inl f18)), ((r 35), .inl (cJ, 24, .inr (.inl g35)))]) u)) A) sz (by decide +kernel) rfl (Nat.le_of_ble_eq_true rfl) (fun p e s m args below meth c A ls H locs B hP hD hS hl => ?_)
  obtain ⟨hx, hb, hml, hown, hts, hr, hlk, hnm, hK, hA, hN, hC⟩ := id B
  have hown : s.vm.findClass RX7 = some m.cls := hown
  have hl : lv_has ls 5 [(0, .ref h), (1, .int 1), (2, .long x2)] := hl
  have w_0 : (Cond.fieldLink RX7 124 "WishSeaModel" "in" "I").before args s = true := hts _ (List.mem_of_getElem? (i := 1) rfl)
  have hinX7 : ∀ w ∈ u_ws RX7 TX7 92, w ∈ wsX7_named := fun _ h => List.mem_cons_of_mem _ (List.mem_append_right _ h)
  refine lv_iconst (v := 0) hx hb dX7_named_0 (by decide +kernel) ?_
  have J_3 : ∀ (n_3 : Nat) (j3_L4 : Int32) (hj3_L4 : iR j3_L4 0 12) (hm_3 : (12 - j3_L4.toInt).toNat < n_3) (H : Heap) (locs : List Loc) (ls : Array Slot), va_P (dC, dI) vwCl [(h, .inr (7, oM r i j)), ((r 18), .inl (cI, 2, .inl f18)), ((r 35), .inl (cJ, 24, .inr (.inl g35)))] H → va_D A [(h, .inr (7, oM r i j)), ((r 18), .inl (cI, 2, .inl f18)), ((r 35), .inl (cJ, 24, .inr (.inl g35)))] → va_S A s.heap H locs → lv_has ls 5 [(0, .ref h), (1, .int 1), (2, .long x2), (4, .int j3_L4)] → W p l e ({ frames := 2, cells := 0, slots := 0, locals := 63 }) s m args below meth c H locs 0 0 (MQ below (va_Qi (fun (r9 : Int32) (u9 : Unit) => (iR r9 (-1) 11)) (fun u => k_B (dC, dI) vwCl (tyy cI cJ cZ cM) A ((fun (u9 : Unit) => [(h, .inr (7, oM r i j)), ((r 18), .inl (cI, 2, .inl f18)), ((r 35), .inl (cJ, 24, .inr (.inl g35)))]) u)) A) args s 0 0 A) (F0 m 3 ls []) := by
    intro n_3
    induction n_3 with
    | zero => intro j3_L4 hj3_L4 hm_3; exact absurd hm_3 (Nat.not_lt_zero _)
    | succ n_3 ih_3 =>
      intro j3_L4 hj3_L4 hm_3 H locs ls hP hD hS hl
      refine lv_iload hx hb dX7_named_3 (lv_at hl 3 rfl) ?_
      refine lv_aload_n hx hb dX7_named_5 rfl (lv_at hl 0 rfl) ?_
      refine lv_aload_n hx hb dX7_named_6 rfl (lv_at hl 0 rfl) ?_
      have f_7_1 : iR (i 37) 0 1 := hI 37
      refine k_get (D := (dC, dI)) (ci := 7) (v := .int (i 37)) (C := RX7) (T := TX7) (N := 92) hx hb hts hinX7 hown hK hP 0 rfl rfl 37 (by decide) w_0 rfl rfl dX7_named_7 ?_
      refine lv_iload_n hx hb dX7_named_10 rfl (lv_at hl 1 rfl) ?_
      refine k_ci (wc := [(h, .inr (7, oM r i j)), ((r 18), .inl (cI, 2, .inl f18))]) (wr := [((r 35), .inl (cJ, 24, .inr (.inl g35)))]) (fun hPc hDc hFc => va_runV (As := [.int (i 37), .int 1]) (rest := [.int j3_L4]) ⟨hx, hb, hml, hown, hts⟩ (s_X7_manyOf_v5 l dC dI cI cJ cZ cM h r i j (i 37) f18 f_7_1 hI hf18 H.size) (cwV 2 hts gX7_named_X7_manyOf rfl rfl rfl (by decide +kernel) ⟨(Nat.le_of_ble_eq_true rfl), (Nat.le_of_ble_eq_true rfl)⟩) (k_pV hPc hDc hK hN hC hS hFc hP (q0 := 0) (ci := 7) rfl rfl) rfl rfl hl.1 rfl (lv_room (Nat.le_of_ble_eq_true rfl)) dX7_named_11 ⟨(Nat.le_of_ble_eq_true rfl), (Nat.le_of_ble_eq_true rfl)⟩) hP hD hS hA [0, 1] [2] rfl rfl rfl rfl (by decide) (fun _ => rfl) 0 0 rfl rfl (fun r_11 u_11 H locs hw hP hD hS => ?_)
      obtain g_11_0 := hw
      obtain rfl : r_11 = (f18 (i 37).toNatClampNeg) := g_11_0
      have hP : va_P (dC, dI) vwCl [((r 35), .inl (cJ, 24, .inr (.inl g35))), (h, .inr (7, oM r i j)), ((r 18), .inl (cI, 2, .inl f18))] H := hP
      have hD : va_D A [((r 35), .inl (cJ, 24, .inr (.inl g35))), (h, .inr (7, oM r i j)), ((r 18), .inl (cI, 2, .inl f18))] := hD
      refine lv_icmp_ge (tgt := 42) hx hb dX7_named_14 (by decide) (fun c_14 => ?_) (fun c_14 => ?_)
      · have c_14 : (f18 (i 37).toNatClampNeg) ≤ j3_L4 := c_14
        refine lv_iconst (v := (-1)) hx hb dX7_named_42 (by decide +kernel) ?_
        exact k_ri B hP hD hS dX7_named_43 () [1, 2, 0] rfl rfl rfl (Nat.le_of_ble_eq_true rfl) (Nat.le_of_ble_eq_true rfl) (iR_c (n := (-1)) (by decide +kernel) (by decide +kernel))
      · have c_14 : j3_L4 < (f18 (i 37).toNatClampNeg) := i_nle c_14
        have f_17_2 : iR j3_L4 0 11 := iR_ltL c_14 hj3_L4 (show iR (f18 (i 37).toNatClampNeg) 0 12 from hf18 _) (by decide +kernel)
        have f_17_3 : iR (f18 (i 37).toNatClampNeg) 1 12 := iR_ltR c_14 hj3_L4 (show iR (f18 (i 37).toNatClampNeg) 0 12 from hf18 _) (by decide +kernel)
        refine lv_aload_n hx hb dX7_named_17 rfl (lv_at hl 0 rfl) ?_
        refine lv_aload_n hx hb dX7_named_18 rfl (lv_at hl 0 rfl) ?_
        refine k_get (D := (dC, dI)) (ci := 7) (v := .int (i 37)) (C := RX7) (T := TX7) (N := 92) hx hb hts hinX7 hown hK hP 1 rfl rfl 37 (by decide) w_0 rfl rfl dX7_named_19 ?_
        refine lv_iload_n hx hb dX7_named_22 rfl (lv_at hl 1 rfl) ?_
        refine lv_iload hx hb dX7_named_23 (lv_at hl 3 rfl) ?_
        refine k_cl (wc := [(h, .inr (7, oM r i j)), ((r 35), .inl (cJ, 24, .inr (.inl g35)))]) (wr := [((r 18), .inl (cI, 2, .inl f18))]) (fun hPc hDc hFc => va_runV (As := [.int (i 37), .int 1, .int j3_L4]) (rest := []) ⟨hx, hb, hml, hown, hts⟩ (s_X7_nameOf_v5 l dC dI cI cJ cZ cM h r i j (i 37) j3_L4 g35 f_7_1 f_17_2 hI H.size) (cwV 3 hts gX7_named_X7_nameOf rfl rfl rfl (by decide +kernel) ⟨(Nat.le_of_ble_eq_true rfl), (Nat.le_of_ble_eq_true rfl)⟩) (k_pV hPc hDc hK hN hC hS hFc hP (q0 := 1) (ci := 7) rfl rfl) rfl rfl hl.1 rfl (lv_room (Nat.le_of_ble_eq_true rfl)) dX7_named_25 ⟨(Nat.le_of_ble_eq_true rfl), (Nat.le_of_ble_eq_true rfl)⟩) hP hD hS hA [1, 0] [2] rfl rfl rfl rfl (by decide) (fun _ => rfl) 0 0 rfl rfl (fun r_25 u_25 H locs hw hP hD hS => ?_)
        have hP : va_P (dC, dI) vwCl [((r 18), .inl (cI, 2, .inl f18)), (h, .inr (7, oM r i j)), ((r 35), .inl (cJ, 24, .inr (.inl g35)))] H := hP
        have hD : va_D A [((r 18), .inl (cI, 2, .inl f18)), (h, .inr (7, oM r i j)), ((r 35), .inl (cJ, 24, .inr (.inl g35)))] := hD
        refine lv_lload_n hx hb dX7_named_28 rfl (lv_at hl 2 rfl) ?_
        refine W.lcmp hx hb dX7_named_29 ?_
        refine lv_topi (fun y_29 ey_29 => ?_)
        refine lv_if_ne (tgt := 36) hx hb dX7_named_30 (by decide) (fun c_30 => ?_) (fun c_30 => ?_)
        · have c_30 : ¬ y_29 = 0 := c_30
          have lc_30 : ¬ r_25 = x2 := l_cmpne ey_29 c_30
          obtain ⟨y_36, ey_36⟩ : ∃ y : Int32, y = j3_L4 + 1 := ⟨_, rfl⟩
          refine lv_iinc (v := y_36) (lv' := [(4, .int y_36), (0, .ref h), (1, .int 1), (2, .long x2)]) hx hb dX7_named_36 hl (k := 3) rfl ey_36.symm (by decide) rfl (fun ls hl => ?_)
          have f_36_4 : iR y_36 1 12 := iR_add ey_36 f_17_2 (iR_c (n := 1) (by decide +kernel) (by decide +kernel)) (by decide +kernel)
          refine lv_goto (tgt := 3) hx hb dX7_named_39 (by decide) ?_
          exact ih_3 y_36 (iR_w f_36_4 (by decide +kernel)) (m_up (B := 12) hm_3 ey_36 f_17_2 (by decide +kernel)) H locs ls (hP.sub [1, 0, 2] rfl) (hD.sub [1, 0, 2] (by decide +kernel) rfl) hS (lv_sub hl [1, 2, 3, 0] rfl)
        · have c_30 : y_29 = 0 := c_30
          have f_33_4 : iR y_29 0 0 := iR_eqL c_30 (iR_top _) (iR_c (n := 0) (by decide +kernel) (by decide +kernel)) (by decide +kernel)
          have lc_30 : r_25 = x2 := l_cmpe ey_29 c_30
          refine lv_iload hx hb dX7_named_33 (lv_at hl 3 rfl) ?_
          exact k_ri B hP hD hS dX7_named_35 () [1, 0, 2] rfl rfl rfl (Nat.le_of_ble_eq_true rfl) (Nat.le_of_ble_eq_true rfl) (iR_w f_17_2 (by decide +kernel))
  refine lv_istore (lv' := [(4, .int 0), (0, .ref h), (1, .int 1), (2, .long x2)]) hx hb dX7_named_1 hl (by decide) rfl (fun ls hl => ?_)
  exact J_3 _ 0 (iR_c (n := 0) (by decide +kernel) (by decide +kernel)) (Nat.lt_succ_self _) H locs ls hP hD hS (lv_sub hl [1, 2, 3, 0] rfl)
set_option maxHeartbeats 8000000 in
set_option maxRecDepth 100000 in
theorem s_X7_fresh_v1 (l : Launch) (dC : Nat → ClassId) (dI : Nat → Nat → Nat) (cI cJ cZ cM : ClassId) (h : Nat) (r : Nat → Nat) (i : Nat → Int32) (j : Nat → Int64) (f0 : Nat → Int32) (f14 : Nat → Int32) (f18 : Nat → Int32) (g34 : Nat → Int64) (g35 : Nat → Int64) (hI : mR i) (hf0 : aR f0 0 255) (hf14 : aR f14 0 10) (hf18 : aR f18 0 12) : k_Ml l yX7_fresh wsX7_fresh ({ frames := 3, cells := 0, slots := 0, locals := 87 }) (dC, dI) vwCl (tyy cI cJ cZ cM) [(h, .inr (7, oM r i j)), ((r 0), .inl (cI, 1800, .inl f0)), ((r 14), .inl (cI, 2, .inl f14)), ((r 18), .inl (cI, 2, .inl f18)), ((r 34), .inl (cJ, 20, .inr (.inl g34))), ((r 35), .inl (cJ, 24, .inr (.inl g35)))] [.ref h] 0 0 (fun (u9 : SU) => [(h, .inr (7, oM r (upd (upd (upd (upd (upd (upd (upd i 3 (u9.1 0)) 4 (u9.1 1)) 5 (u9.1 2)) 6 (u9.1 3)) 8 (u9.1 4)) 9 (u9.1 5)) 12 (u9.1 6)) (vp_updL j 7 (u9.2.1 0)))), ((r 0), .inl (cI, 1800, .inl f0)), ((r 14), .inl (cI, 2, .inl f14)), ((r 18), .inl (cI, 2, .inl f18)), ((r 34), .inl (cJ, 20, .inr (.inl g34))), ((r 35), .inl (cJ, 24, .inr (.inl g35)))]) (fun (r9 : Int64) (u9 : SU) => (iR (u9.1 0) 0 3) ∧ (iR (u9.1 1) 0 1600) ∧ (iR (u9.1 2) 0 1600) ∧ (iR (u9.1 4) 0 6)) := by
  refine fun sz => k_enter (cc := cX7_fresh) (maxL := 3) (ret := some (.long)) (Qc := fun A => va_Ql (fun (r9 : Int64) (u9 : SU) => (iR (u9.1 0) 0 3) ∧ (iR (u9.1 1) 0 1600) ∧ (iR (u9.1 2) 0 1600) ∧ (iR (u9.1 4) 0 6)) (fun u => k_B (dC, dI) vwCl (tyy cI cJ cZ cM) A ((fun (u9 : SU) => [(h, .inr (7, oM r (upd (upd (upd (upd (upd (upd (upd i 3 (u9.1 0)) 4 (u9.1 1)) 5 (u9.1 2)) 6 (u9.1 3)) 8 (u9.1 4)) 9 (u9.1 5)) 12 (u9.1 6)) (vp_updL j 7 (u9.2.1 0)))), ((r 0), .inl (cI, 1800, .inl f0)), ((r 14), .inl (cI, 2, .inl f14)), ((r 18), .inl (cI, 2, .inl f18)), ((r 34), .inl (cJ, 20, .inr (.inl g34))), ((r 35), .inl (cJ, 24, .inr (.inl g35)))]) u)) A) sz (by decide +kernel) rfl (Nat.le_of_ble_eq_true rfl) (fun p e s m args below meth c A ls H locs B hP hD hS hl => ?_)
  obtain ⟨hx, hb, hml, hown, hts, hr, hlk, hnm, hK, hA, hN, hC⟩ := id B
  have hown : s.vm.findClass RX7 = some m.cls := hown
  have hl : lv_has ls 3 [(0, .ref h)] := hl
  have w_0 : (Cond.fieldLink RX7 36 "WishSeaModel" "faultKind" "I").before args s = true := hts _ (List.mem_of_getElem? (i := 1) rfl)
  have w_1 : (Cond.fieldLink RX7 20 "WishSeaModel" "sign" "I").before args s = true := hts _ (List.mem_of_getElem? (i := 2) rfl)
  have w_2 : (Cond.fieldLink RX7 32 "WishSeaModel" "word" "J").before args s = true := hts _ (List.mem_of_getElem? (i := 3) rfl)
  have w_3 : (Cond.fieldLink RX7 23 "WishSeaModel" "signAt" "I").before args s = true := hts _ (List.mem_of_getElem? (i := 4) rfl)
  have hinX7 : ∀ w ∈ u_ws RX7 TX7 92, w ∈ wsX7_fresh := fun _ h => List.mem_cons_of_mem _ (List.mem_append_right _ h)
  refine lv_aload_n hx hb dX7_fresh_0 rfl (lv_at hl 0 rfl) ?_
  refine k_cv (wc := [(h, .inr (7, oM r i j))]) (wr := [((r 0), .inl (cI, 1800, .inl f0)), ((r 14), .inl (cI, 2, .inl f14)), ((r 18), .inl (cI, 2, .inl f18)), ((r 34), .inl (cJ, 20, .inr (.inl g34))), ((r 35), .inl (cJ, 24, .inr (.inl g35)))]) (fun hPc hDc hFc => va_runV (As := []) (rest := []) ⟨hx, hb, hml, hown, hts⟩ (s_X7_lex_v5 l dC dI cI cJ cZ cM h r i j hI H.size) (cwV 0 hts gX7_fresh_X7_lex rfl rfl rfl (by decide +kernel) ⟨(Nat.le_of_ble_eq_true rfl), (Nat.le_of_ble_eq_true rfl)⟩) (k_pV hPc hDc hK hN hC hS hFc hP (q0 := 0) (ci := 7) rfl rfl) rfl rfl hl.1 rfl (lv_room (Nat.le_of_ble_eq_true rfl)) dX7_fresh_1 ⟨(Nat.le_of_ble_eq_true rfl), (Nat.le_of_ble_eq_true rfl)⟩) hP hD hS hA [0] [1, 2, 3, 4, 5] rfl rfl rfl rfl (by decide) (fun _ => rfl) 0 0 rfl rfl (fun u_1 H locs hw hP hD hS => ?_)
  obtain g_1_0 := hw
  have hP : va_P (dC, dI) vwCl [((r 0), .inl (cI, 1800, .inl f0)), ((r 14), .inl (cI, 2, .inl f14)), ((r 18), .inl (cI, 2, .inl f18)), ((r 34), .inl (cJ, 20, .inr (.inl g34))), ((r 35), .inl (cJ, 24, .inr (.inl g35))), (h, .inr (7, oM r (upd (upd i 8 (u_1.1 0)) 9 (u_1.1 1)) j))] H := hP
  have hD : va_D A [((r 0), .inl (cI, 1800, .inl f0)), ((r 14), .inl (cI, 2, .inl f14)), ((r 18), .inl (cI, 2, .inl f18)), ((r 34), .inl (cJ, 20, .inr (.inl g34))), ((r 35), .inl (cJ, 24, .inr (.inl g35))), (h, .inr (7, oM r (upd (upd i 8 (u_1.1 0)) 9 (u_1.1 1)) j))] := hD
  refine lv_aload_n hx hb dX7_fresh_4 rfl (lv_at hl 0 rfl) ?_
  refine k_get (D := (dC, dI)) (ci := 7) (v := .int (u_1.1 0)) (C := RX7) (T := TX7) (N := 92) hx hb hts hinX7 hown hK hP 5 rfl rfl 8 (by decide) w_0 rfl rfl dX7_fresh_5 ?_
  refine lv_if_le (tgt := 13) hx hb dX7_fresh_8 (by decide) (fun c_8 => ?_) (fun c_8 => ?_)
  · have c_8 : (u_1.1 0) ≤ 0 := c_8
    have f_13_1 : iR (u_1.1 0) 0 0 := iR_leL c_8 g_1_0 (iR_c (n := 0) (by decide +kernel) (by decide +kernel)) (by decide +kernel)
    refine lv_aload_n hx hb dX7_fresh_13 rfl (lv_at hl 0 rfl) ?_
    have f_14_2 : iR (i 3) 0 3 := hI 3
    refine k_get (D := (dC, dI)) (ci := 7) (v := .int (i 3)) (C := RX7) (T := TX7) (N := 92) hx hb hts hinX7 hown hK hP 5 rfl rfl 3 (by decide) w_1 rfl rfl dX7_fresh_14 ?_
    refine lv_iconst (v := 1) hx hb dX7_fresh_17 (by decide +kernel) ?_
    have J_41 : ∀ (j41_M0_8 : Int32) (j41_M0_9 : Int32) (hj41_M0_8 : iR j41_M0_8 0 6) (H : Heap) (locs : List Loc) (ls : Array Slot), va_P (dC, dI) vwCl [(h, .inr (7, oM r (upd (upd i 8 j41_M0_8) 9 j41_M0_9) j)), ((r 0), .inl (cI, 1800, .inl f0)), ((r 14), .inl (cI, 2, .inl f14)), ((r 18), .inl (cI, 2, .inl f18)), ((r 34), .inl (cJ, 20, .inr (.inl g34))), ((r 35), .inl (cJ, 24, .inr (.inl g35)))] H → va_D A [(h, .inr (7, oM r (upd (upd i 8 j41_M0_8) 9 j41_M0_9) j)), ((r 0), .inl (cI, 1800, .inl f0)), ((r 14), .inl (cI, 2, .inl f14)), ((r 18), .inl (cI, 2, .inl f18)), ((r 34), .inl (cJ, 20, .inr (.inl g34))), ((r 35), .inl (cJ, 24, .inr (.inl g35)))] → va_S A s.heap H locs → lv_has ls 3 [(0, .ref h)] → W p l e ({ frames := 3, cells := 0, slots := 0, locals := 87 }) s m args below meth c H locs 0 0 (MQ below (va_Ql (fun (r9 : Int64) (u9 : SU) => (iR (u9.1 0) 0 3) ∧ (iR (u9.1 1) 0 1600) ∧ (iR (u9.1 2) 0 1600) ∧ (iR (u9.1 4) 0 6)) (fun u => k_B (dC, dI) vwCl (tyy cI cJ cZ cM) A ((fun (u9 : SU) => [(h, .inr (7, oM r (upd (upd (upd (upd (upd (upd (upd i 3 (u9.1 0)) 4 (u9.1 1)) 5 (u9.1 2)) 6 (u9.1 3)) 8 (u9.1 4)) 9 (u9.1 5)) 12 (u9.1 6)) (vp_updL j 7 (u9.2.1 0)))), ((r 0), .inl (cI, 1800, .inl f0)), ((r 14), .inl (cI, 2, .inl f14)), ((r 18), .inl (cI, 2, .inl f18)), ((r 34), .inl (cJ, 20, .inr (.inl g34))), ((r 35), .inl (cJ, 24, .inr (.inl g35)))]) u)) A) args s 0 0 A) (F0 m 41 ls []) := by
      intro j41_M0_8 j41_M0_9 hj41_M0_8 H locs ls hP hD hS hl
      refine lv_iconst (v := 0) hx hb dX7_fresh_41 (by decide +kernel) ?_
      refine lv_istore_n (lv' := [(1, .int 0), (0, .ref h)]) hx hb dX7_fresh_42 rfl hl (by decide) rfl (fun ls hl => ?_)
      refine lv_iload_n hx hb dX7_fresh_43 rfl (lv_at hl 0 rfl) ?_
      refine lv_iconst (v := 1) hx hb dX7_fresh_44 (by decide +kernel) ?_
      have J_83p42 : ∀  (k83p42_0 : iR j41_M0_8 1 6) (q83p42_0 : ¬ j41_M0_8 = 0) (H : Heap) (locs : List Loc) (ls : Array Slot), va_P (dC, dI) vwCl [(h, .inr (7, oM r (upd (upd i 8 j41_M0_8) 9 j41_M0_9) j)), ((r 0), .inl (cI, 1800, .inl f0)), ((r 14), .inl (cI, 2, .inl f14)), ((r 18), .inl (cI, 2, .inl f18)), ((r 34), .inl (cJ, 20, .inr (.inl g34))), ((r 35), .inl (cJ, 24, .inr (.inl g35)))] H → va_D A [(h, .inr (7, oM r (upd (upd i 8 j41_M0_8) 9 j41_M0_9) j)), ((r 0), .inl (cI, 1800, .inl f0)), ((r 14), .inl (cI, 2, .inl f14)), ((r 18), .inl (cI, 2, .inl f18)), ((r 34), .inl (cJ, 20, .inr (.inl g34))), ((r 35), .inl (cJ, 24, .inr (.inl g35)))] → va_S A s.heap H locs → lv_has ls 3 [(0, .ref h)] → W p l e ({ frames := 3, cells := 0, slots := 0, locals := 87 }) s m args below meth c H locs 0 0 (MQ below (va_Ql (fun (r9 : Int64) (u9 : SU) => (iR (u9.1 0) 0 3) ∧ (iR (u9.1 1) 0 1600) ∧ (iR (u9.1 2) 0 1600) ∧ (iR (u9.1 4) 0 6)) (fun u => k_B (dC, dI) vwCl (tyy cI cJ cZ cM) A ((fun (u9 : SU) => [(h, .inr (7, oM r (upd (upd (upd (upd (upd (upd (upd i 3 (u9.1 0)) 4 (u9.1 1)) 5 (u9.1 2)) 6 (u9.1 3)) 8 (u9.1 4)) 9 (u9.1 5)) 12 (u9.1 6)) (vp_updL j 7 (u9.2.1 0)))), ((r 0), .inl (cI, 1800, .inl f0)), ((r 14), .inl (cI, 2, .inl f14)), ((r 18), .inl (cI, 2, .inl f18)), ((r 34), .inl (cJ, 20, .inr (.inl g34))), ((r 35), .inl (cJ, 24, .inr (.inl g35)))]) u)) A) args s 0 0 A) (F0 m 83 ls []) := by
        intro  k83p42_0 q83p42_0 H locs ls hP hD hS hl
        refine lv_aload_n hx hb dX7_fresh_83 rfl (lv_at hl 0 rfl) ?_
        refine k_get (D := (dC, dI)) (ci := 7) (v := .long (j 7)) (C := RX7) (T := TX7) (N := 92) hx hb hts hinX7 hown hK hP 0 rfl rfl 7 (by decide) w_2 rfl rfl dX7_fresh_84 ?_
        refine lv_lstore_n (lv' := [(1, .long (j 7)), (0, .ref h)]) hx hb dX7_fresh_87 rfl hl (by decide) rfl (fun ls hl => ?_)
        refine lv_aload_n hx hb dX7_fresh_88 rfl (lv_at hl 1 rfl) ?_
        refine k_get (D := (dC, dI)) (ci := 7) (v := .int j41_M0_8) (C := RX7) (T := TX7) (N := 92) hx hb hts hinX7 hown hK hP 0 rfl rfl 8 (by decide) w_0 rfl rfl dX7_fresh_89 ?_
        have J_99p42 : ∀   (H : Heap) (locs : List Loc) (ls : Array Slot), va_P (dC, dI) vwCl [(h, .inr (7, oM r (upd (upd i 8 j41_M0_8) 9 j41_M0_9) j)), ((r 0), .inl (cI, 1800, .inl f0)), ((r 14), .inl (cI, 2, .inl f14)), ((r 18), .inl (cI, 2, .inl f18)), ((r 34), .inl (cJ, 20, .inr (.inl g34))), ((r 35), .inl (cJ, 24, .inr (.inl g35)))] H → va_D A [(h, .inr (7, oM r (upd (upd i 8 j41_M0_8) 9 j41_M0_9) j)), ((r 0), .inl (cI, 1800, .inl f0)), ((r 14), .inl (cI, 2, .inl f14)), ((r 18), .inl (cI, 2, .inl f18)), ((r 34), .inl (cJ, 20, .inr (.inl g34))), ((r 35), .inl (cJ, 24, .inr (.inl g35)))] → va_S A s.heap H locs → lv_has ls 3 [(1, .long (j 7))] → W p l e ({ frames := 3, cells := 0, slots := 0, locals := 87 }) s m args below meth c H locs 0 0 (MQ below (va_Ql (fun (r9 : Int64) (u9 : SU) => (iR (u9.1 0) 0 3) ∧ (iR (u9.1 1) 0 1600) ∧ (iR (u9.1 2) 0 1600) ∧ (iR (u9.1 4) 0 6)) (fun u => k_B (dC, dI) vwCl (tyy cI cJ cZ cM) A ((fun (u9 : SU) => [(h, .inr (7, oM r (upd (upd (upd (upd (upd (upd (upd i 3 (u9.1 0)) 4 (u9.1 1)) 5 (u9.1 2)) 6 (u9.1 3)) 8 (u9.1 4)) 9 (u9.1 5)) 12 (u9.1 6)) (vp_updL j 7 (u9.2.1 0)))), ((r 0), .inl (cI, 1800, .inl f0)), ((r 14), .inl (cI, 2, .inl f14)), ((r 18), .inl (cI, 2, .inl f18)), ((r 34), .inl (cJ, 20, .inr (.inl g34))), ((r 35), .inl (cJ, 24, .inr (.inl g35)))]) u)) A) args s 0 0 A) (F0 m 99 ls []) := by
          intro   H locs ls hP hD hS hl
          refine lv_lload_n hx hb dX7_fresh_99 rfl (lv_at hl 0 rfl) ?_
          exact k_rl B hP hD hS dX7_fresh_100 ((fun k9 => match k9 with | 0 => (i 3) | 1 => (i 4) | 2 => (i 5) | 3 => (i 6) | 4 => j41_M0_8 | 5 => j41_M0_9 | 6 => (i 12) | _ => 0), (fun k9 => match k9 with | 0 => (j 7) | _ => 0), (fun _ => (fun _ => 0)), (fun _ => (fun _ => 0)), (fun _ => 0)) [0, 1, 2, 3, 4, 5] rfl rfl (Nat.le_of_ble_eq_true rfl) (Nat.le_of_ble_eq_true rfl) ⟨f_14_2, (hI 4), (hI 5), (iR_w k83p42_0 (by decide +kernel))⟩
        refine lv_if_ne (tgt := 99) hx hb dX7_fresh_92 (by decide) (fun c_92p42 => ?_) (fun c_92p42 => ?_)
        · have c_92p42 : ¬ j41_M0_8 = 0 := c_92p42
          exact J_99p42   H locs ls hP hD hS (lv_sub hl [0] rfl)
        · exact iR_cl (iR_eqL (a' := 1) (b' := 0) c_92p42 k83p42_0 (iR_c (n := 0) (by decide +kernel) (by decide +kernel)) (by decide +kernel)) (by decide +kernel)
      refine lv_icmp_gt (tgt := 83) hx hb dX7_fresh_45 (by decide) (fun q9 => absurd q9 (by decide +kernel)) (fun _ => ?_)
      refine lv_aload_n hx hb dX7_fresh_48 rfl (lv_at hl 1 rfl) ?_
      refine k_get (D := (dC, dI)) (ci := 7) (v := .int j41_M0_8) (C := RX7) (T := TX7) (N := 92) hx hb hts hinX7 hown hK hP 0 rfl rfl 8 (by decide) w_0 rfl rfl dX7_fresh_49 ?_
      refine lv_if_ne (tgt := 83) hx hb dX7_fresh_52 (by decide) (fun c_52p42 => ?_) (fun c_52p42 => ?_)
      · have c_52p42 : ¬ j41_M0_8 = 0 := c_52p42
        have f_83p42_1 : iR j41_M0_8 1 6 := iR_neL c_52p42 hj41_M0_8 (iR_c (n := 0) (by decide +kernel) (by decide +kernel)) (by decide +kernel)
        exact J_83p42  f_83p42_1 c_52p42 H locs ls hP hD hS (lv_sub hl [1] rfl)
      · have c_52p42 : j41_M0_8 = 0 := c_52p42
        have f_55p42_1 : iR j41_M0_8 0 0 := iR_eqL c_52p42 hj41_M0_8 (iR_c (n := 0) (by decide +kernel) (by decide +kernel)) (by decide +kernel)
        refine lv_aload_n hx hb dX7_fresh_55 rfl (lv_at hl 1 rfl) ?_
        refine lv_iload_n hx hb dX7_fresh_56 rfl (lv_at hl 0 rfl) ?_
        refine lv_aload_n hx hb dX7_fresh_57 rfl (lv_at hl 1 rfl) ?_
        refine k_get (D := (dC, dI)) (ci := 7) (v := .long (j 7)) (C := RX7) (T := TX7) (N := 92) hx hb hts hinX7 hown hK hP 0 rfl rfl 7 (by decide) w_2 rfl rfl dX7_fresh_58 ?_
        refine k_ci (wc := [(h, .inr (7, oM r (upd (upd i 8 j41_M0_8) 9 j41_M0_9) j)), ((r 14), .inl (cI, 2, .inl f14)), ((r 34), .inl (cJ, 20, .inr (.inl g34)))]) (wr := [((r 0), .inl (cI, 1800, .inl f0)), ((r 18), .inl (cI, 2, .inl f18)), ((r 35), .inl (cJ, 24, .inr (.inl g35)))]) (fun hPc hDc hFc => va_runV (As := [.int 0, .long (j 7)]) (rest := []) ⟨hx, hb, hml, hown, hts⟩ (s_X7_named_v4 l dC dI cI cJ cZ cM h r (upd (upd i 8 j41_M0_8) 9 j41_M0_9) j (j 7) f14 g34 (mR_upd 9 (mR_upd 8 hI (show iR _ (loI 8) (hiI 8) from (iR_w f_55p42_1 (by decide +kernel)))) (show iR _ (loI 9) (hiI 9) from (iR_top _))) hf14 H.size) (cwV 2 hts gX7_fresh_X7_named rfl rfl rfl (by decide +kernel) ⟨(Nat.le_of_ble_eq_true rfl), (Nat.le_of_ble_eq_true rfl)⟩) (k_pV hPc hDc hK hN hC hS hFc hP (q0 := 0) (ci := 7) rfl rfl) rfl rfl hl.1 rfl (lv_room (Nat.le_of_ble_eq_true rfl)) dX7_fresh_61 ⟨(Nat.le_of_ble_eq_true rfl), (Nat.le_of_ble_eq_true rfl)⟩) hP hD hS hA [0, 2, 4] [1, 3, 5] rfl rfl rfl rfl (by decide) (fun _ => rfl) 0 0 rfl rfl (fun r_61p42 u_61p42 H locs hw hP hD hS => ?_)
        obtain g_61p42_0 := hw
        have hP : va_P (dC, dI) vwCl [((r 0), .inl (cI, 1800, .inl f0)), ((r 18), .inl (cI, 2, .inl f18)), ((r 35), .inl (cJ, 24, .inr (.inl g35))), (h, .inr (7, oM r (upd (upd i 8 j41_M0_8) 9 j41_M0_9) j)), ((r 14), .inl (cI, 2, .inl f14)), ((r 34), .inl (cJ, 20, .inr (.inl g34)))] H := hP
        have hD : va_D A [((r 0), .inl (cI, 1800, .inl f0)), ((r 18), .inl (cI, 2, .inl f18)), ((r 35), .inl (cJ, 24, .inr (.inl g35))), (h, .inr (7, oM r (upd (upd i 8 j41_M0_8) 9 j41_M0_9) j)), ((r 14), .inl (cI, 2, .inl f14)), ((r 34), .inl (cJ, 20, .inr (.inl g34)))] := hD
        refine lv_iconst (v := (-1)) hx hb dX7_fresh_64 (by decide +kernel) ?_
        have J_77p42 : ∀ (j77p42_M0_8 : Int32) (j77p42_M0_9 : Int32) (hj77p42_M0_8 : iR j77p42_M0_8 0 6) (H : Heap) (locs : List Loc) (ls : Array Slot), va_P (dC, dI) vwCl [(h, .inr (7, oM r (upd (upd i 8 j77p42_M0_8) 9 j77p42_M0_9) j)), ((r 0), .inl (cI, 1800, .inl f0)), ((r 14), .inl (cI, 2, .inl f14)), ((r 18), .inl (cI, 2, .inl f18)), ((r 34), .inl (cJ, 20, .inr (.inl g34))), ((r 35), .inl (cJ, 24, .inr (.inl g35)))] H → va_D A [(h, .inr (7, oM r (upd (upd i 8 j77p42_M0_8) 9 j77p42_M0_9) j)), ((r 0), .inl (cI, 1800, .inl f0)), ((r 14), .inl (cI, 2, .inl f14)), ((r 18), .inl (cI, 2, .inl f18)), ((r 34), .inl (cJ, 20, .inr (.inl g34))), ((r 35), .inl (cJ, 24, .inr (.inl g35)))] → va_S A s.heap H locs → lv_has ls 3 [(0, .ref h), (1, .int 0)] → W p l e ({ frames := 3, cells := 0, slots := 0, locals := 87 }) s m args below meth c H locs 0 0 (MQ below (va_Ql (fun (r9 : Int64) (u9 : SU) => (iR (u9.1 0) 0 3) ∧ (iR (u9.1 1) 0 1600) ∧ (iR (u9.1 2) 0 1600) ∧ (iR (u9.1 4) 0 6)) (fun u => k_B (dC, dI) vwCl (tyy cI cJ cZ cM) A ((fun (u9 : SU) => [(h, .inr (7, oM r (upd (upd (upd (upd (upd (upd (upd i 3 (u9.1 0)) 4 (u9.1 1)) 5 (u9.1 2)) 6 (u9.1 3)) 8 (u9.1 4)) 9 (u9.1 5)) 12 (u9.1 6)) (vp_updL j 7 (u9.2.1 0)))), ((r 0), .inl (cI, 1800, .inl f0)), ((r 14), .inl (cI, 2, .inl f14)), ((r 18), .inl (cI, 2, .inl f18)), ((r 34), .inl (cJ, 20, .inr (.inl g34))), ((r 35), .inl (cJ, 24, .inr (.inl g35)))]) u)) A) args s 0 0 A) (F0 m 77 ls []) := by
          intro j77p42_M0_8 j77p42_M0_9 hj77p42_M0_8 H locs ls hP hD hS hl
          refine lv_iinc (v := 1) (lv' := [(1, .int 1), (0, .ref h)]) hx hb dX7_fresh_77 hl (k := 1) rfl (by decide +kernel) (by decide) rfl (fun ls hl => ?_)
          refine lv_goto (tgt := 43) hx hb dX7_fresh_80 (by decide) ?_
          refine lv_iload_n hx hb dX7_fresh_43 rfl (lv_at hl 0 rfl) ?_
          refine lv_iconst (v := 1) hx hb dX7_fresh_44 (by decide +kernel) ?_
          have J_83p42p80 : ∀  (k83p42p80_0 : iR j77p42_M0_8 1 6) (q83p42p80_0 : ¬ j77p42_M0_8 = 0) (H : Heap) (locs : List Loc) (ls : Array Slot), va_P (dC, dI) vwCl [(h, .inr (7, oM r (upd (upd i 8 j77p42_M0_8) 9 j77p42_M0_9) j)), ((r 0), .inl (cI, 1800, .inl f0)), ((r 14), .inl (cI, 2, .inl f14)), ((r 18), .inl (cI, 2, .inl f18)), ((r 34), .inl (cJ, 20, .inr (.inl g34))), ((r 35), .inl (cJ, 24, .inr (.inl g35)))] H → va_D A [(h, .inr (7, oM r (upd (upd i 8 j77p42_M0_8) 9 j77p42_M0_9) j)), ((r 0), .inl (cI, 1800, .inl f0)), ((r 14), .inl (cI, 2, .inl f14)), ((r 18), .inl (cI, 2, .inl f18)), ((r 34), .inl (cJ, 20, .inr (.inl g34))), ((r 35), .inl (cJ, 24, .inr (.inl g35)))] → va_S A s.heap H locs → lv_has ls 3 [(0, .ref h)] → W p l e ({ frames := 3, cells := 0, slots := 0, locals := 87 }) s m args below meth c H locs 0 0 (MQ below (va_Ql (fun (r9 : Int64) (u9 : SU) => (iR (u9.1 0) 0 3) ∧ (iR (u9.1 1) 0 1600) ∧ (iR (u9.1 2) 0 1600) ∧ (iR (u9.1 4) 0 6)) (fun u => k_B (dC, dI) vwCl (tyy cI cJ cZ cM) A ((fun (u9 : SU) => [(h, .inr (7, oM r (upd (upd (upd (upd (upd (upd (upd i 3 (u9.1 0)) 4 (u9.1 1)) 5 (u9.1 2)) 6 (u9.1 3)) 8 (u9.1 4)) 9 (u9.1 5)) 12 (u9.1 6)) (vp_updL j 7 (u9.2.1 0)))), ((r 0), .inl (cI, 1800, .inl f0)), ((r 14), .inl (cI, 2, .inl f14)), ((r 18), .inl (cI, 2, .inl f18)), ((r 34), .inl (cJ, 20, .inr (.inl g34))), ((r 35), .inl (cJ, 24, .inr (.inl g35)))]) u)) A) args s 0 0 A) (F0 m 83 ls []) := by
            intro  k83p42p80_0 q83p42p80_0 H locs ls hP hD hS hl
            refine lv_aload_n hx hb dX7_fresh_83 rfl (lv_at hl 0 rfl) ?_
            refine k_get (D := (dC, dI)) (ci := 7) (v := .long (j 7)) (C := RX7) (T := TX7) (N := 92) hx hb hts hinX7 hown hK hP 0 rfl rfl 7 (by decide) w_2 rfl rfl dX7_fresh_84 ?_
            refine lv_lstore_n (lv' := [(1, .long (j 7)), (0, .ref h)]) hx hb dX7_fresh_87 rfl hl (by decide) rfl (fun ls hl => ?_)
            refine lv_aload_n hx hb dX7_fresh_88 rfl (lv_at hl 1 rfl) ?_
            refine k_get (D := (dC, dI)) (ci := 7) (v := .int j77p42_M0_8) (C := RX7) (T := TX7) (N := 92) hx hb hts hinX7 hown hK hP 0 rfl rfl 8 (by decide) w_0 rfl rfl dX7_fresh_89 ?_
            have J_99p42p80 : ∀   (H : Heap) (locs : List Loc) (ls : Array Slot), va_P (dC, dI) vwCl [(h, .inr (7, oM r (upd (upd i 8 j77p42_M0_8) 9 j77p42_M0_9) j)), ((r 0), .inl (cI, 1800, .inl f0)), ((r 14), .inl (cI, 2, .inl f14)), ((r 18), .inl (cI, 2, .inl f18)), ((r 34), .inl (cJ, 20, .inr (.inl g34))), ((r 35), .inl (cJ, 24, .inr (.inl g35)))] H → va_D A [(h, .inr (7, oM r (upd (upd i 8 j77p42_M0_8) 9 j77p42_M0_9) j)), ((r 0), .inl (cI, 1800, .inl f0)), ((r 14), .inl (cI, 2, .inl f14)), ((r 18), .inl (cI, 2, .inl f18)), ((r 34), .inl (cJ, 20, .inr (.inl g34))), ((r 35), .inl (cJ, 24, .inr (.inl g35)))] → va_S A s.heap H locs → lv_has ls 3 [(1, .long (j 7))] → W p l e ({ frames := 3, cells := 0, slots := 0, locals := 87 }) s m args below meth c H locs 0 0 (MQ below (va_Ql (fun (r9 : Int64) (u9 : SU) => (iR (u9.1 0) 0 3) ∧ (iR (u9.1 1) 0 1600) ∧ (iR (u9.1 2) 0 1600) ∧ (iR (u9.1 4) 0 6)) (fun u => k_B (dC, dI) vwCl (tyy cI cJ cZ cM) A ((fun (u9 : SU) => [(h, .inr (7, oM r (upd (upd (upd (upd (upd (upd (upd i 3 (u9.1 0)) 4 (u9.1 1)) 5 (u9.1 2)) 6 (u9.1 3)) 8 (u9.1 4)) 9 (u9.1 5)) 12 (u9.1 6)) (vp_updL j 7 (u9.2.1 0)))), ((r 0), .inl (cI, 1800, .inl f0)), ((r 14), .inl (cI, 2, .inl f14)), ((r 18), .inl (cI, 2, .inl f18)), ((r 34), .inl (cJ, 20, .inr (.inl g34))), ((r 35), .inl (cJ, 24, .inr (.inl g35)))]) u)) A) args s 0 0 A) (F0 m 99 ls []) := by
              intro   H locs ls hP hD hS hl
              refine lv_lload_n hx hb dX7_fresh_99 rfl (lv_at hl 0 rfl) ?_
              exact k_rl B hP hD hS dX7_fresh_100 ((fun k9 => match k9 with | 0 => (i 3) | 1 => (i 4) | 2 => (i 5) | 3 => (i 6) | 4 => j77p42_M0_8 | 5 => j77p42_M0_9 | 6 => (i 12) | _ => 0), (fun k9 => match k9 with | 0 => (j 7) | _ => 0), (fun _ => (fun _ => 0)), (fun _ => (fun _ => 0)), (fun _ => 0)) [0, 1, 2, 3, 4, 5] rfl rfl (Nat.le_of_ble_eq_true rfl) (Nat.le_of_ble_eq_true rfl) ⟨f_14_2, (hI 4), (hI 5), (iR_w k83p42p80_0 (by decide +kernel))⟩
            refine lv_if_ne (tgt := 99) hx hb dX7_fresh_92 (by decide) (fun c_92p42p80 => ?_) (fun c_92p42p80 => ?_)
            · have c_92p42p80 : ¬ j77p42_M0_8 = 0 := c_92p42p80
              exact J_99p42p80   H locs ls hP hD hS (lv_sub hl [0] rfl)
            · exact iR_cl (iR_eqL (a' := 1) (b' := 0) c_92p42p80 k83p42p80_0 (iR_c (n := 0) (by decide +kernel) (by decide +kernel)) (by decide +kernel)) (by decide +kernel)
          refine lv_icmp_gt (tgt := 83) hx hb dX7_fresh_45 (by decide) (fun q9 => absurd q9 (by decide +kernel)) (fun _ => ?_)
          refine lv_aload_n hx hb dX7_fresh_48 rfl (lv_at hl 1 rfl) ?_
          refine k_get (D := (dC, dI)) (ci := 7) (v := .int j77p42_M0_8) (C := RX7) (T := TX7) (N := 92) hx hb hts hinX7 hown hK hP 0 rfl rfl 8 (by decide) w_0 rfl rfl dX7_fresh_49 ?_
          refine lv_if_ne (tgt := 83) hx hb dX7_fresh_52 (by decide) (fun c_52p42p80 => ?_) (fun c_52p42p80 => ?_)
          · have c_52p42p80 : ¬ j77p42_M0_8 = 0 := c_52p42p80
            have f_83p42p80_1 : iR j77p42_M0_8 1 6 := iR_neL c_52p42p80 hj77p42_M0_8 (iR_c (n := 0) (by decide +kernel) (by decide +kernel)) (by decide +kernel)
            exact J_83p42p80  f_83p42p80_1 c_52p42p80 H locs ls hP hD hS (lv_sub hl [1] rfl)
          · have c_52p42p80 : j77p42_M0_8 = 0 := c_52p42p80
            have f_55p42p80_1 : iR j77p42_M0_8 0 0 := iR_eqL c_52p42p80 hj77p42_M0_8 (iR_c (n := 0) (by decide +kernel) (by decide +kernel)) (by decide +kernel)
            refine lv_aload_n hx hb dX7_fresh_55 rfl (lv_at hl 1 rfl) ?_
            refine lv_iload_n hx hb dX7_fresh_56 rfl (lv_at hl 0 rfl) ?_
            refine lv_aload_n hx hb dX7_fresh_57 rfl (lv_at hl 1 rfl) ?_
            refine k_get (D := (dC, dI)) (ci := 7) (v := .long (j 7)) (C := RX7) (T := TX7) (N := 92) hx hb hts hinX7 hown hK hP 0 rfl rfl 7 (by decide) w_2 rfl rfl dX7_fresh_58 ?_
            refine k_ci (wc := [(h, .inr (7, oM r (upd (upd i 8 j77p42_M0_8) 9 j77p42_M0_9) j)), ((r 18), .inl (cI, 2, .inl f18)), ((r 35), .inl (cJ, 24, .inr (.inl g35)))]) (wr := [((r 0), .inl (cI, 1800, .inl f0)), ((r 14), .inl (cI, 2, .inl f14)), ((r 34), .inl (cJ, 20, .inr (.inl g34)))]) (fun hPc hDc hFc => va_runV (As := [.int 1, .long (j 7)]) (rest := []) ⟨hx, hb, hml, hown, hts⟩ (s_X7_named_v5 l dC dI cI cJ cZ cM h r (upd (upd i 8 j77p42_M0_8) 9 j77p42_M0_9) j (j 7) f18 g35 (mR_upd 9 (mR_upd 8 hI (show iR _ (loI 8) (hiI 8) from (iR_w f_55p42p80_1 (by decide +kernel)))) (show iR _ (loI 9) (hiI 9) from (iR_top _))) hf18 H.size) (cwV 2 hts gX7_fresh_X7_named rfl rfl rfl (by decide +kernel) ⟨(Nat.le_of_ble_eq_true rfl), (Nat.le_of_ble_eq_true rfl)⟩) (k_pV hPc hDc hK hN hC hS hFc hP (q0 := 0) (ci := 7) rfl rfl) rfl rfl hl.1 rfl (lv_room (Nat.le_of_ble_eq_true rfl)) dX7_fresh_61 ⟨(Nat.le_of_ble_eq_true rfl), (Nat.le_of_ble_eq_true rfl)⟩) hP hD hS hA [0, 3, 5] [1, 2, 4] rfl rfl rfl rfl (by decide) (fun _ => rfl) 0 0 rfl rfl (fun r_61p42p80 u_61p42p80 H locs hw hP hD hS => ?_)
            obtain g_61p42p80_0 := hw
            have hP : va_P (dC, dI) vwCl [((r 0), .inl (cI, 1800, .inl f0)), ((r 14), .inl (cI, 2, .inl f14)), ((r 34), .inl (cJ, 20, .inr (.inl g34))), (h, .inr (7, oM r (upd (upd i 8 j77p42_M0_8) 9 j77p42_M0_9) j)), ((r 18), .inl (cI, 2, .inl f18)), ((r 35), .inl (cJ, 24, .inr (.inl g35)))] H := hP
            have hD : va_D A [((r 0), .inl (cI, 1800, .inl f0)), ((r 14), .inl (cI, 2, .inl f14)), ((r 34), .inl (cJ, 20, .inr (.inl g34))), (h, .inr (7, oM r (upd (upd i 8 j77p42_M0_8) 9 j77p42_M0_9) j)), ((r 18), .inl (cI, 2, .inl f18)), ((r 35), .inl (cJ, 24, .inr (.inl g35)))] := hD
            refine lv_iconst (v := (-1)) hx hb dX7_fresh_64 (by decide +kernel) ?_
            have J_77p42p80 : ∀ (j77p42p80_M0_8 : Int32) (j77p42p80_M0_9 : Int32) (hj77p42p80_M0_8 : iR j77p42p80_M0_8 0 6) (H : Heap) (locs : List Loc) (ls : Array Slot), va_P (dC, dI) vwCl [(h, .inr (7, oM r (upd (upd i 8 j77p42p80_M0_8) 9 j77p42p80_M0_9) j)), ((r 0), .inl (cI, 1800, .inl f0)), ((r 14), .inl (cI, 2, .inl f14)), ((r 18), .inl (cI, 2, .inl f18)), ((r 34), .inl (cJ, 20, .inr (.inl g34))), ((r 35), .inl (cJ, 24, .inr (.inl g35)))] H → va_D A [(h, .inr (7, oM r (upd (upd i 8 j77p42p80_M0_8) 9 j77p42p80_M0_9) j)), ((r 0), .inl (cI, 1800, .inl f0)), ((r 14), .inl (cI, 2, .inl f14)), ((r 18), .inl (cI, 2, .inl f18)), ((r 34), .inl (cJ, 20, .inr (.inl g34))), ((r 35), .inl (cJ, 24, .inr (.inl g35)))] → va_S A s.heap H locs → lv_has ls 3 [(0, .ref h), (1, .int 1)] → W p l e ({ frames := 3, cells := 0, slots := 0, locals := 87 }) s m args below meth c H locs 0 0 (MQ below (va_Ql (fun (r9 : Int64) (u9 : SU) => (iR (u9.1 0) 0 3) ∧ (iR (u9.1 1) 0 1600) ∧ (iR (u9.1 2) 0 1600) ∧ (iR (u9.1 4) 0 6)) (fun u => k_B (dC, dI) vwCl (tyy cI cJ cZ cM) A ((fun (u9 : SU) => [(h, .inr (7, oM r (upd (upd (upd (upd (upd (upd (upd i 3 (u9.1 0)) 4 (u9.1 1)) 5 (u9.1 2)) 6 (u9.1 3)) 8 (u9.1 4)) 9 (u9.1 5)) 12 (u9.1 6)) (vp_updL j 7 (u9.2.1 0)))), ((r 0), .inl (cI, 1800, .inl f0)), ((r 14), .inl (cI, 2, .inl f14)), ((r 18), .inl (cI, 2, .inl f18)), ((r 34), .inl (cJ, 20, .inr (.inl g34))), ((r 35), .inl (cJ, 24, .inr (.inl g35)))]) u)) A) args s 0 0 A) (F0 m 77 ls []) := by
              intro j77p42p80_M0_8 j77p42p80_M0_9 hj77p42p80_M0_8 H locs ls hP hD hS hl
              refine lv_iinc (v := 2) (lv' := [(1, .int 2), (0, .ref h)]) hx hb dX7_fresh_77 hl (k := 1) rfl (by decide +kernel) (by decide) rfl (fun ls hl => ?_)
              refine lv_goto (tgt := 43) hx hb dX7_fresh_80 (by decide) ?_
              refine lv_iload_n hx hb dX7_fresh_43 rfl (lv_at hl 0 rfl) ?_
              refine lv_iconst (v := 1) hx hb dX7_fresh_44 (by decide +kernel) ?_
              have J_83p42p80p80 : ∀   (H : Heap) (locs : List Loc) (ls : Array Slot), va_P (dC, dI) vwCl [(h, .inr (7, oM r (upd (upd i 8 j77p42p80_M0_8) 9 j77p42p80_M0_9) j)), ((r 0), .inl (cI, 1800, .inl f0)), ((r 14), .inl (cI, 2, .inl f14)), ((r 18), .inl (cI, 2, .inl f18)), ((r 34), .inl (cJ, 20, .inr (.inl g34))), ((r 35), .inl (cJ, 24, .inr (.inl g35)))] H → va_D A [(h, .inr (7, oM r (upd (upd i 8 j77p42p80_M0_8) 9 j77p42p80_M0_9) j)), ((r 0), .inl (cI, 1800, .inl f0)), ((r 14), .inl (cI, 2, .inl f14)), ((r 18), .inl (cI, 2, .inl f18)), ((r 34), .inl (cJ, 20, .inr (.inl g34))), ((r 35), .inl (cJ, 24, .inr (.inl g35)))] → va_S A s.heap H locs → lv_has ls 3 [(0, .ref h)] → W p l e ({ frames := 3, cells := 0, slots := 0, locals := 87 }) s m args below meth c H locs 0 0 (MQ below (va_Ql (fun (r9 : Int64) (u9 : SU) => (iR (u9.1 0) 0 3) ∧ (iR (u9.1 1) 0 1600) ∧ (iR (u9.1 2) 0 1600) ∧ (iR (u9.1 4) 0 6)) (fun u => k_B (dC, dI) vwCl (tyy cI cJ cZ cM) A ((fun (u9 : SU) => [(h, .inr (7, oM r (upd (upd (upd (upd (upd (upd (upd i 3 (u9.1 0)) 4 (u9.1 1)) 5 (u9.1 2)) 6 (u9.1 3)) 8 (u9.1 4)) 9 (u9.1 5)) 12 (u9.1 6)) (vp_updL j 7 (u9.2.1 0)))), ((r 0), .inl (cI, 1800, .inl f0)), ((r 14), .inl (cI, 2, .inl f14)), ((r 18), .inl (cI, 2, .inl f18)), ((r 34), .inl (cJ, 20, .inr (.inl g34))), ((r 35), .inl (cJ, 24, .inr (.inl g35)))]) u)) A) args s 0 0 A) (F0 m 83 ls []) := by
                intro   H locs ls hP hD hS hl
                refine lv_aload_n hx hb dX7_fresh_83 rfl (lv_at hl 0 rfl) ?_
                refine k_get (D := (dC, dI)) (ci := 7) (v := .long (j 7)) (C := RX7) (T := TX7) (N := 92) hx hb hts hinX7 hown hK hP 0 rfl rfl 7 (by decide) w_2 rfl rfl dX7_fresh_84 ?_
                refine lv_lstore_n (lv' := [(1, .long (j 7)), (0, .ref h)]) hx hb dX7_fresh_87 rfl hl (by decide) rfl (fun ls hl => ?_)
                refine lv_aload_n hx hb dX7_fresh_88 rfl (lv_at hl 1 rfl) ?_
                refine k_get (D := (dC, dI)) (ci := 7) (v := .int j77p42p80_M0_8) (C := RX7) (T := TX7) (N := 92) hx hb hts hinX7 hown hK hP 0 rfl rfl 8 (by decide) w_0 rfl rfl dX7_fresh_89 ?_
                have J_99p42p80p80 : ∀ (j99p42p80p80_M0_3 : Int32) (j99p42p80p80_M0_4 : Int32) (j99p42p80p80_M0_5 : Int32) (j99p42p80p80_M0_6 : Int32) (j99p42p80p80_M0_7 : Int64) (j99p42p80p80_M0_12 : Int32) (hj99p42p80p80_M0_3 : iR j99p42p80p80_M0_3 0 3) (hj99p42p80p80_M0_4 : iR j99p42p80p80_M0_4 0 1600) (hj99p42p80p80_M0_5 : iR j99p42p80p80_M0_5 0 1600) (H : Heap) (locs : List Loc) (ls : Array Slot), va_P (dC, dI) vwCl [(h, .inr (7, oM r (upd (upd (upd (upd (upd (upd (upd i 3 j99p42p80p80_M0_3) 4 j99p42p80p80_M0_4) 5 j99p42p80p80_M0_5) 6 j99p42p80p80_M0_6) 8 j77p42p80_M0_8) 9 j77p42p80_M0_9) 12 j99p42p80p80_M0_12) (vp_updL j 7 j99p42p80p80_M0_7))), ((r 0), .inl (cI, 1800, .inl f0)), ((r 14), .inl (cI, 2, .inl f14)), ((r 18), .inl (cI, 2, .inl f18)), ((r 34), .inl (cJ, 20, .inr (.inl g34))), ((r 35), .inl (cJ, 24, .inr (.inl g35)))] H → va_D A [(h, .inr (7, oM r (upd (upd (upd (upd (upd (upd (upd i 3 j99p42p80p80_M0_3) 4 j99p42p80p80_M0_4) 5 j99p42p80p80_M0_5) 6 j99p42p80p80_M0_6) 8 j77p42p80_M0_8) 9 j77p42p80_M0_9) 12 j99p42p80p80_M0_12) (vp_updL j 7 j99p42p80p80_M0_7))), ((r 0), .inl (cI, 1800, .inl f0)), ((r 14), .inl (cI, 2, .inl f14)), ((r 18), .inl (cI, 2, .inl f18)), ((r 34), .inl (cJ, 20, .inr (.inl g34))), ((r 35), .inl (cJ, 24, .inr (.inl g35)))] → va_S A s.heap H locs → lv_has ls 3 [(1, .long (j 7))] → W p l e ({ frames := 3, cells := 0, slots := 0, locals := 87 }) s m args below meth c H locs 0 0 (MQ below (va_Ql (fun (r9 : Int64) (u9 : SU) => (iR (u9.1 0) 0 3) ∧ (iR (u9.1 1) 0 1600) ∧ (iR (u9.1 2) 0 1600) ∧ (iR (u9.1 4) 0 6)) (fun u => k_B (dC, dI) vwCl (tyy cI cJ cZ cM) A ((fun (u9 : SU) => [(h, .inr (7, oM r (upd (upd (upd (upd (upd (upd (upd i 3 (u9.1 0)) 4 (u9.1 1)) 5 (u9.1 2)) 6 (u9.1 3)) 8 (u9.1 4)) 9 (u9.1 5)) 12 (u9.1 6)) (vp_updL j 7 (u9.2.1 0)))), ((r 0), .inl (cI, 1800, .inl f0)), ((r 14), .inl (cI, 2, .inl f14)), ((r 18), .inl (cI, 2, .inl f18)), ((r 34), .inl (cJ, 20, .inr (.inl g34))), ((r 35), .inl (cJ, 24, .inr (.inl g35)))]) u)) A) args s 0 0 A) (F0 m 99 ls []) := by
                  intro j99p42p80p80_M0_3 j99p42p80p80_M0_4 j99p42p80p80_M0_5 j99p42p80p80_M0_6 j99p42p80p80_M0_7 j99p42p80p80_M0_12 hj99p42p80p80_M0_3 hj99p42p80p80_M0_4 hj99p42p80p80_M0_5 H locs ls hP hD hS hl
                  refine lv_lload_n hx hb dX7_fresh_99 rfl (lv_at hl 0 rfl) ?_
                  exact k_rl B hP hD hS dX7_fresh_100 ((fun k9 => match k9 with | 0 => j99p42p80p80_M0_3 | 1 => j99p42p80p80_M0_4 | 2 => j99p42p80p80_M0_5 | 3 => j99p42p80p80_M0_6 | 4 => j77p42p80_M0_8 | 5 => j77p42p80_M0_9 | 6 => j99p42p80p80_M0_12 | _ => 0), (fun k9 => match k9 with | 0 => j99p42p80p80_M0_7 | _ => 0), (fun _ => (fun _ => 0)), (fun _ => (fun _ => 0)), (fun _ => 0)) [0, 1, 2, 3, 4, 5] rfl rfl (Nat.le_of_ble_eq_true rfl) (Nat.le_of_ble_eq_true rfl) ⟨hj99p42p80p80_M0_3, hj99p42p80p80_M0_4, hj99p42p80p80_M0_5, hj77p42p80_M0_8⟩
                refine lv_if_ne (tgt := 99) hx hb dX7_fresh_92 (by decide) (fun c_92p42p80p80 => ?_) (fun c_92p42p80p80 => ?_)
                · have c_92p42p80p80 : ¬ j77p42p80_M0_8 = 0 := c_92p42p80p80
                  have f_99p42p80p80_1 : iR j77p42p80_M0_8 1 6 := iR_neL c_92p42p80p80 hj77p42p80_M0_8 (iR_c (n := 0) (by decide +kernel) (by decide +kernel)) (by decide +kernel)
                  exact J_99p42p80p80 (i 3) (i 4) (i 5) (i 6) (j 7) (i 12) f_14_2 (show iR (i 4) 0 1600 from hI 4) (show iR (i 5) 0 1600 from hI 5) H locs ls hP hD hS (lv_sub hl [0] rfl)
                · have c_92p42p80p80 : j77p42p80_M0_8 = 0 := c_92p42p80p80
                  have f_95p42p80p80_1 : iR j77p42p80_M0_8 0 0 := iR_eqL c_92p42p80p80 hj77p42p80_M0_8 (iR_c (n := 0) (by decide +kernel) (by decide +kernel)) (by decide +kernel)
                  refine lv_aload_n hx hb dX7_fresh_95 rfl (lv_at hl 1 rfl) ?_
                  refine k_cv (wc := [(h, .inr (7, oM r (upd (upd i 8 j77p42p80_M0_8) 9 j77p42p80_M0_9) j)), ((r 0), .inl (cI, 1800, .inl f0))]) (wr := [((r 14), .inl (cI, 2, .inl f14)), ((r 18), .inl (cI, 2, .inl f18)), ((r 34), .inl (cJ, 20, .inr (.inl g34))), ((r 35), .inl (cJ, 24, .inr (.inl g35)))]) (fun hPc hDc hFc => va_runV (As := []) (rest := []) ⟨hx, hb, hml, hown, hts⟩ (s_X7_ahead_v4 l dC dI cI cJ cZ cM h r (upd (upd i 8 j77p42p80_M0_8) 9 j77p42p80_M0_9) j f0 (mR_upd 9 (mR_upd 8 hI (show iR _ (loI 8) (hiI 8) from (iR_w f_95p42p80p80_1 (by decide +kernel)))) (show iR _ (loI 9) (hiI 9) from (iR_top _))) hf0 H.size) (cwV 0 hts gX7_fresh_X7_ahead rfl rfl rfl (by decide +kernel) ⟨(Nat.le_of_ble_eq_true rfl), (Nat.le_of_ble_eq_true rfl)⟩) (k_pV hPc hDc hK hN hC hS hFc hP (q0 := 0) (ci := 7) rfl rfl) rfl rfl hl.1 rfl (lv_room (Nat.le_of_ble_eq_true rfl)) dX7_fresh_96 ⟨(Nat.le_of_ble_eq_true rfl), (Nat.le_of_ble_eq_true rfl)⟩) hP hD hS hA [0, 1] [2, 3, 4, 5] rfl rfl rfl rfl (by decide) (fun _ => rfl) 0 0 rfl rfl (fun u_96p42p80p80 H locs hw hP hD hS => ?_)
                  obtain ⟨g_96p42p80p80_0, g_96p42p80p80_1, g_96p42p80p80_2, g_96p42p80p80_3⟩ := hw
                  have hP : va_P (dC, dI) vwCl [((r 14), .inl (cI, 2, .inl f14)), ((r 18), .inl (cI, 2, .inl f18)), ((r 34), .inl (cJ, 20, .inr (.inl g34))), ((r 35), .inl (cJ, 24, .inr (.inl g35))), (h, .inr (7, oM r (upd (upd (upd (upd (upd (upd (upd i 3 (u_96p42p80p80.1 0)) 4 (u_96p42p80p80.1 1)) 5 (u_96p42p80p80.1 2)) 6 (u_96p42p80p80.1 3)) 8 j77p42p80_M0_8) 9 j77p42p80_M0_9) 12 (u_96p42p80p80.1 4)) (vp_updL j 7 (u_96p42p80p80.2.1 0)))), ((r 0), .inl (cI, 1800, .inl f0))] H := hP
                  have hD : va_D A [((r 14), .inl (cI, 2, .inl f14)), ((r 18), .inl (cI, 2, .inl f18)), ((r 34), .inl (cJ, 20, .inr (.inl g34))), ((r 35), .inl (cJ, 24, .inr (.inl g35))), (h, .inr (7, oM r (upd (upd (upd (upd (upd (upd (upd i 3 (u_96p42p80p80.1 0)) 4 (u_96p42p80p80.1 1)) 5 (u_96p42p80p80.1 2)) 6 (u_96p42p80p80.1 3)) 8 j77p42p80_M0_8) 9 j77p42p80_M0_9) 12 (u_96p42p80p80.1 4)) (vp_updL j 7 (u_96p42p80p80.2.1 0)))), ((r 0), .inl (cI, 1800, .inl f0))] := hD
                  exact J_99p42p80p80 (u_96p42p80p80.1 0) (u_96p42p80p80.1 1) (u_96p42p80p80.1 2) (u_96p42p80p80.1 3) (u_96p42p80p80.2.1 0) (u_96p42p80p80.1 4) g_96p42p80p80_0 g_96p42p80p80_1 g_96p42p80p80_2 H locs ls (hP.sub [4, 5, 0, 1, 2, 3] rfl) (hD.sub [4, 5, 0, 1, 2, 3] (by decide +kernel) rfl) hS (lv_sub hl [0] rfl)
              refine lv_icmp_gt (tgt := 83) hx hb dX7_fresh_45 (by decide) (fun _ => ?_) (fun q9 => absurd q9 (by decide +kernel))
              exact J_83p42p80p80   H locs ls hP hD hS (lv_sub hl [1] rfl)
            refine lv_icmp_eq (tgt := 77) hx hb dX7_fresh_65 (by decide) (fun c_65p42p80 => ?_) (fun c_65p42p80 => ?_)
            · have c_65p42p80 : r_61p42p80 = (-1) := c_65p42p80
              have f_77p42p80_2 : iR r_61p42p80 (-1) (-1) := iR_eqL c_65p42p80 g_61p42p80_0 (iR_c (n := (-1)) (by decide +kernel) (by decide +kernel)) (by decide +kernel)
              exact J_77p42p80 j77p42_M0_8 j77p42_M0_9 (iR_w f_55p42p80_1 (by decide +kernel)) H locs ls (hP.sub [3, 0, 1, 4, 2, 5] rfl) (hD.sub [3, 0, 1, 4, 2, 5] (by decide +kernel) rfl) hS (lv_sub hl [1, 0] rfl)
            · have c_65p42p80 : ¬ r_61p42p80 = (-1) := c_65p42p80
              have f_68p42p80_2 : iR r_61p42p80 0 11 := iR_neL c_65p42p80 g_61p42p80_0 (iR_c (n := (-1)) (by decide +kernel) (by decide +kernel)) (by decide +kernel)
              refine lv_aload_n hx hb dX7_fresh_68 rfl (lv_at hl 1 rfl) ?_
              refine lv_iconst (v := 2) hx hb dX7_fresh_69 (by decide +kernel) ?_
              refine lv_aload_n hx hb dX7_fresh_70 rfl (lv_at hl 1 rfl) ?_
              have f_71p42p80_3 : iR (i 4) 0 1600 := hI 4
              refine k_get (D := (dC, dI)) (ci := 7) (v := .int (i 4)) (C := RX7) (T := TX7) (N := 92) hx hb hts hinX7 hown hK hP 3 rfl rfl 4 (by decide) w_3 rfl rfl dX7_fresh_71 ?_
              refine k_cv (wc := [(h, .inr (7, oM r (upd (upd i 8 j77p42_M0_8) 9 j77p42_M0_9) j))]) (wr := [((r 0), .inl (cI, 1800, .inl f0)), ((r 14), .inl (cI, 2, .inl f14)), ((r 34), .inl (cJ, 20, .inr (.inl g34))), ((r 18), .inl (cI, 2, .inl f18)), ((r 35), .inl (cJ, 24, .inr (.inl g35)))]) (fun hPc hDc hFc => va_runV (As := [.int 2, .int (i 4)]) (rest := []) ⟨hx, hb, hml, hown, hts⟩ (s_X7_blame_v6 l dC dI cI cJ cZ cM h r (upd (upd i 8 j77p42_M0_8) 9 j77p42_M0_9) j 2 (i 4) (iR_c (n := 2) (by decide +kernel) (by decide +kernel)) (mR_upd 9 (mR_upd 8 hI (show iR _ (loI 8) (hiI 8) from (iR_w f_55p42p80_1 (by decide +kernel)))) (show iR _ (loI 9) (hiI 9) from (iR_top _))) H.size) (cwV 2 hts gX7_fresh_X7_blame rfl rfl rfl (by decide +kernel) ⟨(Nat.le_of_ble_eq_true rfl), (Nat.le_of_ble_eq_true rfl)⟩) (k_pV hPc hDc hK hN hC hS hFc hP (q0 := 3) (ci := 7) rfl rfl) rfl rfl hl.1 rfl (lv_room (Nat.le_of_ble_eq_true rfl)) dX7_fresh_74 ⟨(Nat.le_of_ble_eq_true rfl), (Nat.le_of_ble_eq_true rfl)⟩) hP hD hS hA [3] [0, 1, 2, 4, 5] rfl rfl rfl rfl (by decide) (fun _ => rfl) 0 0 rfl rfl (fun u_74p42p80 H locs hw hP hD hS => ?_)
              obtain g_74p42p80_0 := hw
              have hP : va_P (dC, dI) vwCl [((r 0), .inl (cI, 1800, .inl f0)), ((r 14), .inl (cI, 2, .inl f14)), ((r 34), .inl (cJ, 20, .inr (.inl g34))), ((r 18), .inl (cI, 2, .inl f18)), ((r 35), .inl (cJ, 24, .inr (.inl g35))), (h, .inr (7, oM r (upd (upd i 8 (u_74p42p80.1 0)) 9 (u_74p42p80.1 1)) j))] H := hP
              have hD : va_D A [((r 0), .inl (cI, 1800, .inl f0)), ((r 14), .inl (cI, 2, .inl f14)), ((r 34), .inl (cJ, 20, .inr (.inl g34))), ((r 18), .inl (cI, 2, .inl f18)), ((r 35), .inl (cJ, 24, .inr (.inl g35))), (h, .inr (7, oM r (upd (upd i 8 (u_74p42p80.1 0)) 9 (u_74p42p80.1 1)) j))] := hD
              exact J_77p42p80 (u_74p42p80.1 0) (u_74p42p80.1 1) (iR_w g_74p42p80_0 (by decide +kernel)) H locs ls (hP.sub [5, 0, 1, 3, 2, 4] rfl) (hD.sub [5, 0, 1, 3, 2, 4] (by decide +kernel) rfl) hS (lv_sub hl [1, 0] rfl)
        refine lv_icmp_eq (tgt := 77) hx hb dX7_fresh_65 (by decide) (fun c_65p42 => ?_) (fun c_65p42 => ?_)
        · have c_65p42 : r_61p42 = (-1) := c_65p42
          have f_77p42_2 : iR r_61p42 (-1) (-1) := iR_eqL c_65p42 g_61p42_0 (iR_c (n := (-1)) (by decide +kernel) (by decide +kernel)) (by decide +kernel)
          exact J_77p42 j41_M0_8 j41_M0_9 (iR_w f_55p42_1 (by decide +kernel)) H locs ls (hP.sub [3, 0, 4, 1, 5, 2] rfl) (hD.sub [3, 0, 4, 1, 5, 2] (by decide +kernel) rfl) hS (lv_sub hl [1, 0] rfl)
        · have c_65p42 : ¬ r_61p42 = (-1) := c_65p42
          have f_68p42_2 : iR r_61p42 0 9 := iR_neL c_65p42 g_61p42_0 (iR_c (n := (-1)) (by decide +kernel) (by decide +kernel)) (by decide +kernel)
          refine lv_aload_n hx hb dX7_fresh_68 rfl (lv_at hl 1 rfl) ?_
          refine lv_iconst (v := 2) hx hb dX7_fresh_69 (by decide +kernel) ?_
          refine lv_aload_n hx hb dX7_fresh_70 rfl (lv_at hl 1 rfl) ?_
          have f_71p42_3 : iR (i 4) 0 1600 := hI 4
          refine k_get (D := (dC, dI)) (ci := 7) (v := .int (i 4)) (C := RX7) (T := TX7) (N := 92) hx hb hts hinX7 hown hK hP 3 rfl rfl 4 (by decide) w_3 rfl rfl dX7_fresh_71 ?_
          refine k_cv (wc := [(h, .inr (7, oM r (upd (upd i 8 j41_M0_8) 9 j41_M0_9) j))]) (wr := [((r 0), .inl (cI, 1800, .inl f0)), ((r 18), .inl (cI, 2, .inl f18)), ((r 35), .inl (cJ, 24, .inr (.inl g35))), ((r 14), .inl (cI, 2, .inl f14)), ((r 34), .inl (cJ, 20, .inr (.inl g34)))]) (fun hPc hDc hFc => va_runV (As := [.int 2, .int (i 4)]) (rest := []) ⟨hx, hb, hml, hown, hts⟩ (s_X7_blame_v6 l dC dI cI cJ cZ cM h r (upd (upd i 8 j41_M0_8) 9 j41_M0_9) j 2 (i 4) (iR_c (n := 2) (by decide +kernel) (by decide +kernel)) (mR_upd 9 (mR_upd 8 hI (show iR _ (loI 8) (hiI 8) from (iR_w f_55p42_1 (by decide +kernel)))) (show iR _ (loI 9) (hiI 9) from (iR_top _))) H.size) (cwV 2 hts gX7_fresh_X7_blame rfl rfl rfl (by decide +kernel) ⟨(Nat.le_of_ble_eq_true rfl), (Nat.le_of_ble_eq_true rfl)⟩) (k_pV hPc hDc hK hN hC hS hFc hP (q0 := 3) (ci := 7) rfl rfl) rfl rfl hl.1 rfl (lv_room (Nat.le_of_ble_eq_true rfl)) dX7_fresh_74 ⟨(Nat.le_of_ble_eq_true rfl), (Nat.le_of_ble_eq_true rfl)⟩) hP hD hS hA [3] [0, 1, 2, 4, 5] rfl rfl rfl rfl (by decide) (fun _ => rfl) 0 0 rfl rfl (fun u_74p42 H locs hw hP hD hS => ?_)
          obtain g_74p42_0 := hw
          have hP : va_P (dC, dI) vwCl [((r 0), .inl (cI, 1800, .inl f0)), ((r 18), .inl (cI, 2, .inl f18)), ((r 35), .inl (cJ, 24, .inr (.inl g35))), ((r 14), .inl (cI, 2, .inl f14)), ((r 34), .inl (cJ, 20, .inr (.inl g34))), (h, .inr (7, oM r (upd (upd i 8 (u_74p42.1 0)) 9 (u_74p42.1 1)) j))] H := hP
          have hD : va_D A [((r 0), .inl (cI, 1800, .inl f0)), ((r 18), .inl (cI, 2, .inl f18)), ((r 35), .inl (cJ, 24, .inr (.inl g35))), ((r 14), .inl (cI, 2, .inl f14)), ((r 34), .inl (cJ, 20, .inr (.inl g34))), (h, .inr (7, oM r (upd (upd i 8 (u_74p42.1 0)) 9 (u_74p42.1 1)) j))] := hD
          exact J_77p42 (u_74p42.1 0) (u_74p42.1 1) (iR_w g_74p42_0 (by decide +kernel)) H locs ls (hP.sub [5, 0, 3, 1, 4, 2] rfl) (hD.sub [5, 0, 3, 1, 4, 2] (by decide +kernel) rfl) hS (lv_sub hl [1, 0] rfl)
    have J_32 : ∀   (H : Heap) (locs : List Loc) (ls : Array Slot), va_P (dC, dI) vwCl [(h, .inr (7, oM r (upd (upd i 8 (u_1.1 0)) 9 (u_1.1 1)) j)), ((r 0), .inl (cI, 1800, .inl f0)), ((r 14), .inl (cI, 2, .inl f14)), ((r 18), .inl (cI, 2, .inl f18)), ((r 34), .inl (cJ, 20, .inr (.inl g34))), ((r 35), .inl (cJ, 24, .inr (.inl g35)))] H → va_D A [(h, .inr (7, oM r (upd (upd i 8 (u_1.1 0)) 9 (u_1.1 1)) j)), ((r 0), .inl (cI, 1800, .inl f0)), ((r 14), .inl (cI, 2, .inl f14)), ((r 18), .inl (cI, 2, .inl f18)), ((r 34), .inl (cJ, 20, .inr (.inl g34))), ((r 35), .inl (cJ, 24, .inr (.inl g35)))] → va_S A s.heap H locs → lv_has ls 3 [(0, .ref h)] → W p l e ({ frames := 3, cells := 0, slots := 0, locals := 87 }) s m args below meth c H locs 0 0 (MQ below (va_Ql (fun (r9 : Int64) (u9 : SU) => (iR (u9.1 0) 0 3) ∧ (iR (u9.1 1) 0 1600) ∧ (iR (u9.1 2) 0 1600) ∧ (iR (u9.1 4) 0 6)) (fun u => k_B (dC, dI) vwCl (tyy cI cJ cZ cM) A ((fun (u9 : SU) => [(h, .inr (7, oM r (upd (upd (upd (upd (upd (upd (upd i 3 (u9.1 0)) 4 (u9.1 1)) 5 (u9.1 2)) 6 (u9.1 3)) 8 (u9.1 4)) 9 (u9.1 5)) 12 (u9.1 6)) (vp_updL j 7 (u9.2.1 0)))), ((r 0), .inl (cI, 1800, .inl f0)), ((r 14), .inl (cI, 2, .inl f14)), ((r 18), .inl (cI, 2, .inl f18)), ((r 34), .inl (cJ, 20, .inr (.inl g34))), ((r 35), .inl (cJ, 24, .inr (.inl g35)))]) u)) A) args s 0 0 A) (F0 m 32 ls []) := by
      intro   H locs ls hP hD hS hl
      refine lv_aload_n hx hb dX7_fresh_32 rfl (lv_at hl 0 rfl) ?_
      refine lv_iconst (v := 1) hx hb dX7_fresh_33 (by decide +kernel) ?_
      refine lv_aload_n hx hb dX7_fresh_34 rfl (lv_at hl 0 rfl) ?_
      have f_35_1 : iR (i 4) 0 1600 := hI 4
      refine k_get (D := (dC, dI)) (ci := 7) (v := .int (i 4)) (C := RX7) (T := TX7) (N := 92) hx hb hts hinX7 hown hK hP 0 rfl rfl 4 (by decide) w_3 rfl rfl dX7_fresh_35 ?_
      refine k_cv (wc := [(h, .inr (7, oM r (upd (upd i 8 (u_1.1 0)) 9 (u_1.1 1)) j))]) (wr := [((r 0), .inl (cI, 1800, .inl f0)), ((r 14), .inl (cI, 2, .inl f14)), ((r 18), .inl (cI, 2, .inl f18)), ((r 34), .inl (cJ, 20, .inr (.inl g34))), ((r 35), .inl (cJ, 24, .inr (.inl g35)))]) (fun hPc hDc hFc => va_runV (As := [.int 1, .int (i 4)]) (rest := []) ⟨hx, hb, hml, hown, hts⟩ (s_X7_blame_v6 l dC dI cI cJ cZ cM h r (upd (upd i 8 (u_1.1 0)) 9 (u_1.1 1)) j 1 (i 4) (iR_c (n := 1) (by decide +kernel) (by decide +kernel)) (mR_upd 9 (mR_upd 8 hI (show iR _ (loI 8) (hiI 8) from (iR_w f_13_1 (by decide +kernel)))) (show iR _ (loI 9) (hiI 9) from (iR_top _))) H.size) (cwV 2 hts gX7_fresh_X7_blame rfl rfl rfl (by decide +kernel) ⟨(Nat.le_of_ble_eq_true rfl), (Nat.le_of_ble_eq_true rfl)⟩) (k_pV hPc hDc hK hN hC hS hFc hP (q0 := 0) (ci := 7) rfl rfl) rfl rfl hl.1 rfl (lv_room (Nat.le_of_ble_eq_true rfl)) dX7_fresh_38 ⟨(Nat.le_of_ble_eq_true rfl), (Nat.le_of_ble_eq_true rfl)⟩) hP hD hS hA [0] [1, 2, 3, 4, 5] rfl rfl rfl rfl (by decide) (fun _ => rfl) 0 0 rfl rfl (fun u_38 H locs hw hP hD hS => ?_)
      obtain g_38_0 := hw
      have hP : va_P (dC, dI) vwCl [((r 0), .inl (cI, 1800, .inl f0)), ((r 14), .inl (cI, 2, .inl f14)), ((r 18), .inl (cI, 2, .inl f18)), ((r 34), .inl (cJ, 20, .inr (.inl g34))), ((r 35), .inl (cJ, 24, .inr (.inl g35))), (h, .inr (7, oM r (upd (upd i 8 (u_38.1 0)) 9 (u_38.1 1)) j))] H := hP
      have hD : va_D A [((r 0), .inl (cI, 1800, .inl f0)), ((r 14), .inl (cI, 2, .inl f14)), ((r 18), .inl (cI, 2, .inl f18)), ((r 34), .inl (cJ, 20, .inr (.inl g34))), ((r 35), .inl (cJ, 24, .inr (.inl g35))), (h, .inr (7, oM r (upd (upd i 8 (u_38.1 0)) 9 (u_38.1 1)) j))] := hD
      exact J_41 (u_38.1 0) (u_38.1 1) (iR_w g_38_0 (by decide +kernel)) H locs ls (hP.sub [5, 0, 1, 2, 3, 4] rfl) (hD.sub [5, 0, 1, 2, 3, 4] (by decide +kernel) rfl) hS (lv_sub hl [0] rfl)
    refine lv_icmp_ne (tgt := 32) hx hb dX7_fresh_18 (by decide) (fun c_18 => ?_) (fun c_18 => ?_)
    · have c_18 : ¬ (i 3) = 1 := c_18
      exact J_32   H locs ls (hP.sub [5, 0, 1, 2, 3, 4] rfl) (hD.sub [5, 0, 1, 2, 3, 4] (by decide +kernel) rfl) hS (lv_sub hl [0] rfl)
    · have c_18 : (i 3) = 1 := c_18
      have f_21_3 : iR (i 3) 1 1 := iR_eqL c_18 f_14_2 (iR_c (n := 1) (by decide +kernel) (by decide +kernel)) (by decide +kernel)
      refine lv_aload_n hx hb dX7_fresh_21 rfl (lv_at hl 0 rfl) ?_
      refine lv_aload_n hx hb dX7_fresh_22 rfl (lv_at hl 0 rfl) ?_
      refine k_get (D := (dC, dI)) (ci := 7) (v := .long (j 7)) (C := RX7) (T := TX7) (N := 92) hx hb hts hinX7 hown hK hP 5 rfl rfl 7 (by decide) w_2 rfl rfl dX7_fresh_23 ?_
      refine k_ci (wc := []) (wr := [((r 0), .inl (cI, 1800, .inl f0)), ((r 14), .inl (cI, 2, .inl f14)), ((r 18), .inl (cI, 2, .inl f18)), ((r 34), .inl (cJ, 20, .inr (.inl g34))), ((r 35), .inl (cJ, 24, .inr (.inl g35))), (h, .inr (7, oM r (upd (upd i 8 (u_1.1 0)) 9 (u_1.1 1)) j))]) (fun hPc hDc hFc => va_runV (As := [.long (j 7)]) (rest := []) ⟨hx, hb, hml, hown, hts⟩ (s_X7_isOwn_v5 l dC dI cI cJ cZ cM h (j 7) H.size) (cwV 1 hts gX7_fresh_X7_isOwn rfl rfl rfl (by decide +kernel) ⟨(Nat.le_of_ble_eq_true rfl), (Nat.le_of_ble_eq_true rfl)⟩) (k_pV hPc hDc hK hN hC hS hFc hP (q0 := 5) (ci := 7) rfl rfl) rfl rfl hl.1 rfl (lv_room (Nat.le_of_ble_eq_true rfl)) dX7_fresh_26 ⟨(Nat.le_of_ble_eq_true rfl), (Nat.le_of_ble_eq_true rfl)⟩) hP hD hS hA [] [0, 1, 2, 3, 4, 5] rfl rfl rfl rfl (by decide) (fun _ => rfl) 0 0 rfl rfl (fun r_26 u_26 H locs hw hP hD hS => ?_)
      obtain g_26_0 := hw
      have hP : va_P (dC, dI) vwCl [((r 0), .inl (cI, 1800, .inl f0)), ((r 14), .inl (cI, 2, .inl f14)), ((r 18), .inl (cI, 2, .inl f18)), ((r 34), .inl (cJ, 20, .inr (.inl g34))), ((r 35), .inl (cJ, 24, .inr (.inl g35))), (h, .inr (7, oM r (upd (upd i 8 (u_1.1 0)) 9 (u_1.1 1)) j))] H := hP
      have hD : va_D A [((r 0), .inl (cI, 1800, .inl f0)), ((r 14), .inl (cI, 2, .inl f14)), ((r 18), .inl (cI, 2, .inl f18)), ((r 34), .inl (cJ, 20, .inr (.inl g34))), ((r 35), .inl (cJ, 24, .inr (.inl g35))), (h, .inr (7, oM r (upd (upd i 8 (u_1.1 0)) 9 (u_1.1 1)) j))] := hD
      refine lv_if_eq (tgt := 41) hx hb dX7_fresh_29 (by decide) (fun c_29 => ?_) (fun c_29 => ?_)
      · have c_29 : r_26 = 0 := c_29
        have f_41_4 : iR r_26 0 0 := iR_eqL c_29 g_26_0 (iR_c (n := 0) (by decide +kernel) (by decide +kernel)) (by decide +kernel)
        exact J_41 (u_1.1 0) (u_1.1 1) (iR_w f_13_1 (by decide +kernel)) H locs ls (hP.sub [5, 0, 1, 2, 3, 4] rfl) (hD.sub [5, 0, 1, 2, 3, 4] (by decide +kernel) rfl) hS (lv_sub hl [0] rfl)
      · have c_29 : ¬ r_26 = 0 := c_29
        have f_32_4 : iR r_26 1 1 := iR_neL c_29 g_26_0 (iR_c (n := 0) (by decide +kernel) (by decide +kernel)) (by decide +kernel)
        exact J_32   H locs ls (hP.sub [5, 0, 1, 2, 3, 4] rfl) (hD.sub [5, 0, 1, 2, 3, 4] (by decide +kernel) rfl) hS (lv_sub hl [0] rfl)
  · have c_8 : 0 < (u_1.1 0) := i_nle c_8
    have f_11_1 : iR (u_1.1 0) 1 6 := iR_ltR c_8 (iR_c (n := 0) (by decide +kernel) (by decide +kernel)) g_1_0 (by decide +kernel)
    refine lv_lconst (v := 0) hx hb dX7_fresh_11 (by decide +kernel) ?_
    exact k_rl B hP hD hS dX7_fresh_12 ((fun k9 => match k9 with | 0 => (i 3) | 1 => (i 4) | 2 => (i 5) | 3 => (i 6) | 4 => (u_1.1 0) | 5 => (u_1.1 1) | 6 => (i 12) | _ => 0), (fun k9 => match k9 with | 0 => (j 7) | _ => 0), (fun _ => (fun _ => 0)), (fun _ => (fun _ => 0)), (fun _ => 0)) [5, 0, 1, 2, 3, 4] rfl rfl (Nat.le_of_ble_eq_true rfl) (Nat.le_of_ble_eq_true rfl) ⟨(hI 3), (hI 4), (hI 5), (iR_w f_11_1 (by decide +kernel))⟩
set_option maxHeartbeats 8000000 in
set_option maxRecDepth 100000 in
theorem s_X7_isWord_v2 (l : Launch) (dC : Nat → ClassId) (dI : Nat → Nat → Nat) (cI cJ cZ cM : ClassId) (h : Nat) (r : Nat → Nat) (i : Nat → Int32) (j : Nat → Int64) (x1 : Int64) (hI : mR i) : k_Mi l yX7_isWord wsX7_isWord ({ frames := 1, cells := 0, slots := 0, locals := 40 }) (dC, dI) vwCl (tyy cI cJ cZ cM) [(h, .inr (7, oM r i j))] [.ref h, .long x1] 0 0 (fun (u9 : Unit) => [(h, .inr (7, oM r i j))]) (fun (r9 : Int32) (u9 : Unit) => (iR r9 0 1)) := by
  refine fun sz => k_enter (cc := cX7_isWord) (maxL := 3) (ret := some (.boolean)) (Qc := fun A => va_Qi (fun (r9 : Int32) (u9 : Unit) => (iR r9 0 1)) (fun u => k_B (dC, dI) vwCl (tyy cI cJ cZ cM) A ((fun (u9 : Unit) => [(h, .inr (7, oM r i j))]) u)) A) sz (by decide +kernel) rfl (Nat.le_of_ble_eq_true rfl) (fun p e s m args below meth c A ls H locs B hP hD hS hl => ?_)
  obtain ⟨hx, hb, hml, hown, hts, hr, hlk, hnm, hK, hA, hN, hC⟩ := id B
  have hown : s.vm.findClass RX7 = some m.cls := hown
  have hl : lv_has ls 3 [(0, .ref h), (1, .long x1)] := hl
  have w_0 : (Cond.fieldLink RX7 20 "WishSeaModel" "sign" "I").before args s = true := hts _ (List.mem_of_getElem? (i := 1) rfl)
  have w_1 : (Cond.fieldLink RX7 32 "WishSeaModel" "word" "J").before args s = true := hts _ (List.mem_of_getElem? (i := 2) rfl)
  have hinX7 : ∀ w ∈ u_ws RX7 TX7 92, w ∈ wsX7_isWord := fun _ h => List.mem_cons_of_mem _ (List.mem_append_right _ h)
  refine lv_aload_n hx hb dX7_isWord_0 rfl (lv_at hl 0 rfl) ?_
  have f_1_1 : iR (i 3) 0 3 := hI 3
  refine k_get (D := (dC, dI)) (ci := 7) (v := .int (i 3)) (C := RX7) (T := TX7) (N := 92) hx hb hts hinX7 hown hK hP 0 rfl rfl 3 (by decide) w_0 rfl rfl dX7_isWord_1 ?_
  refine lv_iconst (v := 1) hx hb dX7_isWord_4 (by decide +kernel) ?_
  have J_21 : ∀   (H : Heap) (locs : List Loc) (ls : Array Slot), va_P (dC, dI) vwCl [(h, .inr (7, oM r i j))] H → va_D A [(h, .inr (7, oM r i j))] → va_S A s.heap H locs → lv_has ls 3 [] → W p l e ({ frames := 1, cells := 0, slots := 0, locals := 40 }) s m args below meth c H locs 0 0 (MQ below (va_Qi (fun (r9 : Int32) (u9 : Unit) => (iR r9 0 1)) (fun u => k_B (dC, dI) vwCl (tyy cI cJ cZ cM) A ((fun (u9 : Unit) => [(h, .inr (7, oM r i j))]) u)) A) args s 0 0 A) (F0 m 21 ls []) := by
    intro   H locs ls hP hD hS hl
    refine lv_iconst (v := 0) hx hb dX7_isWord_21 (by decide +kernel) ?_
    exact k_ri B hP hD hS dX7_isWord_22 () [0] rfl rfl rfl (Nat.le_of_ble_eq_true rfl) (Nat.le_of_ble_eq_true rfl) (iR_c (n := 0) (by decide +kernel) (by decide +kernel))
  refine lv_icmp_ne (tgt := 21) hx hb dX7_isWord_5 (by decide) (fun c_5 => ?_) (fun c_5 => ?_)
  · have c_5 : ¬ (i 3) = 1 := c_5
    exact J_21   H locs ls hP hD hS (lv_sub hl [] rfl)
  · have c_5 : (i 3) = 1 := c_5
    have f_8_2 : iR (i 3) 1 1 := iR_eqL c_5 f_1_1 (iR_c (n := 1) (by decide +kernel) (by decide +kernel)) (by decide +kernel)
    refine lv_aload_n hx hb dX7_isWord_8 rfl (lv_at hl 0 rfl) ?_
    refine k_get (D := (dC, dI)) (ci := 7) (v := .long (j 7)) (C := RX7) (T := TX7) (N := 92) hx hb hts hinX7 hown hK hP 0 rfl rfl 7 (by decide) w_1 rfl rfl dX7_isWord_9 ?_
    refine lv_lload_n hx hb dX7_isWord_12 rfl (lv_at hl 1 rfl) ?_
    refine W.lcmp hx hb dX7_isWord_13 ?_
    refine lv_topi (fun y_13 ey_13 => ?_)
    refine lv_if_ne (tgt := 21) hx hb dX7_isWord_14 (by decide) (fun c_14 => ?_) (fun c_14 => ?_)
    · have c_14 : ¬ y_13 = 0 := c_14
      have lc_14 : ¬ (j 7) = x1 := l_cmpne ey_13 c_14
      exact J_21   H locs ls hP hD hS (lv_sub hl [] rfl)
    · have c_14 : y_13 = 0 := c_14
      have f_17_3 : iR y_13 0 0 := iR_eqL c_14 (iR_top _) (iR_c (n := 0) (by decide +kernel) (by decide +kernel)) (by decide +kernel)
      have lc_14 : (j 7) = x1 := l_cmpe ey_13 c_14
      refine lv_iconst (v := 1) hx hb dX7_isWord_17 (by decide +kernel) ?_
      refine lv_goto (tgt := 22) hx hb dX7_isWord_18 (by decide) ?_
      exact k_ri B hP hD hS dX7_isWord_22 () [0] rfl rfl rfl (Nat.le_of_ble_eq_true rfl) (Nat.le_of_ble_eq_true rfl) (iR_c (n := 1) (by decide +kernel) (by decide +kernel))
set_option maxHeartbeats 8000000 in
set_option maxRecDepth 100000 in
theorem s_X7_must__v1 (l : Launch) (dC : Nat → ClassId) (dI : Nat → Nat → Nat) (cI cJ cZ cM : ClassId) (h : Nat) (r : Nat → Nat) (i : Nat → Int32) (j : Nat → Int64) (x1 : Int64) (f0 : Nat → Int32) (hI : mR i) (hf0 : aR f0 0 255) : k_Mv l yX7_must_ wsX7_must_ ({ frames := 3, cells := 0, slots := 0, locals := 87 }) (dC, dI) vwCl (tyy cI cJ cZ cM) [(h, .inr (7, oM r i j)), ((r 0), .inl (cI, 1800, .inl f0))] [.ref h, .long x1] 0 0 (fun (u9 : SU) => [(h, .inr (7, oM r (upd (upd (upd (upd (upd (upd (upd i 3 (u9.1 0)) 4 (u9.1 1)) 5 (u9.1 2)) 6 (u9.1 3)) 8 (u9.1 4)) 9 (u9.1 5)) 12 (u9.1 6)) (vp_updL j 7 (u9.2.1 0)))), ((r 0), .inl (cI, 1800, .inl f0))]) (fun (u9 : SU) => (iR (u9.1 0) 0 3) ∧ (iR (u9.1 1) 0 1600) ∧ (iR (u9.1 2) 0 1600) ∧ (iR (u9.1 4) 0 6)) := by
  refine fun sz => k_enter (cc := cX7_must_) (maxL := 3) (ret := none) (Qc := fun A => va_Qv (fun (u9 : SU) => (iR (u9.1 0) 0 3) ∧ (iR (u9.1 1) 0 1600) ∧ (iR (u9.1 2) 0 1600) ∧ (iR (u9.1 4) 0 6)) (fun u => k_B (dC, dI) vwCl (tyy cI cJ cZ cM) A ((fun (u9 : SU) => [(h, .inr (7, oM r (upd (upd (upd (upd (upd (upd (upd i 3 (u9.1 0)) 4 (u9.1 1)) 5 (u9.1 2)) 6 (u9.1 3)) 8 (u9.1 4)) 9 (u9.1 5)) 12 (u9.1 6)) (vp_updL j 7 (u9.2.1 0)))), ((r 0), .inl (cI, 1800, .inl f0))]) u)) A) sz (by decide +kernel) rfl (Nat.le_of_ble_eq_true rfl) (fun p e s m args below meth c A ls H locs B hP hD hS hl => ?_)
  obtain ⟨hx, hb, hml, hown, hts, hr, hlk, hnm, hK, hA, hN, hC⟩ := id B
  have hown : s.vm.findClass RX7 = some m.cls := hown
  have hl : lv_has ls 3 [(0, .ref h), (1, .long x1)] := hl
  have w_0 : (Cond.fieldLink RX7 36 "WishSeaModel" "faultKind" "I").before args s = true := hts _ (List.mem_of_getElem? (i := 1) rfl)
  have w_1 : (Cond.fieldLink RX7 23 "WishSeaModel" "signAt" "I").before args s = true := hts _ (List.mem_of_getElem? (i := 2) rfl)
  have hinX7 : ∀ w ∈ u_ws RX7 TX7 92, w ∈ wsX7_must_ := fun _ h => List.mem_cons_of_mem _ (List.mem_append_right _ h)
  refine lv_aload_n hx hb dX7_must__0 rfl (lv_at hl 0 rfl) ?_
  refine k_cv (wc := [(h, .inr (7, oM r i j))]) (wr := [((r 0), .inl (cI, 1800, .inl f0))]) (fun hPc hDc hFc => va_runV (As := []) (rest := []) ⟨hx, hb, hml, hown, hts⟩ (s_X7_lex_v1 l dC dI cI cJ cZ cM h r i j hI H.size) (cwV 0 hts gX7_must__X7_lex rfl rfl rfl (by decide +kernel) ⟨(Nat.le_of_ble_eq_true rfl), (Nat.le_of_ble_eq_true rfl)⟩) (k_pV hPc hDc hK hN hC hS hFc hP (q0 := 0) (ci := 7) rfl rfl) rfl rfl hl.1 rfl (lv_room (Nat.le_of_ble_eq_true rfl)) dX7_must__1 ⟨(Nat.le_of_ble_eq_true rfl), (Nat.le_of_ble_eq_true rfl)⟩) hP hD hS hA [0] [1] rfl rfl rfl rfl (by decide) (fun _ => rfl) 0 0 rfl rfl (fun u_1 H locs hw hP hD hS => ?_)
  obtain g_1_0 := hw
  have hP : va_P (dC, dI) vwCl [((r 0), .inl (cI, 1800, .inl f0)), (h, .inr (7, oM r (upd (upd i 8 (u_1.1 0)) 9 (u_1.1 1)) j))] H := hP
  have hD : va_D A [((r 0), .inl (cI, 1800, .inl f0)), (h, .inr (7, oM r (upd (upd i 8 (u_1.1 0)) 9 (u_1.1 1)) j))] := hD
  refine lv_aload_n hx hb dX7_must__4 rfl (lv_at hl 0 rfl) ?_
  refine k_get (D := (dC, dI)) (ci := 7) (v := .int (u_1.1 0)) (C := RX7) (T := TX7) (N := 92) hx hb hts hinX7 hown hK hP 1 rfl rfl 8 (by decide) w_0 rfl rfl dX7_must__5 ?_
  refine lv_if_le (tgt := 12) hx hb dX7_must__8 (by decide) (fun c_8 => ?_) (fun c_8 => ?_)
  · have c_8 : (u_1.1 0) ≤ 0 := c_8
    have f_12_1 : iR (u_1.1 0) 0 0 := iR_leL c_8 g_1_0 (iR_c (n := 0) (by decide +kernel) (by decide +kernel)) (by decide +kernel)
    refine lv_aload_n hx hb dX7_must__12 rfl (lv_at hl 0 rfl) ?_
    refine lv_lload_n hx hb dX7_must__13 rfl (lv_at hl 1 rfl) ?_
    refine k_ci (wc := [(h, .inr (7, oM r (upd (upd i 8 (u_1.1 0)) 9 (u_1.1 1)) j))]) (wr := [((r 0), .inl (cI, 1800, .inl f0))]) (fun hPc hDc hFc => va_runV (As := [.long x1]) (rest := []) ⟨hx, hb, hml, hown, hts⟩ (s_X7_isWord_v1 l dC dI cI cJ cZ cM h r (upd (upd i 8 (u_1.1 0)) 9 (u_1.1 1)) j x1 (mR_upd 9 (mR_upd 8 hI (show iR _ (loI 8) (hiI 8) from (iR_w f_12_1 (by decide +kernel)))) (show iR _ (loI 9) (hiI 9) from (iR_top _))) H.size) (cwV 1 hts gX7_must__X7_isWord rfl rfl rfl (by decide +kernel) ⟨(Nat.le_of_ble_eq_true rfl), (Nat.le_of_ble_eq_true rfl)⟩) (k_pV hPc hDc hK hN hC hS hFc hP (q0 := 1) (ci := 7) rfl rfl) rfl rfl hl.1 rfl (lv_room (Nat.le_of_ble_eq_true rfl)) dX7_must__14 ⟨(Nat.le_of_ble_eq_true rfl), (Nat.le_of_ble_eq_true rfl)⟩) hP hD hS hA [1] [0] rfl rfl rfl rfl (by decide) (fun _ => rfl) 0 0 rfl rfl (fun r_14 u_14 H locs hw hP hD hS => ?_)
    obtain g_14_0 := hw
    have hP : va_P (dC, dI) vwCl [((r 0), .inl (cI, 1800, .inl f0)), (h, .inr (7, oM r (upd (upd i 8 (u_1.1 0)) 9 (u_1.1 1)) j))] H := hP
    have hD : va_D A [((r 0), .inl (cI, 1800, .inl f0)), (h, .inr (7, oM r (upd (upd i 8 (u_1.1 0)) 9 (u_1.1 1)) j))] := hD
    have J_29 : ∀ (j29_M0_8 : Int32) (j29_M0_9 : Int32) (hj29_M0_8 : iR j29_M0_8 0 6) (H : Heap) (locs : List Loc) (ls : Array Slot), va_P (dC, dI) vwCl [(h, .inr (7, oM r (upd (upd i 8 j29_M0_8) 9 j29_M0_9) j)), ((r 0), .inl (cI, 1800, .inl f0))] H → va_D A [(h, .inr (7, oM r (upd (upd i 8 j29_M0_8) 9 j29_M0_9) j)), ((r 0), .inl (cI, 1800, .inl f0))] → va_S A s.heap H locs → lv_has ls 3 [(0, .ref h)] → W p l e ({ frames := 3, cells := 0, slots := 0, locals := 87 }) s m args below meth c H locs 0 0 (MQ below (va_Qv (fun (u9 : SU) => (iR (u9.1 0) 0 3) ∧ (iR (u9.1 1) 0 1600) ∧ (iR (u9.1 2) 0 1600) ∧ (iR (u9.1 4) 0 6)) (fun u => k_B (dC, dI) vwCl (tyy cI cJ cZ cM) A ((fun (u9 : SU) => [(h, .inr (7, oM r (upd (upd (upd (upd (upd (upd (upd i 3 (u9.1 0)) 4 (u9.1 1)) 5 (u9.1 2)) 6 (u9.1 3)) 8 (u9.1 4)) 9 (u9.1 5)) 12 (u9.1 6)) (vp_updL j 7 (u9.2.1 0)))), ((r 0), .inl (cI, 1800, .inl f0))]) u)) A) args s 0 0 A) (F0 m 29 ls []) := by
      intro j29_M0_8 j29_M0_9 hj29_M0_8 H locs ls hP hD hS hl
      refine lv_aload_n hx hb dX7_must__29 rfl (lv_at hl 0 rfl) ?_
      refine k_get (D := (dC, dI)) (ci := 7) (v := .int j29_M0_8) (C := RX7) (T := TX7) (N := 92) hx hb hts hinX7 hown hK hP 0 rfl rfl 8 (by decide) w_0 rfl rfl dX7_must__30 ?_
      have J_40 : ∀ (j40_M0_3 : Int32) (j40_M0_4 : Int32) (j40_M0_5 : Int32) (j40_M0_6 : Int32) (j40_M0_7 : Int64) (j40_M0_12 : Int32) (hj40_M0_3 : iR j40_M0_3 0 3) (hj40_M0_4 : iR j40_M0_4 0 1600) (hj40_M0_5 : iR j40_M0_5 0 1600) (H : Heap) (locs : List Loc) (ls : Array Slot), va_P (dC, dI) vwCl [(h, .inr (7, oM r (upd (upd (upd (upd (upd (upd (upd i 3 j40_M0_3) 4 j40_M0_4) 5 j40_M0_5) 6 j40_M0_6) 8 j29_M0_8) 9 j29_M0_9) 12 j40_M0_12) (vp_updL j 7 j40_M0_7))), ((r 0), .inl (cI, 1800, .inl f0))] H → va_D A [(h, .inr (7, oM r (upd (upd (upd (upd (upd (upd (upd i 3 j40_M0_3) 4 j40_M0_4) 5 j40_M0_5) 6 j40_M0_6) 8 j29_M0_8) 9 j29_M0_9) 12 j40_M0_12) (vp_updL j 7 j40_M0_7))), ((r 0), .inl (cI, 1800, .inl f0))] → va_S A s.heap H locs → lv_has ls 3 [] → W p l e ({ frames := 3, cells := 0, slots := 0, locals := 87 }) s m args below meth c H locs 0 0 (MQ below (va_Qv (fun (u9 : SU) => (iR (u9.1 0) 0 3) ∧ (iR (u9.1 1) 0 1600) ∧ (iR (u9.1 2) 0 1600) ∧ (iR (u9.1 4) 0 6)) (fun u => k_B (dC, dI) vwCl (tyy cI cJ cZ cM) A ((fun (u9 : SU) => [(h, .inr (7, oM r (upd (upd (upd (upd (upd (upd (upd i 3 (u9.1 0)) 4 (u9.1 1)) 5 (u9.1 2)) 6 (u9.1 3)) 8 (u9.1 4)) 9 (u9.1 5)) 12 (u9.1 6)) (vp_updL j 7 (u9.2.1 0)))), ((r 0), .inl (cI, 1800, .inl f0))]) u)) A) args s 0 0 A) (F0 m 40 ls []) := by
        intro j40_M0_3 j40_M0_4 j40_M0_5 j40_M0_6 j40_M0_7 j40_M0_12 hj40_M0_3 hj40_M0_4 hj40_M0_5 H locs ls hP hD hS hl
        exact k_rv B hP hD hS dX7_must__40 ((fun k9 => match k9 with | 0 => j40_M0_3 | 1 => j40_M0_4 | 2 => j40_M0_5 | 3 => j40_M0_6 | 4 => j29_M0_8 | 5 => j29_M0_9 | 6 => j40_M0_12 | _ => 0), (fun k9 => match k9 with | 0 => j40_M0_7 | _ => 0), (fun _ => (fun _ => 0)), (fun _ => (fun _ => 0)), (fun _ => 0)) [0, 1] rfl rfl (Nat.le_of_ble_eq_true rfl) (Nat.le_of_ble_eq_true rfl) ⟨hj40_M0_3, hj40_M0_4, hj40_M0_5, hj29_M0_8⟩
      refine lv_if_ne (tgt := 40) hx hb dX7_must__33 (by decide) (fun c_33 => ?_) (fun c_33 => ?_)
      · have c_33 : ¬ j29_M0_8 = 0 := c_33
        have f_40_1 : iR j29_M0_8 1 6 := iR_neL c_33 hj29_M0_8 (iR_c (n := 0) (by decide +kernel) (by decide +kernel)) (by decide +kernel)
        exact J_40 (i 3) (i 4) (i 5) (i 6) (j 7) (i 12) (show iR (i 3) 0 3 from hI 3) (show iR (i 4) 0 1600 from hI 4) (show iR (i 5) 0 1600 from hI 5) H locs ls hP hD hS (lv_sub hl [] rfl)
      · have c_33 : j29_M0_8 = 0 := c_33
        have f_36_1 : iR j29_M0_8 0 0 := iR_eqL c_33 hj29_M0_8 (iR_c (n := 0) (by decide +kernel) (by decide +kernel)) (by decide +kernel)
        refine lv_aload_n hx hb dX7_must__36 rfl (lv_at hl 0 rfl) ?_
        refine k_cv (wc := [(h, .inr (7, oM r (upd (upd i 8 j29_M0_8) 9 j29_M0_9) j)), ((r 0), .inl (cI, 1800, .inl f0))]) (wr := []) (fun hPc hDc hFc => va_runV (As := []) (rest := []) ⟨hx, hb, hml, hown, hts⟩ (s_X7_ahead_v1 l dC dI cI cJ cZ cM h r (upd (upd i 8 j29_M0_8) 9 j29_M0_9) j f0 (mR_upd 9 (mR_upd 8 hI (show iR _ (loI 8) (hiI 8) from (iR_w f_36_1 (by decide +kernel)))) (show iR _ (loI 9) (hiI 9) from (iR_top _))) hf0 H.size) (cwV 0 hts gX7_must__X7_ahead rfl rfl rfl (by decide +kernel) ⟨(Nat.le_of_ble_eq_true rfl), (Nat.le_of_ble_eq_true rfl)⟩) (k_pV hPc hDc hK hN hC hS hFc hP (q0 := 0) (ci := 7) rfl rfl) rfl rfl hl.1 rfl (lv_room (Nat.le_of_ble_eq_true rfl)) dX7_must__37 ⟨(Nat.le_of_ble_eq_true rfl), (Nat.le_of_ble_eq_true rfl)⟩) hP hD hS hA [0, 1] [] rfl rfl rfl rfl (by decide) (fun _ => rfl) 0 0 rfl rfl (fun u_37 H locs hw hP hD hS => ?_)
        obtain ⟨g_37_0, g_37_1, g_37_2, g_37_3⟩ := hw
        have hP : va_P (dC, dI) vwCl [(h, .inr (7, oM r (upd (upd (upd (upd (upd (upd (upd i 3 (u_37.1 0)) 4 (u_37.1 1)) 5 (u_37.1 2)) 6 (u_37.1 3)) 8 j29_M0_8) 9 j29_M0_9) 12 (u_37.1 4)) (vp_updL j 7 (u_37.2.1 0)))), ((r 0), .inl (cI, 1800, .inl f0))] H := hP
        have hD : va_D A [(h, .inr (7, oM r (upd (upd (upd (upd (upd (upd (upd i 3 (u_37.1 0)) 4 (u_37.1 1)) 5 (u_37.1 2)) 6 (u_37.1 3)) 8 j29_M0_8) 9 j29_M0_9) 12 (u_37.1 4)) (vp_updL j 7 (u_37.2.1 0)))), ((r 0), .inl (cI, 1800, .inl f0))] := hD
        exact J_40 (u_37.1 0) (u_37.1 1) (u_37.1 2) (u_37.1 3) (u_37.2.1 0) (u_37.1 4) g_37_0 g_37_1 g_37_2 H locs ls hP hD hS (lv_sub hl [] rfl)
    refine lv_if_ne (tgt := 29) hx hb dX7_must__17 (by decide) (fun c_17 => ?_) (fun c_17 => ?_)
    · have c_17 : ¬ r_14 = 0 := c_17
      have f_29_2 : iR r_14 1 1 := iR_neL c_17 g_14_0 (iR_c (n := 0) (by decide +kernel) (by decide +kernel)) (by decide +kernel)
      exact J_29 (u_1.1 0) (u_1.1 1) (iR_w f_12_1 (by decide +kernel)) H locs ls (hP.sub [1, 0] rfl) (hD.sub [1, 0] (by decide +kernel) rfl) hS (lv_sub hl [0] rfl)
    · have c_17 : r_14 = 0 := c_17
      have f_20_2 : iR r_14 0 0 := iR_eqL c_17 g_14_0 (iR_c (n := 0) (by decide +kernel) (by decide +kernel)) (by decide +kernel)
      refine lv_aload_n hx hb dX7_must__20 rfl (lv_at hl 0 rfl) ?_
      refine lv_iconst (v := 1) hx hb dX7_must__21 (by decide +kernel) ?_
      refine lv_aload_n hx hb dX7_must__22 rfl (lv_at hl 0 rfl) ?_
      have f_23_3 : iR (i 4) 0 1600 := hI 4
      refine k_get (D := (dC, dI)) (ci := 7) (v := .int (i 4)) (C := RX7) (T := TX7) (N := 92) hx hb hts hinX7 hown hK hP 1 rfl rfl 4 (by decide) w_1 rfl rfl dX7_must__23 ?_
      refine k_cv (wc := [(h, .inr (7, oM r (upd (upd i 8 (u_1.1 0)) 9 (u_1.1 1)) j))]) (wr := [((r 0), .inl (cI, 1800, .inl f0))]) (fun hPc hDc hFc => va_runV (As := [.int 1, .int (i 4)]) (rest := []) ⟨hx, hb, hml, hown, hts⟩ (s_X7_blame_v2 l dC dI cI cJ cZ cM h r (upd (upd i 8 (u_1.1 0)) 9 (u_1.1 1)) j 1 (i 4) (iR_c (n := 1) (by decide +kernel) (by decide +kernel)) (mR_upd 9 (mR_upd 8 hI (show iR _ (loI 8) (hiI 8) from (iR_w f_12_1 (by decide +kernel)))) (show iR _ (loI 9) (hiI 9) from (iR_top _))) H.size) (cwV 2 hts gX7_must__X7_blame rfl rfl rfl (by decide +kernel) ⟨(Nat.le_of_ble_eq_true rfl), (Nat.le_of_ble_eq_true rfl)⟩) (k_pV hPc hDc hK hN hC hS hFc hP (q0 := 1) (ci := 7) rfl rfl) rfl rfl hl.1 rfl (lv_room (Nat.le_of_ble_eq_true rfl)) dX7_must__26 ⟨(Nat.le_of_ble_eq_true rfl), (Nat.le_of_ble_eq_true rfl)⟩) hP hD hS hA [1] [0] rfl rfl rfl rfl (by decide) (fun _ => rfl) 0 0 rfl rfl (fun u_26 H locs hw hP hD hS => ?_)
      obtain g_26_0 := hw
      have hP : va_P (dC, dI) vwCl [((r 0), .inl (cI, 1800, .inl f0)), (h, .inr (7, oM r (upd (upd i 8 (u_26.1 0)) 9 (u_26.1 1)) j))] H := hP
      have hD : va_D A [((r 0), .inl (cI, 1800, .inl f0)), (h, .inr (7, oM r (upd (upd i 8 (u_26.1 0)) 9 (u_26.1 1)) j))] := hD
      exact J_29 (u_26.1 0) (u_26.1 1) (iR_w g_26_0 (by decide +kernel)) H locs ls (hP.sub [1, 0] rfl) (hD.sub [1, 0] (by decide +kernel) rfl) hS (lv_sub hl [0] rfl)
  · have c_8 : 0 < (u_1.1 0) := i_nle c_8
    have f_11_1 : iR (u_1.1 0) 1 6 := iR_ltR c_8 (iR_c (n := 0) (by decide +kernel) (by decide +kernel)) g_1_0 (by decide +kernel)
    exact k_rv B hP hD hS dX7_must__11 ((fun k9 => match k9 with | 0 => (i 3) | 1 => (i 4) | 2 => (i 5) | 3 => (i 6) | 4 => (u_1.1 0) | 5 => (u_1.1 1) | 6 => (i 12) | _ => 0), (fun k9 => match k9 with | 0 => (j 7) | _ => 0), (fun _ => (fun _ => 0)), (fun _ => (fun _ => 0)), (fun _ => 0)) [1, 0] rfl rfl (Nat.le_of_ble_eq_true rfl) (Nat.le_of_ble_eq_true rfl) ⟨(hI 3), (hI 4), (hI 5), (iR_w f_11_1 (by decide +kernel))⟩
set_option maxHeartbeats 8000000 in
set_option maxRecDepth 100000 in
theorem s_X7_number_v2 (l : Launch) (dC : Nat → ClassId) (dI : Nat → Nat → Nat) (cI cJ cZ cM : ClassId) (h : Nat) (r : Nat → Nat) (i : Nat → Int32) (j : Nat → Int64) (x1 : Int32) (x2 : Int32) (f0 : Nat → Int32) (hI : mR i) (hf0 : aR f0 0 255) : k_Mi l yX7_number wsX7_number ({ frames := 3, cells := 0, slots := 0, locals := 87 }) (dC, dI) vwCl (tyy cI cJ cZ cM) [(h, .inr (7, oM r i j)), ((r 0), .inl (cI, 1800, .inl f0))] [.ref h, .int x1, .int x2] 0 0 (fun (u9 : SU) => [(h, .inr (7, oM r (upd (upd (upd (upd (upd (upd (upd i 3 (u9.1 0)) 4 (u9.1 1)) 5 (u9.1 2)) 6 (u9.1 3)) 8 (u9.1 4)) 9 (u9.1 5)) 12 (u9.1 6)) (vp_updL j 7 (u9.2.1 0)))), ((r 0), .inl (cI, 1800, .inl f0))]) (fun (r9 : Int32) (u9 : SU) => (iR (u9.1 0) 0 3) ∧ (iR (u9.1 1) 0 1600) ∧ (iR (u9.1 2) 0 1600) ∧ (iR (u9.1 4) 0 6) ∧ ((0 < (u9.1 4)) ∨ ((x1 ≤ r9) ∧ (r9 ≤ x2)))) := by
  refine fun sz => k_enter (cc := cX7_number) (maxL := 4) (ret := some (.int)) (Qc := fun A => va_Qi (fun (r9 : Int32) (u9 : SU) => (iR (u9.1 0) 0 3) ∧ (iR (u9.1 1) 0 1600) ∧ (iR (u9.1 2) 0 1600) ∧ (iR (u9.1 4) 0 6) ∧ ((0 < (u9.1 4)) ∨ ((x1 ≤ r9) ∧ (r9 ≤ x2)))) (fun u => k_B (dC, dI) vwCl (tyy cI cJ cZ cM) A ((fun (u9 : SU) => [(h, .inr (7, oM r (upd (upd (upd (upd (upd (upd (upd i 3 (u9.1 0)) 4 (u9.1 1)) 5 (u9.1 2)) 6 (u9.1 3)) 8 (u9.1 4)) 9 (u9.1 5)) 12 (u9.1 6)) (vp_updL j 7 (u9.2.1 0)))), ((r 0), .inl (cI, 1800, .inl f0))]) u)) A) sz (by decide +kernel) rfl (Nat.le_of_ble_eq_true rfl) (fun p e s m args below meth c A ls H locs B hP hD hS hl => ?_)
  obtain ⟨hx, hb, hml, hown, hts, hr, hlk, hnm, hK, hA, hN, hC⟩ := id B
  have hown : s.vm.findClass RX7 = some m.cls := hown
  have hl : lv_has ls 4 [(0, .ref h), (1, .int x1), (2, .int x2)] := hl
  have w_0 : (Cond.fieldLink RX7 36 "WishSeaModel" "faultKind" "I").before args s = true := hts _ (List.mem_of_getElem? (i := 1) rfl)
  have w_1 : (Cond.fieldLink RX7 20 "WishSeaModel" "sign" "I").before args s = true := hts _ (List.mem_of_getElem? (i := 2) rfl)
  have w_2 : (Cond.fieldLink RX7 29 "WishSeaModel" "value" "I").before args s = true := hts _ (List.mem_of_getElem? (i := 4) rfl)
  have w_3 : (Cond.fieldLink RX7 23 "WishSeaModel" "signAt" "I").before args s = true := hts _ (List.mem_of_getElem? (i := 3) rfl)
  have hinX7 : ∀ w ∈ u_ws RX7 TX7 92, w ∈ wsX7_number := fun _ h => List.mem_cons_of_mem _ (List.mem_append_right _ h)
  refine lv_aload_n hx hb dX7_number_0 rfl (lv_at hl 0 rfl) ?_
  refine k_cv (wc := [(h, .inr (7, oM r i j))]) (wr := [((r 0), .inl (cI, 1800, .inl f0))]) (fun hPc hDc hFc => va_runV (As := []) (rest := []) ⟨hx, hb, hml, hown, hts⟩ (s_X7_lex_v1 l dC dI cI cJ cZ cM h r i j hI H.size) (cwV 0 hts gX7_number_X7_lex rfl rfl rfl (by decide +kernel) ⟨(Nat.le_of_ble_eq_true rfl), (Nat.le_of_ble_eq_true rfl)⟩) (k_pV hPc hDc hK hN hC hS hFc hP (q0 := 0) (ci := 7) rfl rfl) rfl rfl hl.1 rfl (lv_room (Nat.le_of_ble_eq_true rfl)) dX7_number_1 ⟨(Nat.le_of_ble_eq_true rfl), (Nat.le_of_ble_eq_true rfl)⟩) hP hD hS hA [0] [1] rfl rfl rfl rfl (by decide) (fun _ => rfl) 0 0 rfl rfl (fun u_1 H locs hw hP hD hS => ?_)
  obtain g_1_0 := hw
  have hP : va_P (dC, dI) vwCl [((r 0), .inl (cI, 1800, .inl f0)), (h, .inr (7, oM r (upd (upd i 8 (u_1.1 0)) 9 (u_1.1 1)) j))] H := hP
  have hD : va_D A [((r 0), .inl (cI, 1800, .inl f0)), (h, .inr (7, oM r (upd (upd i 8 (u_1.1 0)) 9 (u_1.1 1)) j))] := hD
  refine lv_aload_n hx hb dX7_number_4 rfl (lv_at hl 0 rfl) ?_
  refine k_get (D := (dC, dI)) (ci := 7) (v := .int (u_1.1 0)) (C := RX7) (T := TX7) (N := 92) hx hb hts hinX7 hown hK hP 1 rfl rfl 8 (by decide) w_0 rfl rfl dX7_number_5 ?_
  refine lv_if_le (tgt := 13) hx hb dX7_number_8 (by decide) (fun c_8 => ?_) (fun c_8 => ?_)
  · have c_8 : (u_1.1 0) ≤ 0 := c_8
    have f_13_1 : iR (u_1.1 0) 0 0 := iR_leL c_8 g_1_0 (iR_c (n := 0) (by decide +kernel) (by decide +kernel)) (by decide +kernel)
    refine lv_aload_n hx hb dX7_number_13 rfl (lv_at hl 0 rfl) ?_
    have f_14_2 : iR (i 3) 0 3 := hI 3
    refine k_get (D := (dC, dI)) (ci := 7) (v := .int (i 3)) (C := RX7) (T := TX7) (N := 92) hx hb hts hinX7 hown hK hP 1 rfl rfl 3 (by decide) w_1 rfl rfl dX7_number_14 ?_
    refine lv_iconst (v := 2) hx hb dX7_number_17 (by decide +kernel) ?_
    refine lv_icmp_eq (tgt := 30) hx hb dX7_number_18 (by decide) (fun c_18 => ?_) (fun c_18 => ?_)
    · have c_18 : (i 3) = 2 := c_18
      have f_30_3 : iR (i 3) 2 2 := iR_eqL c_18 f_14_2 (iR_c (n := 2) (by decide +kernel) (by decide +kernel)) (by decide +kernel)
      refine lv_aload_n hx hb dX7_number_30 rfl (lv_at hl 0 rfl) ?_
      refine k_get (D := (dC, dI)) (ci := 7) (v := .int (u_1.1 0)) (C := RX7) (T := TX7) (N := 92) hx hb hts hinX7 hown hK hP 1 rfl rfl 8 (by decide) w_0 rfl rfl dX7_number_31 ?_
      refine lv_if_ne (tgt := 58) hx hb dX7_number_34 (by decide) (fun c_34p18 => ?_) (fun c_34p18 => ?_)
      · exact absurd (i_eqc f_13_1 (iR_c (n := 0) (by decide +kernel) (by decide +kernel))) c_34p18
      · have c_34p18 : (u_1.1 0) = 0 := c_34p18
        refine lv_aload_n hx hb dX7_number_37 rfl (lv_at hl 0 rfl) ?_
        refine k_get (D := (dC, dI)) (ci := 7) (v := .int (i 6)) (C := RX7) (T := TX7) (N := 92) hx hb hts hinX7 hown hK hP 1 rfl rfl 6 (by decide) w_2 rfl rfl dX7_number_38 ?_
        refine lv_iload_n hx hb dX7_number_41 rfl (lv_at hl 1 rfl) ?_
        refine lv_iload_n hx hb dX7_number_42 rfl (lv_at hl 2 rfl) ?_
        refine k_ci (wc := []) (wr := [((r 0), .inl (cI, 1800, .inl f0)), (h, .inr (7, oM r (upd (upd i 8 (u_1.1 0)) 9 (u_1.1 1)) j))]) (fun hPc hDc hFc => va_runS (As := [.int (i 6), .int x1, .int x2]) (rest := []) ⟨hx, hb, hml, hown, hts⟩ (s_X7_is_v0 l dC dI cI cJ cZ cM (i 6) x1 x2 H.size) (va_cwS 3 hts gX7_number_X7_is rfl rfl rfl (by decide +kernel) ⟨(Nat.le_of_ble_eq_true rfl), (Nat.le_of_ble_eq_true rfl)⟩) (k_pS hPc hDc hK hN hC hS hFc) rfl rfl hl.1 rfl (lv_room (Nat.le_of_ble_eq_true rfl)) dX7_number_43 ⟨(Nat.le_of_ble_eq_true rfl), (Nat.le_of_ble_eq_true rfl)⟩) hP hD hS hA [] [0, 1] rfl rfl rfl rfl (by decide) (fun _ => rfl) 0 0 rfl rfl (fun r_43p18 u_43p18 H locs hw hP hD hS => ?_)
        obtain ⟨g_43p18_0, g_43p18_1⟩ := hw
        have hP : va_P (dC, dI) vwCl [((r 0), .inl (cI, 1800, .inl f0)), (h, .inr (7, oM r (upd (upd i 8 (u_1.1 0)) 9 (u_1.1 1)) j))] H := hP
        have hD : va_D A [((r 0), .inl (cI, 1800, .inl f0)), (h, .inr (7, oM r (upd (upd i 8 (u_1.1 0)) 9 (u_1.1 1)) j))] := hD
        refine lv_if_ne (tgt := 58) hx hb dX7_number_46 (by decide) (fun c_46p18 => ?_) (fun c_46p18 => ?_)
        · have c_46p18 : ¬ r_43p18 = 0 := c_46p18
          have f_58p18_4 : iR r_43p18 1 1 := iR_neL c_46p18 g_43p18_0 (iR_c (n := 0) (by decide +kernel) (by decide +kernel)) (by decide +kernel)
          obtain ⟨d_46p18_1_0, d_46p18_1_1⟩ := g_43p18_1.resolve_left c_46p18
          refine lv_aload_n hx hb dX7_number_58 rfl (lv_at hl 0 rfl) ?_
          refine k_get (D := (dC, dI)) (ci := 7) (v := .int (i 6)) (C := RX7) (T := TX7) (N := 92) hx hb hts hinX7 hown hK hP 1 rfl rfl 6 (by decide) w_2 rfl rfl dX7_number_59 ?_
          refine lv_istore_n (lv' := [(3, .int (i 6)), (0, .ref h), (1, .int x1), (2, .int x2)]) hx hb dX7_number_62 rfl hl (by decide) rfl (fun ls hl => ?_)
          refine lv_aload_n hx hb dX7_number_63 rfl (lv_at hl 1 rfl) ?_
          refine k_get (D := (dC, dI)) (ci := 7) (v := .int (u_1.1 0)) (C := RX7) (T := TX7) (N := 92) hx hb hts hinX7 hown hK hP 1 rfl rfl 8 (by decide) w_0 rfl rfl dX7_number_64 ?_
          refine lv_if_ne (tgt := 74) hx hb dX7_number_67 (by decide) (fun c_67p18p46 => ?_) (fun c_67p18p46 => ?_)
          · exact absurd (i_eqc f_13_1 (iR_c (n := 0) (by decide +kernel) (by decide +kernel))) c_67p18p46
          · have c_67p18p46 : (u_1.1 0) = 0 := c_67p18p46
            refine lv_aload_n hx hb dX7_number_70 rfl (lv_at hl 1 rfl) ?_
            refine k_cv (wc := [(h, .inr (7, oM r (upd (upd i 8 (u_1.1 0)) 9 (u_1.1 1)) j)), ((r 0), .inl (cI, 1800, .inl f0))]) (wr := []) (fun hPc hDc hFc => va_runV (As := []) (rest := []) ⟨hx, hb, hml, hown, hts⟩ (s_X7_ahead_v1 l dC dI cI cJ cZ cM h r (upd (upd i 8 (u_1.1 0)) 9 (u_1.1 1)) j f0 (mR_upd 9 (mR_upd 8 hI (show iR _ (loI 8) (hiI 8) from (iR_w f_13_1 (by decide +kernel)))) (show iR _ (loI 9) (hiI 9) from (iR_top _))) hf0 H.size) (cwV 0 hts gX7_number_X7_ahead rfl rfl rfl (by decide +kernel) ⟨(Nat.le_of_ble_eq_true rfl), (Nat.le_of_ble_eq_true rfl)⟩) (k_pV hPc hDc hK hN hC hS hFc hP (q0 := 1) (ci := 7) rfl rfl) rfl rfl hl.1 rfl (lv_room (Nat.le_of_ble_eq_true rfl)) dX7_number_71 ⟨(Nat.le_of_ble_eq_true rfl), (Nat.le_of_ble_eq_true rfl)⟩) hP hD hS hA [1, 0] [] rfl rfl rfl rfl (by decide) (fun _ => rfl) 0 0 rfl rfl (fun u_71p18p46 H locs hw hP hD hS => ?_)
            obtain ⟨g_71p18p46_0, g_71p18p46_1, g_71p18p46_2, g_71p18p46_3⟩ := hw
            have hP : va_P (dC, dI) vwCl [(h, .inr (7, oM r (upd (upd (upd (upd (upd (upd (upd i 3 (u_71p18p46.1 0)) 4 (u_71p18p46.1 1)) 5 (u_71p18p46.1 2)) 6 (u_71p18p46.1 3)) 8 (u_1.1 0)) 9 (u_1.1 1)) 12 (u_71p18p46.1 4)) (vp_updL j 7 (u_71p18p46.2.1 0)))), ((r 0), .inl (cI, 1800, .inl f0))] H := hP
            have hD : va_D A [(h, .inr (7, oM r (upd (upd (upd (upd (upd (upd (upd i 3 (u_71p18p46.1 0)) 4 (u_71p18p46.1 1)) 5 (u_71p18p46.1 2)) 6 (u_71p18p46.1 3)) 8 (u_1.1 0)) 9 (u_1.1 1)) 12 (u_71p18p46.1 4)) (vp_updL j 7 (u_71p18p46.2.1 0)))), ((r 0), .inl (cI, 1800, .inl f0))] := hD
            refine lv_iload_n hx hb dX7_number_74 rfl (lv_at hl 0 rfl) ?_
            exact k_ri B hP hD hS dX7_number_75 ((fun k9 => match k9 with | 0 => (u_71p18p46.1 0) | 1 => (u_71p18p46.1 1) | 2 => (u_71p18p46.1 2) | 3 => (u_71p18p46.1 3) | 4 => (u_1.1 0) | 5 => (u_1.1 1) | 6 => (u_71p18p46.1 4) | _ => 0), (fun k9 => match k9 with | 0 => (u_71p18p46.2.1 0) | _ => 0), (fun _ => (fun _ => 0)), (fun _ => (fun _ => 0)), (fun _ => 0)) [0, 1] rfl rfl rfl (Nat.le_of_ble_eq_true rfl) (Nat.le_of_ble_eq_true rfl) ⟨g_71p18p46_0, g_71p18p46_1, g_71p18p46_2, (iR_w f_13_1 (by decide +kernel)), (Or.inr ⟨d_46p18_1_0, d_46p18_1_1⟩)⟩
        · have c_46p18 : r_43p18 = 0 := c_46p18
          have f_49p18_4 : iR r_43p18 0 0 := iR_eqL c_46p18 g_43p18_0 (iR_c (n := 0) (by decide +kernel) (by decide +kernel)) (by decide +kernel)
          refine lv_aload_n hx hb dX7_number_49 rfl (lv_at hl 0 rfl) ?_
          refine lv_iconst (v := 4) hx hb dX7_number_50 (by decide +kernel) ?_
          refine lv_aload_n hx hb dX7_number_51 rfl (lv_at hl 0 rfl) ?_
          have f_52p18_5 : iR (i 4) 0 1600 := hI 4
          refine k_get (D := (dC, dI)) (ci := 7) (v := .int (i 4)) (C := RX7) (T := TX7) (N := 92) hx hb hts hinX7 hown hK hP 1 rfl rfl 4 (by decide) w_3 rfl rfl dX7_number_52 ?_
          refine k_cv (wc := [(h, .inr (7, oM r (upd (upd i 8 (u_1.1 0)) 9 (u_1.1 1)) j))]) (wr := [((r 0), .inl (cI, 1800, .inl f0))]) (fun hPc hDc hFc => va_runV (As := [.int 4, .int (i 4)]) (rest := []) ⟨hx, hb, hml, hown, hts⟩ (s_X7_blame_v2 l dC dI cI cJ cZ cM h r (upd (upd i 8 (u_1.1 0)) 9 (u_1.1 1)) j 4 (i 4) (iR_c (n := 4) (by decide +kernel) (by decide +kernel)) (mR_upd 9 (mR_upd 8 hI (show iR _ (loI 8) (hiI 8) from (iR_w f_13_1 (by decide +kernel)))) (show iR _ (loI 9) (hiI 9) from (iR_top _))) H.size) (cwV 2 hts gX7_number_X7_blame rfl rfl rfl (by decide +kernel) ⟨(Nat.le_of_ble_eq_true rfl), (Nat.le_of_ble_eq_true rfl)⟩) (k_pV hPc hDc hK hN hC hS hFc hP (q0 := 1) (ci := 7) rfl rfl) rfl rfl hl.1 rfl (lv_room (Nat.le_of_ble_eq_true rfl)) dX7_number_55 ⟨(Nat.le_of_ble_eq_true rfl), (Nat.le_of_ble_eq_true rfl)⟩) hP hD hS hA [1] [0] rfl rfl rfl rfl (by decide) (fun _ => rfl) 0 0 rfl rfl (fun u_55p18 H locs hw hP hD hS => ?_)
          obtain g_55p18_0 := hw
          have hP : va_P (dC, dI) vwCl [((r 0), .inl (cI, 1800, .inl f0)), (h, .inr (7, oM r (upd (upd i 8 (u_55p18.1 0)) 9 (u_55p18.1 1)) j))] H := hP
          have hD : va_D A [((r 0), .inl (cI, 1800, .inl f0)), (h, .inr (7, oM r (upd (upd i 8 (u_55p18.1 0)) 9 (u_55p18.1 1)) j))] := hD
          refine lv_aload_n hx hb dX7_number_58 rfl (lv_at hl 0 rfl) ?_
          refine k_get (D := (dC, dI)) (ci := 7) (v := .int (i 6)) (C := RX7) (T := TX7) (N := 92) hx hb hts hinX7 hown hK hP 1 rfl rfl 6 (by decide) w_2 rfl rfl dX7_number_59 ?_
          refine lv_istore_n (lv' := [(3, .int (i 6)), (0, .ref h), (1, .int x1), (2, .int x2)]) hx hb dX7_number_62 rfl hl (by decide) rfl (fun ls hl => ?_)
          refine lv_aload_n hx hb dX7_number_63 rfl (lv_at hl 1 rfl) ?_
          refine k_get (D := (dC, dI)) (ci := 7) (v := .int (u_55p18.1 0)) (C := RX7) (T := TX7) (N := 92) hx hb hts hinX7 hown hK hP 1 rfl rfl 8 (by decide) w_0 rfl rfl dX7_number_64 ?_
          refine lv_if_ne (tgt := 74) hx hb dX7_number_67 (by decide) (fun c_67p18p55 => ?_) (fun c_67p18p55 => ?_)
          · have c_67p18p55 : ¬ (u_55p18.1 0) = 0 := c_67p18p55
            refine lv_iload_n hx hb dX7_number_74 rfl (lv_at hl 0 rfl) ?_
            exact k_ri B hP hD hS dX7_number_75 ((fun k9 => match k9 with | 0 => (i 3) | 1 => (i 4) | 2 => (i 5) | 3 => (i 6) | 4 => (u_55p18.1 0) | 5 => (u_55p18.1 1) | 6 => (i 12) | _ => 0), (fun k9 => match k9 with | 0 => (j 7) | _ => 0), (fun _ => (fun _ => 0)), (fun _ => (fun _ => 0)), (fun _ => 0)) [1, 0] rfl rfl rfl (Nat.le_of_ble_eq_true rfl) (Nat.le_of_ble_eq_true rfl) ⟨(iR_w f_30_3 (by decide +kernel)), f_52p18_5, (hI 5), (iR_w g_55p18_0 (by decide +kernel)), (Or.inl (i_ltf (iR_c (n := 0) (by decide +kernel) (by decide +kernel)) g_55p18_0 (by decide +kernel)))⟩
          · exact iR_cl (iR_eqL (a' := 1) (b' := 0) c_67p18p55 g_55p18_0 (iR_c (n := 0) (by decide +kernel) (by decide +kernel)) (by decide +kernel)) (by decide +kernel)
    · have c_18 : ¬ (i 3) = 2 := c_18
      refine lv_aload_n hx hb dX7_number_21 rfl (lv_at hl 0 rfl) ?_
      refine lv_iconst (v := 1) hx hb dX7_number_22 (by decide +kernel) ?_
      refine lv_aload_n hx hb dX7_number_23 rfl (lv_at hl 0 rfl) ?_
      have f_24_3 : iR (i 4) 0 1600 := hI 4
      refine k_get (D := (dC, dI)) (ci := 7) (v := .int (i 4)) (C := RX7) (T := TX7) (N := 92) hx hb hts hinX7 hown hK hP 1 rfl rfl 4 (by decide) w_3 rfl rfl dX7_number_24 ?_
      refine k_cv (wc := [(h, .inr (7, oM r (upd (upd i 8 (u_1.1 0)) 9 (u_1.1 1)) j))]) (wr := [((r 0), .inl (cI, 1800, .inl f0))]) (fun hPc hDc hFc => va_runV (As := [.int 1, .int (i 4)]) (rest := []) ⟨hx, hb, hml, hown, hts⟩ (s_X7_blame_v2 l dC dI cI cJ cZ cM h r (upd (upd i 8 (u_1.1 0)) 9 (u_1.1 1)) j 1 (i 4) (iR_c (n := 1) (by decide +kernel) (by decide +kernel)) (mR_upd 9 (mR_upd 8 hI (show iR _ (loI 8) (hiI 8) from (iR_w f_13_1 (by decide +kernel)))) (show iR _ (loI 9) (hiI 9) from (iR_top _))) H.size) (cwV 2 hts gX7_number_X7_blame rfl rfl rfl (by decide +kernel) ⟨(Nat.le_of_ble_eq_true rfl), (Nat.le_of_ble_eq_true rfl)⟩) (k_pV hPc hDc hK hN hC hS hFc hP (q0 := 1) (ci := 7) rfl rfl) rfl rfl hl.1 rfl (lv_room (Nat.le_of_ble_eq_true rfl)) dX7_number_27 ⟨(Nat.le_of_ble_eq_true rfl), (Nat.le_of_ble_eq_true rfl)⟩) hP hD hS hA [1] [0] rfl rfl rfl rfl (by decide) (fun _ => rfl) 0 0 rfl rfl (fun u_27 H locs hw hP hD hS => ?_)
      obtain g_27_0 := hw
      have hP : va_P (dC, dI) vwCl [((r 0), .inl (cI, 1800, .inl f0)), (h, .inr (7, oM r (upd (upd i 8 (u_27.1 0)) 9 (u_27.1 1)) j))] H := hP
      have hD : va_D A [((r 0), .inl (cI, 1800, .inl f0)), (h, .inr (7, oM r (upd (upd i 8 (u_27.1 0)) 9 (u_27.1 1)) j))] := hD
      refine lv_aload_n hx hb dX7_number_30 rfl (lv_at hl 0 rfl) ?_
      refine k_get (D := (dC, dI)) (ci := 7) (v := .int (u_27.1 0)) (C := RX7) (T := TX7) (N := 92) hx hb hts hinX7 hown hK hP 1 rfl rfl 8 (by decide) w_0 rfl rfl dX7_number_31 ?_
      refine lv_if_ne (tgt := 58) hx hb dX7_number_34 (by decide) (fun c_34p27 => ?_) (fun c_34p27 => ?_)
      · have c_34p27 : ¬ (u_27.1 0) = 0 := c_34p27
        refine lv_aload_n hx hb dX7_number_58 rfl (lv_at hl 0 rfl) ?_
        refine k_get (D := (dC, dI)) (ci := 7) (v := .int (i 6)) (C := RX7) (T := TX7) (N := 92) hx hb hts hinX7 hown hK hP 1 rfl rfl 6 (by decide) w_2 rfl rfl dX7_number_59 ?_
        refine lv_istore_n (lv' := [(3, .int (i 6)), (0, .ref h), (1, .int x1), (2, .int x2)]) hx hb dX7_number_62 rfl hl (by decide) rfl (fun ls hl => ?_)
        refine lv_aload_n hx hb dX7_number_63 rfl (lv_at hl 1 rfl) ?_
        refine k_get (D := (dC, dI)) (ci := 7) (v := .int (u_27.1 0)) (C := RX7) (T := TX7) (N := 92) hx hb hts hinX7 hown hK hP 1 rfl rfl 8 (by decide) w_0 rfl rfl dX7_number_64 ?_
        refine lv_if_ne (tgt := 74) hx hb dX7_number_67 (by decide) (fun c_67p27p34 => ?_) (fun c_67p27p34 => ?_)
        · have c_67p27p34 : ¬ (u_27.1 0) = 0 := c_67p27p34
          refine lv_iload_n hx hb dX7_number_74 rfl (lv_at hl 0 rfl) ?_
          exact k_ri B hP hD hS dX7_number_75 ((fun k9 => match k9 with | 0 => (i 3) | 1 => (i 4) | 2 => (i 5) | 3 => (i 6) | 4 => (u_27.1 0) | 5 => (u_27.1 1) | 6 => (i 12) | _ => 0), (fun k9 => match k9 with | 0 => (j 7) | _ => 0), (fun _ => (fun _ => 0)), (fun _ => (fun _ => 0)), (fun _ => 0)) [1, 0] rfl rfl rfl (Nat.le_of_ble_eq_true rfl) (Nat.le_of_ble_eq_true rfl) ⟨f_14_2, f_24_3, (hI 5), (iR_w g_27_0 (by decide +kernel)), (Or.inl (i_ltf (iR_c (n := 0) (by decide +kernel) (by decide +kernel)) g_27_0 (by decide +kernel)))⟩
        · exact iR_cl (iR_eqL (a' := 1) (b' := 0) c_67p27p34 g_27_0 (iR_c (n := 0) (by decide +kernel) (by decide +kernel)) (by decide +kernel)) (by decide +kernel)
      · exact iR_cl (iR_eqL (a' := 1) (b' := 0) c_34p27 g_27_0 (iR_c (n := 0) (by decide +kernel) (by decide +kernel)) (by decide +kernel)) (by decide +kernel)
  · have c_8 : 0 < (u_1.1 0) := i_nle c_8
    have f_11_1 : iR (u_1.1 0) 1 6 := iR_ltR c_8 (iR_c (n := 0) (by decide +kernel) (by decide +kernel)) g_1_0 (by decide +kernel)
    refine lv_iconst (v := 0) hx hb dX7_number_11 (by decide +kernel) ?_
    exact k_ri B hP hD hS dX7_number_12 ((fun k9 => match k9 with | 0 => (i 3) | 1 => (i 4) | 2 => (i 5) | 3 => (i 6) | 4 => (u_1.1 0) | 5 => (u_1.1 1) | 6 => (i 12) | _ => 0), (fun k9 => match k9 with | 0 => (j 7) | _ => 0), (fun _ => (fun _ => 0)), (fun _ => (fun _ => 0)), (fun _ => 0)) [1, 0] rfl rfl rfl (Nat.le_of_ble_eq_true rfl) (Nat.le_of_ble_eq_true rfl) ⟨(hI 3), (hI 4), (hI 5), (iR_w f_11_1 (by decide +kernel)), (Or.inl c_8)⟩
set_option maxHeartbeats 8000000 in
set_option maxRecDepth 100000 in
theorem s_X7_counts_v6 (l : Launch) (dC : Nat → ClassId) (dI : Nat → Nat → Nat) (cI cJ cZ cM : ClassId) (h : Nat) (r : Nat → Nat) (i : Nat → Int32) (j : Nat → Int64) (hI : mR i) : k_Mi l yX7_counts wsX7_counts ({ frames := 2, cells := 0, slots := 0, locals := 62 }) (dC, dI) vwCl (tyy cI cJ cZ cM) [(h, .inr (7, oM r i j))] [.ref h, .int 1] 0 0 (fun (u9 : SU) => [(h, .inr (7, oM r (upd (upd i 8 (u9.1 0)) 9 (u9.1 1)) j))]) (fun (r9 : Int32) (u9 : SU) => (r9 = 0) ∧ (iR (u9.1 0) 1 6)) := by
  refine fun sz => k_enter (cc := cX7_counts) (maxL := 2) (ret := some (.boolean)) (Qc := fun A => va_Qi (fun (r9 : Int32) (u9 : SU) => (r9 = 0) ∧ (iR (u9.1 0) 1 6)) (fun u => k_B (dC, dI) vwCl (tyy cI cJ cZ cM) A ((fun (u9 : SU) => [(h, .inr (7, oM r (upd (upd i 8 (u9.1 0)) 9 (u9.1 1)) j))]) u)) A) sz (by decide +kernel) rfl (Nat.le_of_ble_eq_true rfl) (fun p e s m args below meth c A ls H locs B hP hD hS hl => ?_)
  obtain ⟨hx, hb, hml, hown, hts, hr, hlk, hnm, hK, hA, hN, hC⟩ := id B
  have hown : s.vm.findClass RX7 = some m.cls := hown
  have hl : lv_has ls 2 [(0, .ref h), (1, .int 1)] := hl
  have w_0 : (Cond.fieldLink RX7 36 "WishSeaModel" "faultKind" "I").before args s = true := hts _ (List.mem_of_getElem? (i := 1) rfl)
  have w_1 : (Cond.fieldLink RX7 23 "WishSeaModel" "signAt" "I").before args s = true := hts _ (List.mem_of_getElem? (i := 2) rfl)
  have hinX7 : ∀ w ∈ u_ws RX7 TX7 92, w ∈ wsX7_counts := fun _ h => List.mem_cons_of_mem _ (List.mem_append_right _ h)
  refine lv_aload_n hx hb dX7_counts_0 rfl (lv_at hl 0 rfl) ?_
  have f_1_1 : iR (i 8) 0 6 := hI 8
  refine k_get (D := (dC, dI)) (ci := 7) (v := .int (i 8)) (C := RX7) (T := TX7) (N := 92) hx hb hts hinX7 hown hK hP 0 rfl rfl 8 (by decide) w_0 rfl rfl dX7_counts_1 ?_
  refine lv_if_ne (tgt := 21) hx hb dX7_counts_4 (by decide) (fun c_4 => ?_) (fun c_4 => ?_)
  · have c_4 : ¬ (i 8) = 0 := c_4
    have f_21_2 : iR (i 8) 1 6 := iR_neL c_4 f_1_1 (iR_c (n := 0) (by decide +kernel) (by decide +kernel)) (by decide +kernel)
    refine lv_aload_n hx hb dX7_counts_21 rfl (lv_at hl 0 rfl) ?_
    refine k_get (D := (dC, dI)) (ci := 7) (v := .int (i 8)) (C := RX7) (T := TX7) (N := 92) hx hb hts hinX7 hown hK hP 0 rfl rfl 8 (by decide) w_0 rfl rfl dX7_counts_22 ?_
    refine lv_if_ne (tgt := 32) hx hb dX7_counts_25 (by decide) (fun c_25p4 => ?_) (fun c_25p4 => ?_)
    · have c_25p4 : ¬ (i 8) = 0 := c_25p4
      refine lv_aload_n hx hb dX7_counts_32 rfl (lv_at hl 0 rfl) ?_
      refine k_get (D := (dC, dI)) (ci := 7) (v := .int (i 8)) (C := RX7) (T := TX7) (N := 92) hx hb hts hinX7 hown hK hP 0 rfl rfl 8 (by decide) w_0 rfl rfl dX7_counts_33 ?_
      refine lv_if_ne (tgt := 43) hx hb dX7_counts_36 (by decide) (fun c_36p4p25 => ?_) (fun c_36p4p25 => ?_)
      · have c_36p4p25 : ¬ (i 8) = 0 := c_36p4p25
        refine lv_iconst (v := 0) hx hb dX7_counts_43 (by decide +kernel) ?_
        exact k_ri B hP hD hS dX7_counts_44 ((fun k9 => match k9 with | 0 => (i 8) | 1 => (i 9) | _ => 0), (fun _ => 0), (fun _ => (fun _ => 0)), (fun _ => (fun _ => 0)), (fun _ => 0)) [0] rfl rfl rfl (Nat.le_of_ble_eq_true rfl) (Nat.le_of_ble_eq_true rfl) ⟨rfl, f_21_2⟩
      · exact iR_cl (iR_eqL (a' := 1) (b' := 0) c_36p4p25 f_21_2 (iR_c (n := 0) (by decide +kernel) (by decide +kernel)) (by decide +kernel)) (by decide +kernel)
    · exact iR_cl (iR_eqL (a' := 1) (b' := 0) c_25p4 f_21_2 (iR_c (n := 0) (by decide +kernel) (by decide +kernel)) (by decide +kernel)) (by decide +kernel)
  · have c_4 : (i 8) = 0 := c_4
    have f_7_2 : iR (i 8) 0 0 := iR_eqL c_4 f_1_1 (iR_c (n := 0) (by decide +kernel) (by decide +kernel)) (by decide +kernel)
    refine lv_iload_n hx hb dX7_counts_7 rfl (lv_at hl 1 rfl) ?_
    refine lv_if_eq (tgt := 21) hx hb dX7_counts_8 (by decide) (fun q9 => absurd q9 (by decide +kernel)) (fun _ => ?_)
    refine lv_aload_n hx hb dX7_counts_11 rfl (lv_at hl 0 rfl) ?_
    refine lv_bipush (v := 6) hx hb dX7_counts_12 (by decide +kernel) ?_
    refine lv_aload_n hx hb dX7_counts_14 rfl (lv_at hl 0 rfl) ?_
    have f_15_3 : iR (i 4) 0 1600 := hI 4
    refine k_get (D := (dC, dI)) (ci := 7) (v := .int (i 4)) (C := RX7) (T := TX7) (N := 92) hx hb hts hinX7 hown hK hP 0 rfl rfl 4 (by decide) w_1 rfl rfl dX7_counts_15 ?_
    refine k_cv (wc := [(h, .inr (7, oM r i j))]) (wr := []) (fun hPc hDc hFc => va_runV (As := [.int 6, .int (i 4)]) (rest := []) ⟨hx, hb, hml, hown, hts⟩ (s_X7_blame_v1 l dC dI cI cJ cZ cM h r i j 6 (i 4) (iR_c (n := 6) (by decide +kernel) (by decide +kernel)) hI H.size) (cwV 2 hts gX7_counts_X7_blame rfl rfl rfl (by decide +kernel) ⟨(Nat.le_of_ble_eq_true rfl), (Nat.le_of_ble_eq_true rfl)⟩) (k_pV hPc hDc hK hN hC hS hFc hP (q0 := 0) (ci := 7) rfl rfl) rfl rfl hl.1 rfl (lv_room (Nat.le_of_ble_eq_true rfl)) dX7_counts_18 ⟨(Nat.le_of_ble_eq_true rfl), (Nat.le_of_ble_eq_true rfl)⟩) hP hD hS hA [0] [] rfl rfl rfl rfl (by decide) (fun _ => rfl) 0 0 rfl rfl (fun u_18 H locs hw hP hD hS => ?_)
    obtain g_18_0 := hw
    have hP : va_P (dC, dI) vwCl [(h, .inr (7, oM r (upd (upd i 8 (u_18.1 0)) 9 (u_18.1 1)) j))] H := hP
    have hD : va_D A [(h, .inr (7, oM r (upd (upd i 8 (u_18.1 0)) 9 (u_18.1 1)) j))] := hD
    refine lv_aload_n hx hb dX7_counts_21 rfl (lv_at hl 0 rfl) ?_
    refine k_get (D := (dC, dI)) (ci := 7) (v := .int (u_18.1 0)) (C := RX7) (T := TX7) (N := 92) hx hb hts hinX7 hown hK hP 0 rfl rfl 8 (by decide) w_0 rfl rfl dX7_counts_22 ?_
    refine lv_if_ne (tgt := 32) hx hb dX7_counts_25 (by decide) (fun c_25p18 => ?_) (fun c_25p18 => ?_)
    · have c_25p18 : ¬ (u_18.1 0) = 0 := c_25p18
      refine lv_aload_n hx hb dX7_counts_32 rfl (lv_at hl 0 rfl) ?_
      refine k_get (D := (dC, dI)) (ci := 7) (v := .int (u_18.1 0)) (C := RX7) (T := TX7) (N := 92) hx hb hts hinX7 hown hK hP 0 rfl rfl 8 (by decide) w_0 rfl rfl dX7_counts_33 ?_
      refine lv_if_ne (tgt := 43) hx hb dX7_counts_36 (by decide) (fun c_36p18p25 => ?_) (fun c_36p18p25 => ?_)
      · have c_36p18p25 : ¬ (u_18.1 0) = 0 := c_36p18p25
        refine lv_iconst (v := 0) hx hb dX7_counts_43 (by decide +kernel) ?_
        exact k_ri B hP hD hS dX7_counts_44 ((fun k9 => match k9 with | 0 => (u_18.1 0) | 1 => (u_18.1 1) | _ => 0), (fun _ => 0), (fun _ => (fun _ => 0)), (fun _ => (fun _ => 0)), (fun _ => 0)) [0] rfl rfl rfl (Nat.le_of_ble_eq_true rfl) (Nat.le_of_ble_eq_true rfl) ⟨rfl, g_18_0⟩
      · exact iR_cl (iR_eqL (a' := 1) (b' := 0) c_36p18p25 g_18_0 (iR_c (n := 0) (by decide +kernel) (by decide +kernel)) (by decide +kernel)) (by decide +kernel)
    · exact iR_cl (iR_eqL (a' := 1) (b' := 0) c_25p18 g_18_0 (iR_c (n := 0) (by decide +kernel) (by decide +kernel)) (by decide +kernel)) (by decide +kernel)
set_option maxHeartbeats 8000000 in
set_option maxRecDepth 100000 in
theorem s_X7_thinging_v0 (l : Launch) (dC : Nat → ClassId) (dI : Nat → Nat → Nat) (cI cJ cZ cM : ClassId) (h : Nat) (r : Nat → Nat) (i : Nat → Int32) (j : Nat → Int64) (f0 : Nat → Int32) (f14 : Nat → Int32) (f15 : Nat → Int32) (f16 : Nat → Int32) (f17 : Nat → Int32) (f18 : Nat → Int32) (g34 : Nat → Int64) (g35 : Nat → Int64) (hI : mR i) (hf0 : aR f0 0 255) (hf14 : aR f14 0 10) (hf17 : aR f17 0 1) (hf18 : aR f18 0 12) : k_Mv l yX7_thinging wsX7_thinging ({ frames := 4, cells := 0, slots := 0, locals := 110 }) (dC, dI) vwCl (tyy cI cJ cZ cM) [(h, .inr (7, oM r i j)), ((r 0), .inl (cI, 1800, .inl f0)), ((r 14), .inl (cI, 2, .inl f14)), ((r 15), .inl (cI, 20, .inl f15)), ((r 16), .inl (cI, 20, .inl f16)), ((r 17), .inl (cI, 20, .inl f17)), ((r 18), .inl (cI, 2, .inl f18)), ((r 34), .inl (cJ, 20, .inr (.inl g34))), ((r 35), .inl (cJ, 24, .inr (.inl g35)))] [.ref h] 0 0 (fun (u9 : SU) => [(h, .inr (7, oM r (upd (upd (upd (upd (upd (upd (upd i 3 (u9.1 0)) 4 (u9.1 1)) 5 (u9.1 2)) 6 (u9.1 3)) 8 (u9.1 4)) 9 (u9.1 5)) 12 (u9.1 6)) (vp_updL j 7 (u9.2.1 0)))), ((r 0), .inl (cI, 1800, .inl f0)), ((r 14), .inl (cI, 2, .inl (u9.2.2.1 0))), ((r 15), .inl (cI, 20, .inl (u9.2.2.1 1))), ((r 16), .inl (cI, 20, .inl (u9.2.2.1 2))), ((r 17), .inl (cI, 20, .inl (u9.2.2.1 3))), ((r 18), .inl (cI, 2, .inl f18)), ((r 34), .inl (cJ, 20, .inr (.inl (u9.2.2.2.1 0)))), ((r 35), .inl (cJ, 24, .inr (.inl g35)))]) (fun (u9 : SU) => (iR (u9.1 0) 0 3) ∧ (iR (u9.1 1) 0 1600) ∧ (iR (u9.1 2) 0 1600) ∧ (iR (u9.1 4) 0 6) ∧ (aR (u9.2.2.1 0) 0 10) ∧ (aR (u9.2.2.1 3) 0 1)) := by
  refine fun sz => k_enter (cc := cX7_thinging) (maxL := 2) (ret := none) (Qc := fun A => va_Qv (fun (u9 : SU) => (iR (u9.1 0) 0 3) ∧ (iR (u9.1 1) 0 1600) ∧ (iR (u9.1 2) 0 1600) ∧ (iR (u9.1 4) 0 6) ∧ (aR (u9.2.2.1 0) 0 10) ∧ (aR (u9.2.2.1 3) 0 1)) (fun u => k_B (dC, dI) vwCl (tyy cI cJ cZ cM) A ((fun (u9 : SU) => [(h, .inr (7, oM r (upd (upd (upd (upd (upd (upd (upd i 3 (u9.1 0)) 4 (u9.1 1)) 5 (u9.1 2)) 6 (u9.1 3)) 8 (u9.1 4)) 9 (u9.1 5)) 12 (u9.1 6)) (vp_updL j 7 (u9.2.1 0)))), ((r 0), .inl (cI, 1800, .inl f0)), ((r 14), .inl (cI, 2, .inl (u9.2.2.1 0))), ((r 15), .inl (cI, 20, .inl (u9.2.2.1 1))), ((r 16), .inl (cI, 20, .inl (u9.2.2.1 2))), ((r 17), .inl (cI, 20, .inl (u9.2.2.1 3))), ((r 18), .inl (cI, 2, .inl f18)), ((r 34), .inl (cJ, 20, .inr (.inl (u9.2.2.2.1 0)))), ((r 35), .inl (cJ, 24, .inr (.inl g35)))]) u)) A) sz (by decide +kernel) rfl (Nat.le_of_ble_eq_true rfl) (fun p e s m args below meth c A ls H locs B hP hD hS hl => ?_)
  obtain ⟨hx, hb, hml, hown, hts, hr, hlk, hnm, hK, hA, hN, hC⟩ := id B
  have hown : s.vm.findClass RX7 = some m.cls := hown
  have hl : lv_has ls 2 [(0, .ref h)] := hl
  have w_0 : (Cond.fieldLink RX7 54 "WishSeaModel" "things" "[I").before args s = true := hts _ (List.mem_of_getElem? (i := 1) rfl)
  have w_1 : (Cond.fieldLink RX7 124 "WishSeaModel" "in" "I").before args s = true := hts _ (List.mem_of_getElem? (i := 2) rfl)
  have w_2 : (Cond.fieldLink RX7 114 "WishSeaModel" "thingName" "[J").before args s = true := hts _ (List.mem_of_getElem? (i := 3) rfl)
  have w_3 : (Cond.constantLong RX7 325 (512970880104)).before args s = true := hts _ (List.mem_of_getElem? (i := 4) rfl)
  have w_4 : (Cond.fieldLink RX7 57 "WishSeaModel" "thingWorth" "[I").before args s = true := hts _ (List.mem_of_getElem? (i := 5) rfl)
  have w_5 : (Cond.constantLong RX7 327 (125793039377779)).before args s = true := hts _ (List.mem_of_getElem? (i := 6) rfl)
  have w_6 : (Cond.fieldLink RX7 60 "WishSeaModel" "thingRhyme" "[I").before args s = true := hts _ (List.mem_of_getElem? (i := 7) rfl)
  have w_7 : (Cond.fieldLink RX7 63 "WishSeaModel" "thingBrief" "[I").before args s = true := hts _ (List.mem_of_getElem? (i := 8) rfl)
  have w_8 : (Cond.fieldLink RX7 36 "WishSeaModel" "faultKind" "I").before args s = true := hts _ (List.mem_of_getElem? (i := 9) rfl)
  have w_9 : (Cond.constantLong RX7 329 (422826304870)).before args s = true := hts _ (List.mem_of_getElem? (i := 10) rfl)
  have hinX7 : ∀ w ∈ u_ws RX7 TX7 92, w ∈ wsX7_thinging := fun _ h => List.mem_cons_of_mem _ (List.mem_append_right _ h)
  refine lv_aload_n hx hb dX7_thinging_0 rfl (lv_at hl 0 rfl) ?_
  refine lv_aload_n hx hb dX7_thinging_1 rfl (lv_at hl 0 rfl) ?_
  refine k_get (D := (dC, dI)) (ci := 7) (v := .ref (r 14)) (C := RX7) (T := TX7) (N := 92) hx hb hts hinX7 hown hK hP 0 rfl rfl 14 (by decide) w_0 rfl rfl dX7_thinging_2 ?_
  refine lv_aload_n hx hb dX7_thinging_5 rfl (lv_at hl 0 rfl) ?_
  have f_6_1 : iR (i 37) 0 1 := hI 37
  refine k_get (D := (dC, dI)) (ci := 7) (v := .int (i 37)) (C := RX7) (T := TX7) (N := 92) hx hb hts hinX7 hown hK hP 0 rfl rfl 37 (by decide) w_1 rfl rfl dX7_thinging_6 ?_
  refine va_iald hx hb hK hP 2 0 rfl rfl (iR_vp f_6_1 (by decide +kernel)) dX7_thinging_9 ?_
  have f_9_2 : iR (f14 (i 37).toNatClampNeg) 0 10 := hf14 _
  refine lv_bipush (v := 10) hx hb dX7_thinging_10 (by decide +kernel) ?_
  refine lv_icmp_ne (tgt := 19) hx hb dX7_thinging_12 (by decide) (fun c_12 => ?_) (fun c_12 => ?_)
  · have c_12 : ¬ (f14 (i 37).toNatClampNeg) = 10 := c_12
    have f_19_3 : iR (f14 (i 37).toNatClampNeg) 0 9 := iR_neL c_12 f_9_2 (iR_c (n := 10) (by decide +kernel) (by decide +kernel)) (by decide +kernel)
    refine lv_iconst (v := 0) hx hb dX7_thinging_19 (by decide +kernel) ?_
    refine k_ci (wc := [(h, .inr (7, oM r i j)), ((r 0), .inl (cI, 1800, .inl f0))]) (wr := [((r 14), .inl (cI, 2, .inl f14)), ((r 15), .inl (cI, 20, .inl f15)), ((r 16), .inl (cI, 20, .inl f16)), ((r 17), .inl (cI, 20, .inl f17)), ((r 18), .inl (cI, 2, .inl f18)), ((r 34), .inl (cJ, 20, .inr (.inl g34))), ((r 35), .inl (cJ, 24, .inr (.inl g35)))]) (fun hPc hDc hFc => va_runV (As := [.int 0]) (rest := []) ⟨hx, hb, hml, hown, hts⟩ (s_X7_counts_v5 l dC dI cI cJ cZ cM h r i j f0 hI hf0 H.size) (cwV 1 hts gX7_thinging_X7_counts rfl rfl rfl (by decide +kernel) ⟨(Nat.le_of_ble_eq_true rfl), (Nat.le_of_ble_eq_true rfl)⟩) (k_pV hPc hDc hK hN hC hS hFc hP (q0 := 0) (ci := 7) rfl rfl) rfl rfl hl.1 rfl (lv_room (Nat.le_of_ble_eq_true rfl)) dX7_thinging_20 ⟨(Nat.le_of_ble_eq_true rfl), (Nat.le_of_ble_eq_true rfl)⟩) hP hD hS hA [0, 1] [2, 3, 4, 5, 6, 7, 8] rfl rfl rfl rfl (by decide) (fun _ => rfl) 0 0 rfl rfl (fun r_20p19 u_20p19 H locs hw hP hD hS => ?_)
    obtain ⟨g_20p19_0, g_20p19_1, g_20p19_2, g_20p19_3⟩ := hw
    have hP : va_P (dC, dI) vwCl [((r 14), .inl (cI, 2, .inl f14)), ((r 15), .inl (cI, 20, .inl f15)), ((r 16), .inl (cI, 20, .inl f16)), ((r 17), .inl (cI, 20, .inl f17)), ((r 18), .inl (cI, 2, .inl f18)), ((r 34), .inl (cJ, 20, .inr (.inl g34))), ((r 35), .inl (cJ, 24, .inr (.inl g35))), (h, .inr (7, oM r (upd (upd (upd (upd (upd i 3 (u_20p19.1 0)) 4 (u_20p19.1 1)) 5 (u_20p19.1 2)) 6 (u_20p19.1 3)) 12 (u_20p19.1 4)) (vp_updL j 7 (u_20p19.2.1 0)))), ((r 0), .inl (cI, 1800, .inl f0))] H := hP
    have hD : va_D A [((r 14), .inl (cI, 2, .inl f14)), ((r 15), .inl (cI, 20, .inl f15)), ((r 16), .inl (cI, 20, .inl f16)), ((r 17), .inl (cI, 20, .inl f17)), ((r 18), .inl (cI, 2, .inl f18)), ((r 34), .inl (cJ, 20, .inr (.inl g34))), ((r 35), .inl (cJ, 24, .inr (.inl g35))), (h, .inr (7, oM r (upd (upd (upd (upd (upd i 3 (u_20p19.1 0)) 4 (u_20p19.1 1)) 5 (u_20p19.1 2)) 6 (u_20p19.1 3)) 12 (u_20p19.1 4)) (vp_updL j 7 (u_20p19.2.1 0)))), ((r 0), .inl (cI, 1800, .inl f0))] := hD
    refine lv_if_ne (tgt := 27) hx hb dX7_thinging_23 (by decide) (fun c_23p19 => ?_) (fun c_23p19 => ?_)
    · have c_23p19 : ¬ r_20p19 = 0 := c_23p19
      have f_27p19_4 : iR r_20p19 1 1 := iR_neL c_23p19 g_20p19_0 (iR_c (n := 0) (by decide +kernel) (by decide +kernel)) (by decide +kernel)
      refine lv_bipush (v := 10) hx hb dX7_thinging_27 (by decide +kernel) ?_
      refine lv_aload_n hx hb dX7_thinging_29 rfl (lv_at hl 0 rfl) ?_
      refine k_get (D := (dC, dI)) (ci := 7) (v := .int (i 37)) (C := RX7) (T := TX7) (N := 92) hx hb hts hinX7 hown hK hP 7 rfl rfl 37 (by decide) w_1 rfl rfl dX7_thinging_30 ?_
      refine lv_imul hx hb dX7_thinging_33 ?_
      refine lv_topi (fun y_33p19 ey_33p19 => ?_)
      have f_33p19_5 : iR y_33p19 0 10 := iR_mul ey_33p19 (iR_c (n := 10) (by decide +kernel) (by decide +kernel)) f_6_1 (by decide +kernel)
      refine lv_aload_n hx hb dX7_thinging_34 rfl (lv_at hl 0 rfl) ?_
      refine k_get (D := (dC, dI)) (ci := 7) (v := .ref (r 14)) (C := RX7) (T := TX7) (N := 92) hx hb hts hinX7 hown hK hP 7 rfl rfl 14 (by decide) w_0 rfl rfl dX7_thinging_35 ?_
      refine lv_aload_n hx hb dX7_thinging_38 rfl (lv_at hl 0 rfl) ?_
      refine k_get (D := (dC, dI)) (ci := 7) (v := .int (i 37)) (C := RX7) (T := TX7) (N := 92) hx hb hts hinX7 hown hK hP 7 rfl rfl 37 (by decide) w_1 rfl rfl dX7_thinging_39 ?_
      refine va_iald hx hb hK hP 0 0 rfl rfl (iR_vp f_6_1 (by decide +kernel)) dX7_thinging_42 ?_
      refine lv_iadd hx hb dX7_thinging_43 ?_
      refine lv_topi (fun y_43p19 ey_43p19 => ?_)
      have f_43p19_6 : iR y_43p19 0 19 := iR_add ey_43p19 f_33p19_5 f_19_3 (by decide +kernel)
      refine lv_istore_n (lv' := [(1, .int y_43p19), (0, .ref h)]) hx hb dX7_thinging_44 rfl hl (by decide) rfl (fun ls hl => ?_)
      refine lv_aload_n hx hb dX7_thinging_45 rfl (lv_at hl 1 rfl) ?_
      refine k_get (D := (dC, dI)) (ci := 7) (v := .ref (r 34)) (C := RX7) (T := TX7) (N := 92) hx hb hts hinX7 hown hK hP 7 rfl rfl 34 (by decide) w_2 rfl rfl dX7_thinging_46 ?_
      refine lv_iload_n hx hb dX7_thinging_49 rfl (lv_at hl 0 rfl) ?_
      refine lv_aload_n hx hb dX7_thinging_50 rfl (lv_at hl 1 rfl) ?_
      refine k_cl (wc := [(h, .inr (7, oM r (upd (upd (upd (upd (upd i 3 (u_20p19.1 0)) 4 (u_20p19.1 1)) 5 (u_20p19.1 2)) 6 (u_20p19.1 3)) 12 (u_20p19.1 4)) (vp_updL j 7 (u_20p19.2.1 0)))), ((r 0), .inl (cI, 1800, .inl f0)), ((r 14), .inl (cI, 2, .inl f14)), ((r 18), .inl (cI, 2, .inl f18)), ((r 34), .inl (cJ, 20, .inr (.inl g34))), ((r 35), .inl (cJ, 24, .inr (.inl g35)))]) (wr := [((r 15), .inl (cI, 20, .inl f15)), ((r 16), .inl (cI, 20, .inl f16)), ((r 17), .inl (cI, 20, .inl f17))]) (fun hPc hDc hFc => va_runV (As := []) (rest := [.int y_43p19, .ref (r 34)]) ⟨hx, hb, hml, hown, hts⟩ (s_X7_fresh_v1 l dC dI cI cJ cZ cM h r (upd (upd (upd (upd (upd i 3 (u_20p19.1 0)) 4 (u_20p19.1 1)) 5 (u_20p19.1 2)) 6 (u_20p19.1 3)) 12 (u_20p19.1 4)) (vp_updL j 7 (u_20p19.2.1 0)) f0 f14 f18 g34 g35 (mR_upd 12 (mR_upd 6 (mR_upd 5 (mR_upd 4 (mR_upd 3 hI (show iR _ (loI 3) (hiI 3) from g_20p19_1)) (show iR _ (loI 4) (hiI 4) from g_20p19_2)) (show iR _ (loI 5) (hiI 5) from g_20p19_3)) (show iR _ (loI 6) (hiI 6) from (iR_top _))) (show iR _ (loI 12) (hiI 12) from (iR_top _))) hf0 hf14 hf18 H.size) (cwV 0 hts gX7_thinging_X7_fresh rfl rfl rfl (by decide +kernel) ⟨(Nat.le_of_ble_eq_true rfl), (Nat.le_of_ble_eq_true rfl)⟩) (k_pV hPc hDc hK hN hC hS hFc hP (q0 := 7) (ci := 7) rfl rfl) rfl rfl hl.1 rfl (lv_room (Nat.le_of_ble_eq_true rfl)) dX7_thinging_51 ⟨(Nat.le_of_ble_eq_true rfl), (Nat.le_of_ble_eq_true rfl)⟩) hP hD hS hA [7, 8, 0, 4, 5, 6] [1, 2, 3] rfl rfl rfl rfl (by decide) (fun _ => rfl) 0 0 rfl rfl (fun r_51p19 u_51p19 H locs hw hP hD hS => ?_)
      obtain ⟨g_51p19_0, g_51p19_1, g_51p19_2, g_51p19_3⟩ := hw
      have hP : va_P (dC, dI) vwCl [((r 15), .inl (cI, 20, .inl f15)), ((r 16), .inl (cI, 20, .inl f16)), ((r 17), .inl (cI, 20, .inl f17)), (h, .inr (7, oM r (upd (upd (upd (upd (upd (upd (upd i 3 (u_51p19.1 0)) 4 (u_51p19.1 1)) 5 (u_51p19.1 2)) 6 (u_51p19.1 3)) 8 (u_51p19.1 4)) 9 (u_51p19.1 5)) 12 (u_51p19.1 6)) (vp_updL j 7 (u_51p19.2.1 0)))), ((r 0), .inl (cI, 1800, .inl f0)), ((r 14), .inl (cI, 2, .inl f14)), ((r 18), .inl (cI, 2, .inl f18)), ((r 34), .inl (cJ, 20, .inr (.inl g34))), ((r 35), .inl (cJ, 24, .inr (.inl g35)))] H := hP
      have hD : va_D A [((r 15), .inl (cI, 20, .inl f15)), ((r 16), .inl (cI, 20, .inl f16)), ((r 17), .inl (cI, 20, .inl f17)), (h, .inr (7, oM r (upd (upd (upd (upd (upd (upd (upd i 3 (u_51p19.1 0)) 4 (u_51p19.1 1)) 5 (u_51p19.1 2)) 6 (u_51p19.1 3)) 8 (u_51p19.1 4)) 9 (u_51p19.1 5)) 12 (u_51p19.1 6)) (vp_updL j 7 (u_51p19.2.1 0)))), ((r 0), .inl (cI, 1800, .inl f0)), ((r 14), .inl (cI, 2, .inl f14)), ((r 18), .inl (cI, 2, .inl f18)), ((r 34), .inl (cJ, 20, .inr (.inl g34))), ((r 35), .inl (cJ, 24, .inr (.inl g35)))] := hD
      refine s_last (g := (vp_updL g34 y_43p19.toNatClampNeg r_51p19)) (ws' := [((r 15), .inl (cI, 20, .inl f15)), ((r 16), .inl (cI, 20, .inl f16)), ((r 17), .inl (cI, 20, .inl f17)), (h, .inr (7, oM r (upd (upd (upd (upd (upd (upd (upd i 3 (u_51p19.1 0)) 4 (u_51p19.1 1)) 5 (u_51p19.1 2)) 6 (u_51p19.1 3)) 8 (u_51p19.1 4)) 9 (u_51p19.1 5)) 12 (u_51p19.1 6)) (vp_updL j 7 (u_51p19.2.1 0)))), ((r 0), .inl (cI, 1800, .inl f0)), ((r 14), .inl (cI, 2, .inl f14)), ((r 18), .inl (cI, 2, .inl f18)), ((r 34), .inl (cJ, 20, .inr (.inl (vp_updL g34 y_43p19.toNatClampNeg r_51p19)))), ((r 35), .inl (cJ, 24, .inr (.inl g35)))]) hx hb hK hP hD hS 7 1 rfl rfl (iR_vp f_43p19_6 (by decide +kernel)) rfl rfl dX7_thinging_54 (fun H locs hP hD hS => ?_)
      refine lv_aload_n hx hb dX7_thinging_55 rfl (lv_at hl 1 rfl) ?_
      refine lv_ldc2 (v := 512970880104) hx hb hown w_3 dX7_thinging_56 ?_
      refine k_cv (wc := [(h, .inr (7, oM r (upd (upd (upd (upd (upd (upd (upd i 3 (u_51p19.1 0)) 4 (u_51p19.1 1)) 5 (u_51p19.1 2)) 6 (u_51p19.1 3)) 8 (u_51p19.1 4)) 9 (u_51p19.1 5)) 12 (u_51p19.1 6)) (vp_updL j 7 (u_51p19.2.1 0)))), ((r 0), .inl (cI, 1800, .inl f0))]) (wr := [((r 15), .inl (cI, 20, .inl f15)), ((r 16), .inl (cI, 20, .inl f16)), ((r 17), .inl (cI, 20, .inl f17)), ((r 14), .inl (cI, 2, .inl f14)), ((r 18), .inl (cI, 2, .inl f18)), ((r 34), .inl (cJ, 20, .inr (.inl (vp_updL g34 y_43p19.toNatClampNeg r_51p19)))), ((r 35), .inl (cJ, 24, .inr (.inl g35)))]) (fun hPc hDc hFc => va_runV (As := [.long 512970880104]) (rest := []) ⟨hx, hb, hml, hown, hts⟩ (s_X7_must__v1 l dC dI cI cJ cZ cM h r (upd (upd (upd (upd (upd (upd (upd i 3 (u_51p19.1 0)) 4 (u_51p19.1 1)) 5 (u_51p19.1 2)) 6 (u_51p19.1 3)) 8 (u_51p19.1 4)) 9 (u_51p19.1 5)) 12 (u_51p19.1 6)) (vp_updL j 7 (u_51p19.2.1 0)) 512970880104 f0 (mR_upd 12 (mR_upd 9 (mR_upd 8 (mR_upd 6 (mR_upd 5 (mR_upd 4 (mR_upd 3 hI (show iR _ (loI 3) (hiI 3) from g_51p19_0)) (show iR _ (loI 4) (hiI 4) from g_51p19_1)) (show iR _ (loI 5) (hiI 5) from g_51p19_2)) (show iR _ (loI 6) (hiI 6) from (iR_top _))) (show iR _ (loI 8) (hiI 8) from g_51p19_3)) (show iR _ (loI 9) (hiI 9) from (iR_top _))) (show iR _ (loI 12) (hiI 12) from (iR_top _))) hf0 H.size) (cwV 1 hts gX7_thinging_X7_must_ rfl rfl rfl (by decide +kernel) ⟨(Nat.le_of_ble_eq_true rfl), (Nat.le_of_ble_eq_true rfl)⟩) (k_pV hPc hDc hK hN hC hS hFc hP (q0 := 3) (ci := 7) rfl rfl) rfl rfl hl.1 rfl (lv_room (Nat.le_of_ble_eq_true rfl)) dX7_thinging_59 ⟨(Nat.le_of_ble_eq_true rfl), (Nat.le_of_ble_eq_true rfl)⟩) hP hD hS hA [3, 4] [0, 1, 2, 5, 6, 7, 8] rfl rfl rfl rfl (by decide) (fun _ => rfl) 0 0 rfl rfl (fun u_59p19 H locs hw hP hD hS => ?_)
      obtain ⟨g_59p19_0, g_59p19_1, g_59p19_2, g_59p19_3⟩ := hw
      have hP : va_P (dC, dI) vwCl [((r 15), .inl (cI, 20, .inl f15)), ((r 16), .inl (cI, 20, .inl f16)), ((r 17), .inl (cI, 20, .inl f17)), ((r 14), .inl (cI, 2, .inl f14)), ((r 18), .inl (cI, 2, .inl f18)), ((r 34), .inl (cJ, 20, .inr (.inl (vp_updL g34 y_43p19.toNatClampNeg r_51p19)))), ((r 35), .inl (cJ, 24, .inr (.inl g35))), (h, .inr (7, oM r (upd (upd (upd (upd (upd (upd (upd i 3 (u_59p19.1 0)) 4 (u_59p19.1 1)) 5 (u_59p19.1 2)) 6 (u_59p19.1 3)) 8 (u_59p19.1 4)) 9 (u_59p19.1 5)) 12 (u_59p19.1 6)) (vp_updL j 7 (u_59p19.2.1 0)))), ((r 0), .inl (cI, 1800, .inl f0))] H := hP
      have hD : va_D A [((r 15), .inl (cI, 20, .inl f15)), ((r 16), .inl (cI, 20, .inl f16)), ((r 17), .inl (cI, 20, .inl f17)), ((r 14), .inl (cI, 2, .inl f14)), ((r 18), .inl (cI, 2, .inl f18)), ((r 34), .inl (cJ, 20, .inr (.inl (vp_updL g34 y_43p19.toNatClampNeg r_51p19)))), ((r 35), .inl (cJ, 24, .inr (.inl g35))), (h, .inr (7, oM r (upd (upd (upd (upd (upd (upd (upd i 3 (u_59p19.1 0)) 4 (u_59p19.1 1)) 5 (u_59p19.1 2)) 6 (u_59p19.1 3)) 8 (u_59p19.1 4)) 9 (u_59p19.1 5)) 12 (u_59p19.1 6)) (vp_updL j 7 (u_59p19.2.1 0)))), ((r 0), .inl (cI, 1800, .inl f0))] := hD
      refine lv_aload_n hx hb dX7_thinging_62 rfl (lv_at hl 1 rfl) ?_
      refine k_get (D := (dC, dI)) (ci := 7) (v := .ref (r 15)) (C := RX7) (T := TX7) (N := 92) hx hb hts hinX7 hown hK hP 7 rfl rfl 15 (by decide) w_4 rfl rfl dX7_thinging_63 ?_
      refine lv_iload_n hx hb dX7_thinging_66 rfl (lv_at hl 0 rfl) ?_
      refine lv_aload_n hx hb dX7_thinging_67 rfl (lv_at hl 1 rfl) ?_
      refine lv_iconst (v := 0) hx hb dX7_thinging_68 (by decide +kernel) ?_
      refine lv_bipush (v := 99) hx hb dX7_thinging_69 (by decide +kernel) ?_
      refine k_ci (wc := [(h, .inr (7, oM r (upd (upd (upd (upd (upd (upd (upd i 3 (u_59p19.1 0)) 4 (u_59p19.1 1)) 5 (u_59p19.1 2)) 6 (u_59p19.1 3)) 8 (u_59p19.1 4)) 9 (u_59p19.1 5)) 12 (u_59p19.1 6)) (vp_updL j 7 (u_59p19.2.1 0)))), ((r 0), .inl (cI, 1800, .inl f0))]) (wr := [((r 15), .inl (cI, 20, .inl f15)), ((r 16), .inl (cI, 20, .inl f16)), ((r 17), .inl (cI, 20, .inl f17)), ((r 14), .inl (cI, 2, .inl f14)), ((r 18), .inl (cI, 2, .inl f18)), ((r 34), .inl (cJ, 20, .inr (.inl (vp_updL g34 y_43p19.toNatClampNeg r_51p19)))), ((r 35), .inl (cJ, 24, .inr (.inl g35)))]) (fun hPc hDc hFc => va_runV (As := [.int 0, .int 99]) (rest := [.int y_43p19, .ref (r 15)]) ⟨hx, hb, hml, hown, hts⟩ (s_X7_number_v2 l dC dI cI cJ cZ cM h r (upd (upd (upd (upd (upd (upd (upd i 3 (u_59p19.1 0)) 4 (u_59p19.1 1)) 5 (u_59p19.1 2)) 6 (u_59p19.1 3)) 8 (u_59p19.1 4)) 9 (u_59p19.1 5)) 12 (u_59p19.1 6)) (vp_updL j 7 (u_59p19.2.1 0)) 0 99 f0 (mR_upd 12 (mR_upd 9 (mR_upd 8 (mR_upd 6 (mR_upd 5 (mR_upd 4 (mR_upd 3 hI (show iR _ (loI 3) (hiI 3) from g_59p19_0)) (show iR _ (loI 4) (hiI 4) from g_59p19_1)) (show iR _ (loI 5) (hiI 5) from g_59p19_2)) (show iR _ (loI 6) (hiI 6) from (iR_top _))) (show iR _ (loI 8) (hiI 8) from g_59p19_3)) (show iR _ (loI 9) (hiI 9) from (iR_top _))) (show iR _ (loI 12) (hiI 12) from (iR_top _))) hf0 H.size) (cwV 2 hts gX7_thinging_X7_number rfl rfl rfl (by decide +kernel) ⟨(Nat.le_of_ble_eq_true rfl), (Nat.le_of_ble_eq_true rfl)⟩) (k_pV hPc hDc hK hN hC hS hFc hP (q0 := 7) (ci := 7) rfl rfl) rfl rfl hl.1 rfl (lv_room (Nat.le_of_ble_eq_true rfl)) dX7_thinging_71 ⟨(Nat.le_of_ble_eq_true rfl), (Nat.le_of_ble_eq_true rfl)⟩) hP hD hS hA [7, 8] [0, 1, 2, 3, 4, 5, 6] rfl rfl rfl rfl (by decide) (fun _ => rfl) 0 0 rfl rfl (fun r_71p19 u_71p19 H locs hw hP hD hS => ?_)
      obtain ⟨g_71p19_0, g_71p19_1, g_71p19_2, g_71p19_3, g_71p19_4⟩ := hw
      have hP : va_P (dC, dI) vwCl [((r 15), .inl (cI, 20, .inl f15)), ((r 16), .inl (cI, 20, .inl f16)), ((r 17), .inl (cI, 20, .inl f17)), ((r 14), .inl (cI, 2, .inl f14)), ((r 18), .inl (cI, 2, .inl f18)), ((r 34), .inl (cJ, 20, .inr (.inl (vp_updL g34 y_43p19.toNatClampNeg r_51p19)))), ((r 35), .inl (cJ, 24, .inr (.inl g35))), (h, .inr (7, oM r (upd (upd (upd (upd (upd (upd (upd i 3 (u_71p19.1 0)) 4 (u_71p19.1 1)) 5 (u_71p19.1 2)) 6 (u_71p19.1 3)) 8 (u_71p19.1 4)) 9 (u_71p19.1 5)) 12 (u_71p19.1 6)) (vp_updL j 7 (u_71p19.2.1 0)))), ((r 0), .inl (cI, 1800, .inl f0))] H := hP
      have hD : va_D A [((r 15), .inl (cI, 20, .inl f15)), ((r 16), .inl (cI, 20, .inl f16)), ((r 17), .inl (cI, 20, .inl f17)), ((r 14), .inl (cI, 2, .inl f14)), ((r 18), .inl (cI, 2, .inl f18)), ((r 34), .inl (cJ, 20, .inr (.inl (vp_updL g34 y_43p19.toNatClampNeg r_51p19)))), ((r 35), .inl (cJ, 24, .inr (.inl g35))), (h, .inr (7, oM r (upd (upd (upd (upd (upd (upd (upd i 3 (u_71p19.1 0)) 4 (u_71p19.1 1)) 5 (u_71p19.1 2)) 6 (u_71p19.1 3)) 8 (u_71p19.1 4)) 9 (u_71p19.1 5)) 12 (u_71p19.1 6)) (vp_updL j 7 (u_71p19.2.1 0)))), ((r 0), .inl (cI, 1800, .inl f0))] := hD
      refine s_iast (g := (upd f15 y_43p19.toNatClampNeg r_71p19)) (ws' := [((r 15), .inl (cI, 20, .inl (upd f15 y_43p19.toNatClampNeg r_71p19))), ((r 16), .inl (cI, 20, .inl f16)), ((r 17), .inl (cI, 20, .inl f17)), ((r 14), .inl (cI, 2, .inl f14)), ((r 18), .inl (cI, 2, .inl f18)), ((r 34), .inl (cJ, 20, .inr (.inl (vp_updL g34 y_43p19.toNatClampNeg r_51p19)))), ((r 35), .inl (cJ, 24, .inr (.inl g35))), (h, .inr (7, oM r (upd (upd (upd (upd (upd (upd (upd i 3 (u_71p19.1 0)) 4 (u_71p19.1 1)) 5 (u_71p19.1 2)) 6 (u_71p19.1 3)) 8 (u_71p19.1 4)) 9 (u_71p19.1 5)) 12 (u_71p19.1 6)) (vp_updL j 7 (u_71p19.2.1 0)))), ((r 0), .inl (cI, 1800, .inl f0))]) hx hb hK hP hD hS 0 0 rfl rfl (iR_vp f_43p19_6 (by decide +kernel)) rfl rfl dX7_thinging_74 (fun H locs hP hD hS => ?_)
      refine lv_aload_n hx hb dX7_thinging_75 rfl (lv_at hl 1 rfl) ?_
      refine lv_ldc2 (v := 125793039377779) hx hb hown w_5 dX7_thinging_76 ?_
      refine k_cv (wc := [(h, .inr (7, oM r (upd (upd (upd (upd (upd (upd (upd i 3 (u_71p19.1 0)) 4 (u_71p19.1 1)) 5 (u_71p19.1 2)) 6 (u_71p19.1 3)) 8 (u_71p19.1 4)) 9 (u_71p19.1 5)) 12 (u_71p19.1 6)) (vp_updL j 7 (u_71p19.2.1 0)))), ((r 0), .inl (cI, 1800, .inl f0))]) (wr := [((r 15), .inl (cI, 20, .inl (upd f15 y_43p19.toNatClampNeg r_71p19))), ((r 16), .inl (cI, 20, .inl f16)), ((r 17), .inl (cI, 20, .inl f17)), ((r 14), .inl (cI, 2, .inl f14)), ((r 18), .inl (cI, 2, .inl f18)), ((r 34), .inl (cJ, 20, .inr (.inl (vp_updL g34 y_43p19.toNatClampNeg r_51p19)))), ((r 35), .inl (cJ, 24, .inr (.inl g35)))]) (fun hPc hDc hFc => va_runV (As := [.long 125793039377779]) (rest := []) ⟨hx, hb, hml, hown, hts⟩ (s_X7_must__v1 l dC dI cI cJ cZ cM h r (upd (upd (upd (upd (upd (upd (upd i 3 (u_71p19.1 0)) 4 (u_71p19.1 1)) 5 (u_71p19.1 2)) 6 (u_71p19.1 3)) 8 (u_71p19.1 4)) 9 (u_71p19.1 5)) 12 (u_71p19.1 6)) (vp_updL j 7 (u_71p19.2.1 0)) 125793039377779 f0 (mR_upd 12 (mR_upd 9 (mR_upd 8 (mR_upd 6 (mR_upd 5 (mR_upd 4 (mR_upd 3 hI (show iR _ (loI 3) (hiI 3) from g_71p19_0)) (show iR _ (loI 4) (hiI 4) from g_71p19_1)) (show iR _ (loI 5) (hiI 5) from g_71p19_2)) (show iR _ (loI 6) (hiI 6) from (iR_top _))) (show iR _ (loI 8) (hiI 8) from g_71p19_3)) (show iR _ (loI 9) (hiI 9) from (iR_top _))) (show iR _ (loI 12) (hiI 12) from (iR_top _))) hf0 H.size) (cwV 1 hts gX7_thinging_X7_must_ rfl rfl rfl (by decide +kernel) ⟨(Nat.le_of_ble_eq_true rfl), (Nat.le_of_ble_eq_true rfl)⟩) (k_pV hPc hDc hK hN hC hS hFc hP (q0 := 7) (ci := 7) rfl rfl) rfl rfl hl.1 rfl (lv_room (Nat.le_of_ble_eq_true rfl)) dX7_thinging_79 ⟨(Nat.le_of_ble_eq_true rfl), (Nat.le_of_ble_eq_true rfl)⟩) hP hD hS hA [7, 8] [0, 1, 2, 3, 4, 5, 6] rfl rfl rfl rfl (by decide) (fun _ => rfl) 0 0 rfl rfl (fun u_79p19 H locs hw hP hD hS => ?_)
      obtain ⟨g_79p19_0, g_79p19_1, g_79p19_2, g_79p19_3⟩ := hw
      have hP : va_P (dC, dI) vwCl [((r 15), .inl (cI, 20, .inl (upd f15 y_43p19.toNatClampNeg r_71p19))), ((r 16), .inl (cI, 20, .inl f16)), ((r 17), .inl (cI, 20, .inl f17)), ((r 14), .inl (cI, 2, .inl f14)), ((r 18), .inl (cI, 2, .inl f18)), ((r 34), .inl (cJ, 20, .inr (.inl (vp_updL g34 y_43p19.toNatClampNeg r_51p19)))), ((r 35), .inl (cJ, 24, .inr (.inl g35))), (h, .inr (7, oM r (upd (upd (upd (upd (upd (upd (upd i 3 (u_79p19.1 0)) 4 (u_79p19.1 1)) 5 (u_79p19.1 2)) 6 (u_79p19.1 3)) 8 (u_79p19.1 4)) 9 (u_79p19.1 5)) 12 (u_79p19.1 6)) (vp_updL j 7 (u_79p19.2.1 0)))), ((r 0), .inl (cI, 1800, .inl f0))] H := hP
      have hD : va_D A [((r 15), .inl (cI, 20, .inl (upd f15 y_43p19.toNatClampNeg r_71p19))), ((r 16), .inl (cI, 20, .inl f16)), ((r 17), .inl (cI, 20, .inl f17)), ((r 14), .inl (cI, 2, .inl f14)), ((r 18), .inl (cI, 2, .inl f18)), ((r 34), .inl (cJ, 20, .inr (.inl (vp_updL g34 y_43p19.toNatClampNeg r_51p19)))), ((r 35), .inl (cJ, 24, .inr (.inl g35))), (h, .inr (7, oM r (upd (upd (upd (upd (upd (upd (upd i 3 (u_79p19.1 0)) 4 (u_79p19.1 1)) 5 (u_79p19.1 2)) 6 (u_79p19.1 3)) 8 (u_79p19.1 4)) 9 (u_79p19.1 5)) 12 (u_79p19.1 6)) (vp_updL j 7 (u_79p19.2.1 0)))), ((r 0), .inl (cI, 1800, .inl f0))] := hD
      refine lv_aload_n hx hb dX7_thinging_82 rfl (lv_at hl 1 rfl) ?_
      refine k_get (D := (dC, dI)) (ci := 7) (v := .ref (r 16)) (C := RX7) (T := TX7) (N := 92) hx hb hts hinX7 hown hK hP 7 rfl rfl 16 (by decide) w_6 rfl rfl dX7_thinging_83 ?_
      refine lv_iload_n hx hb dX7_thinging_86 rfl (lv_at hl 0 rfl) ?_
      refine lv_aload_n hx hb dX7_thinging_87 rfl (lv_at hl 1 rfl) ?_
      refine lv_iconst (v := 1) hx hb dX7_thinging_88 (by decide +kernel) ?_
      refine lv_bipush (v := 9) hx hb dX7_thinging_89 (by decide +kernel) ?_
      refine k_ci (wc := [(h, .inr (7, oM r (upd (upd (upd (upd (upd (upd (upd i 3 (u_79p19.1 0)) 4 (u_79p19.1 1)) 5 (u_79p19.1 2)) 6 (u_79p19.1 3)) 8 (u_79p19.1 4)) 9 (u_79p19.1 5)) 12 (u_79p19.1 6)) (vp_updL j 7 (u_79p19.2.1 0)))), ((r 0), .inl (cI, 1800, .inl f0))]) (wr := [((r 15), .inl (cI, 20, .inl (upd f15 y_43p19.toNatClampNeg r_71p19))), ((r 16), .inl (cI, 20, .inl f16)), ((r 17), .inl (cI, 20, .inl f17)), ((r 14), .inl (cI, 2, .inl f14)), ((r 18), .inl (cI, 2, .inl f18)), ((r 34), .inl (cJ, 20, .inr (.inl (vp_updL g34 y_43p19.toNatClampNeg r_51p19)))), ((r 35), .inl (cJ, 24, .inr (.inl g35)))]) (fun hPc hDc hFc => va_runV (As := [.int 1, .int 9]) (rest := [.int y_43p19, .ref (r 16)]) ⟨hx, hb, hml, hown, hts⟩ (s_X7_number_v2 l dC dI cI cJ cZ cM h r (upd (upd (upd (upd (upd (upd (upd i 3 (u_79p19.1 0)) 4 (u_79p19.1 1)) 5 (u_79p19.1 2)) 6 (u_79p19.1 3)) 8 (u_79p19.1 4)) 9 (u_79p19.1 5)) 12 (u_79p19.1 6)) (vp_updL j 7 (u_79p19.2.1 0)) 1 9 f0 (mR_upd 12 (mR_upd 9 (mR_upd 8 (mR_upd 6 (mR_upd 5 (mR_upd 4 (mR_upd 3 hI (show iR _ (loI 3) (hiI 3) from g_79p19_0)) (show iR _ (loI 4) (hiI 4) from g_79p19_1)) (show iR _ (loI 5) (hiI 5) from g_79p19_2)) (show iR _ (loI 6) (hiI 6) from (iR_top _))) (show iR _ (loI 8) (hiI 8) from g_79p19_3)) (show iR _ (loI 9) (hiI 9) from (iR_top _))) (show iR _ (loI 12) (hiI 12) from (iR_top _))) hf0 H.size) (cwV 2 hts gX7_thinging_X7_number rfl rfl rfl (by decide +kernel) ⟨(Nat.le_of_ble_eq_true rfl), (Nat.le_of_ble_eq_true rfl)⟩) (k_pV hPc hDc hK hN hC hS hFc hP (q0 := 7) (ci := 7) rfl rfl) rfl rfl hl.1 rfl (lv_room (Nat.le_of_ble_eq_true rfl)) dX7_thinging_91 ⟨(Nat.le_of_ble_eq_true rfl), (Nat.le_of_ble_eq_true rfl)⟩) hP hD hS hA [7, 8] [0, 1, 2, 3, 4, 5, 6] rfl rfl rfl rfl (by decide) (fun _ => rfl) 0 0 rfl rfl (fun r_91p19 u_91p19 H locs hw hP hD hS => ?_)
      obtain ⟨g_91p19_0, g_91p19_1, g_91p19_2, g_91p19_3, g_91p19_4⟩ := hw
      have hP : va_P (dC, dI) vwCl [((r 15), .inl (cI, 20, .inl (upd f15 y_43p19.toNatClampNeg r_71p19))), ((r 16), .inl (cI, 20, .inl f16)), ((r 17), .inl (cI, 20, .inl f17)), ((r 14), .inl (cI, 2, .inl f14)), ((r 18), .inl (cI, 2, .inl f18)), ((r 34), .inl (cJ, 20, .inr (.inl (vp_updL g34 y_43p19.toNatClampNeg r_51p19)))), ((r 35), .inl (cJ, 24, .inr (.inl g35))), (h, .inr (7, oM r (upd (upd (upd (upd (upd (upd (upd i 3 (u_91p19.1 0)) 4 (u_91p19.1 1)) 5 (u_91p19.1 2)) 6 (u_91p19.1 3)) 8 (u_91p19.1 4)) 9 (u_91p19.1 5)) 12 (u_91p19.1 6)) (vp_updL j 7 (u_91p19.2.1 0)))), ((r 0), .inl (cI, 1800, .inl f0))] H := hP
      have hD : va_D A [((r 15), .inl (cI, 20, .inl (upd f15 y_43p19.toNatClampNeg r_71p19))), ((r 16), .inl (cI, 20, .inl f16)), ((r 17), .inl (cI, 20, .inl f17)), ((r 14), .inl (cI, 2, .inl f14)), ((r 18), .inl (cI, 2, .inl f18)), ((r 34), .inl (cJ, 20, .inr (.inl (vp_updL g34 y_43p19.toNatClampNeg r_51p19)))), ((r 35), .inl (cJ, 24, .inr (.inl g35))), (h, .inr (7, oM r (upd (upd (upd (upd (upd (upd (upd i 3 (u_91p19.1 0)) 4 (u_91p19.1 1)) 5 (u_91p19.1 2)) 6 (u_91p19.1 3)) 8 (u_91p19.1 4)) 9 (u_91p19.1 5)) 12 (u_91p19.1 6)) (vp_updL j 7 (u_91p19.2.1 0)))), ((r 0), .inl (cI, 1800, .inl f0))] := hD
      refine s_iast (g := (upd f16 y_43p19.toNatClampNeg r_91p19)) (ws' := [((r 15), .inl (cI, 20, .inl (upd f15 y_43p19.toNatClampNeg r_71p19))), ((r 16), .inl (cI, 20, .inl (upd f16 y_43p19.toNatClampNeg r_91p19))), ((r 17), .inl (cI, 20, .inl f17)), ((r 14), .inl (cI, 2, .inl f14)), ((r 18), .inl (cI, 2, .inl f18)), ((r 34), .inl (cJ, 20, .inr (.inl (vp_updL g34 y_43p19.toNatClampNeg r_51p19)))), ((r 35), .inl (cJ, 24, .inr (.inl g35))), (h, .inr (7, oM r (upd (upd (upd (upd (upd (upd (upd i 3 (u_91p19.1 0)) 4 (u_91p19.1 1)) 5 (u_91p19.1 2)) 6 (u_91p19.1 3)) 8 (u_91p19.1 4)) 9 (u_91p19.1 5)) 12 (u_91p19.1 6)) (vp_updL j 7 (u_91p19.2.1 0)))), ((r 0), .inl (cI, 1800, .inl f0))]) hx hb hK hP hD hS 1 0 rfl rfl (iR_vp f_43p19_6 (by decide +kernel)) rfl rfl dX7_thinging_94 (fun H locs hP hD hS => ?_)
      refine lv_aload_n hx hb dX7_thinging_95 rfl (lv_at hl 1 rfl) ?_
      refine k_get (D := (dC, dI)) (ci := 7) (v := .ref (r 17)) (C := RX7) (T := TX7) (N := 92) hx hb hts hinX7 hown hK hP 7 rfl rfl 17 (by decide) w_7 rfl rfl dX7_thinging_96 ?_
      refine lv_iload_n hx hb dX7_thinging_99 rfl (lv_at hl 0 rfl) ?_
      refine lv_iconst (v := 0) hx hb dX7_thinging_100 (by decide +kernel) ?_
      refine s_iast (g := (upd f17 y_43p19.toNatClampNeg 0)) (ws' := [((r 15), .inl (cI, 20, .inl (upd f15 y_43p19.toNatClampNeg r_71p19))), ((r 16), .inl (cI, 20, .inl (upd f16 y_43p19.toNatClampNeg r_91p19))), ((r 17), .inl (cI, 20, .inl (upd f17 y_43p19.toNatClampNeg 0))), ((r 14), .inl (cI, 2, .inl f14)), ((r 18), .inl (cI, 2, .inl f18)), ((r 34), .inl (cJ, 20, .inr (.inl (vp_updL g34 y_43p19.toNatClampNeg r_51p19)))), ((r 35), .inl (cJ, 24, .inr (.inl g35))), (h, .inr (7, oM r (upd (upd (upd (upd (upd (upd (upd i 3 (u_91p19.1 0)) 4 (u_91p19.1 1)) 5 (u_91p19.1 2)) 6 (u_91p19.1 3)) 8 (u_91p19.1 4)) 9 (u_91p19.1 5)) 12 (u_91p19.1 6)) (vp_updL j 7 (u_91p19.2.1 0)))), ((r 0), .inl (cI, 1800, .inl f0))]) hx hb hK hP hD hS 2 0 rfl rfl (iR_vp f_43p19_6 (by decide +kernel)) rfl rfl dX7_thinging_101 (fun H locs hP hD hS => ?_)
      refine lv_aload_n hx hb dX7_thinging_102 rfl (lv_at hl 1 rfl) ?_
      refine k_cv (wc := [(h, .inr (7, oM r (upd (upd (upd (upd (upd (upd (upd i 3 (u_91p19.1 0)) 4 (u_91p19.1 1)) 5 (u_91p19.1 2)) 6 (u_91p19.1 3)) 8 (u_91p19.1 4)) 9 (u_91p19.1 5)) 12 (u_91p19.1 6)) (vp_updL j 7 (u_91p19.2.1 0))))]) (wr := [((r 15), .inl (cI, 20, .inl (upd f15 y_43p19.toNatClampNeg r_71p19))), ((r 16), .inl (cI, 20, .inl (upd f16 y_43p19.toNatClampNeg r_91p19))), ((r 17), .inl (cI, 20, .inl (upd f17 y_43p19.toNatClampNeg 0))), ((r 14), .inl (cI, 2, .inl f14)), ((r 18), .inl (cI, 2, .inl f18)), ((r 34), .inl (cJ, 20, .inr (.inl (vp_updL g34 y_43p19.toNatClampNeg r_51p19)))), ((r 35), .inl (cJ, 24, .inr (.inl g35))), ((r 0), .inl (cI, 1800, .inl f0))]) (fun hPc hDc hFc => va_runV (As := []) (rest := []) ⟨hx, hb, hml, hown, hts⟩ (s_X7_lex_v7 l dC dI cI cJ cZ cM h r (upd (upd (upd (upd (upd (upd (upd i 3 (u_91p19.1 0)) 4 (u_91p19.1 1)) 5 (u_91p19.1 2)) 6 (u_91p19.1 3)) 8 (u_91p19.1 4)) 9 (u_91p19.1 5)) 12 (u_91p19.1 6)) (vp_updL j 7 (u_91p19.2.1 0)) (mR_upd 12 (mR_upd 9 (mR_upd 8 (mR_upd 6 (mR_upd 5 (mR_upd 4 (mR_upd 3 hI (show iR _ (loI 3) (hiI 3) from g_91p19_0)) (show iR _ (loI 4) (hiI 4) from g_91p19_1)) (show iR _ (loI 5) (hiI 5) from g_91p19_2)) (show iR _ (loI 6) (hiI 6) from (iR_top _))) (show iR _ (loI 8) (hiI 8) from g_91p19_3)) (show iR _ (loI 9) (hiI 9) from (iR_top _))) (show iR _ (loI 12) (hiI 12) from (iR_top _))) H.size) (cwV 0 hts gX7_thinging_X7_lex rfl rfl rfl (by decide +kernel) ⟨(Nat.le_of_ble_eq_true rfl), (Nat.le_of_ble_eq_true rfl)⟩) (k_pV hPc hDc hK hN hC hS hFc hP (q0 := 7) (ci := 7) rfl rfl) rfl rfl hl.1 rfl (lv_room (Nat.le_of_ble_eq_true rfl)) dX7_thinging_103 ⟨(Nat.le_of_ble_eq_true rfl), (Nat.le_of_ble_eq_true rfl)⟩) hP hD hS hA [7] [0, 1, 2, 3, 4, 5, 6, 8] rfl rfl rfl rfl (by decide) (fun _ => rfl) 0 0 rfl rfl (fun u_103p19 H locs hw hP hD hS => ?_)
      obtain g_103p19_0 := hw
      have hP : va_P (dC, dI) vwCl [((r 15), .inl (cI, 20, .inl (upd f15 y_43p19.toNatClampNeg r_71p19))), ((r 16), .inl (cI, 20, .inl (upd f16 y_43p19.toNatClampNeg r_91p19))), ((r 17), .inl (cI, 20, .inl (upd f17 y_43p19.toNatClampNeg 0))), ((r 14), .inl (cI, 2, .inl f14)), ((r 18), .inl (cI, 2, .inl f18)), ((r 34), .inl (cJ, 20, .inr (.inl (vp_updL g34 y_43p19.toNatClampNeg r_51p19)))), ((r 35), .inl (cJ, 24, .inr (.inl g35))), ((r 0), .inl (cI, 1800, .inl f0)), (h, .inr (7, oM r (upd (upd (upd (upd (upd (upd (upd i 3 (u_91p19.1 0)) 4 (u_91p19.1 1)) 5 (u_91p19.1 2)) 6 (u_91p19.1 3)) 8 (u_103p19.1 0)) 9 (u_103p19.1 1)) 12 (u_91p19.1 6)) (vp_updL j 7 (u_91p19.2.1 0))))] H := hP
      have hD : va_D A [((r 15), .inl (cI, 20, .inl (upd f15 y_43p19.toNatClampNeg r_71p19))), ((r 16), .inl (cI, 20, .inl (upd f16 y_43p19.toNatClampNeg r_91p19))), ((r 17), .inl (cI, 20, .inl (upd f17 y_43p19.toNatClampNeg 0))), ((r 14), .inl (cI, 2, .inl f14)), ((r 18), .inl (cI, 2, .inl f18)), ((r 34), .inl (cJ, 20, .inr (.inl (vp_updL g34 y_43p19.toNatClampNeg r_51p19)))), ((r 35), .inl (cJ, 24, .inr (.inl g35))), ((r 0), .inl (cI, 1800, .inl f0)), (h, .inr (7, oM r (upd (upd (upd (upd (upd (upd (upd i 3 (u_91p19.1 0)) 4 (u_91p19.1 1)) 5 (u_91p19.1 2)) 6 (u_91p19.1 3)) 8 (u_103p19.1 0)) 9 (u_103p19.1 1)) 12 (u_91p19.1 6)) (vp_updL j 7 (u_91p19.2.1 0))))] := hD
      refine lv_aload_n hx hb dX7_thinging_106 rfl (lv_at hl 1 rfl) ?_
      refine k_get (D := (dC, dI)) (ci := 7) (v := .int (u_103p19.1 0)) (C := RX7) (T := TX7) (N := 92) hx hb hts hinX7 hown hK hP 8 rfl rfl 8 (by decide) w_8 rfl rfl dX7_thinging_107 ?_
      refine lv_if_le (tgt := 114) hx hb dX7_thinging_110 (by decide) (fun c_110p19 => ?_) (fun c_110p19 => ?_)
      · have c_110p19 : (u_103p19.1 0) ≤ 0 := c_110p19
        have f_114p19_7 : iR (u_103p19.1 0) 0 0 := iR_leL c_110p19 g_103p19_0 (iR_c (n := 0) (by decide +kernel) (by decide +kernel)) (by decide +kernel)
        refine lv_aload_n hx hb dX7_thinging_114 rfl (lv_at hl 1 rfl) ?_
        refine lv_ldc2 (v := 422826304870) hx hb hown w_9 dX7_thinging_115 ?_
        refine k_ci (wc := [(h, .inr (7, oM r (upd (upd (upd (upd (upd (upd (upd i 3 (u_91p19.1 0)) 4 (u_91p19.1 1)) 5 (u_91p19.1 2)) 6 (u_91p19.1 3)) 8 (u_103p19.1 0)) 9 (u_103p19.1 1)) 12 (u_91p19.1 6)) (vp_updL j 7 (u_91p19.2.1 0))))]) (wr := [((r 15), .inl (cI, 20, .inl (upd f15 y_43p19.toNatClampNeg r_71p19))), ((r 16), .inl (cI, 20, .inl (upd f16 y_43p19.toNatClampNeg r_91p19))), ((r 17), .inl (cI, 20, .inl (upd f17 y_43p19.toNatClampNeg 0))), ((r 14), .inl (cI, 2, .inl f14)), ((r 18), .inl (cI, 2, .inl f18)), ((r 34), .inl (cJ, 20, .inr (.inl (vp_updL g34 y_43p19.toNatClampNeg r_51p19)))), ((r 35), .inl (cJ, 24, .inr (.inl g35))), ((r 0), .inl (cI, 1800, .inl f0))]) (fun hPc hDc hFc => va_runV (As := [.long 422826304870]) (rest := []) ⟨hx, hb, hml, hown, hts⟩ (s_X7_isWord_v2 l dC dI cI cJ cZ cM h r (upd (upd (upd (upd (upd (upd (upd i 3 (u_91p19.1 0)) 4 (u_91p19.1 1)) 5 (u_91p19.1 2)) 6 (u_91p19.1 3)) 8 (u_103p19.1 0)) 9 (u_103p19.1 1)) 12 (u_91p19.1 6)) (vp_updL j 7 (u_91p19.2.1 0)) 422826304870 (mR_upd 12 (mR_upd 9 (mR_upd 8 (mR_upd 6 (mR_upd 5 (mR_upd 4 (mR_upd 3 hI (show iR _ (loI 3) (hiI 3) from g_91p19_0)) (show iR _ (loI 4) (hiI 4) from g_91p19_1)) (show iR _ (loI 5) (hiI 5) from g_91p19_2)) (show iR _ (loI 6) (hiI 6) from (iR_top _))) (show iR _ (loI 8) (hiI 8) from (iR_w f_114p19_7 (by decide +kernel)))) (show iR _ (loI 9) (hiI 9) from (iR_top _))) (show iR _ (loI 12) (hiI 12) from (iR_top _))) H.size) (cwV 1 hts gX7_thinging_X7_isWord rfl rfl rfl (by decide +kernel) ⟨(Nat.le_of_ble_eq_true rfl), (Nat.le_of_ble_eq_true rfl)⟩) (k_pV hPc hDc hK hN hC hS hFc hP (q0 := 8) (ci := 7) rfl rfl) rfl rfl hl.1 rfl (lv_room (Nat.le_of_ble_eq_true rfl)) dX7_thinging_118 ⟨(Nat.le_of_ble_eq_true rfl), (Nat.le_of_ble_eq_true rfl)⟩) hP hD hS hA [8] [0, 1, 2, 3, 4, 5, 6, 7] rfl rfl rfl rfl (by decide) (fun _ => rfl) 0 0 rfl rfl (fun r_118p19 u_118p19 H locs hw hP hD hS => ?_)
        obtain g_118p19_0 := hw
        have hP : va_P (dC, dI) vwCl [((r 15), .inl (cI, 20, .inl (upd f15 y_43p19.toNatClampNeg r_71p19))), ((r 16), .inl (cI, 20, .inl (upd f16 y_43p19.toNatClampNeg r_91p19))), ((r 17), .inl (cI, 20, .inl (upd f17 y_43p19.toNatClampNeg 0))), ((r 14), .inl (cI, 2, .inl f14)), ((r 18), .inl (cI, 2, .inl f18)), ((r 34), .inl (cJ, 20, .inr (.inl (vp_updL g34 y_43p19.toNatClampNeg r_51p19)))), ((r 35), .inl (cJ, 24, .inr (.inl g35))), ((r 0), .inl (cI, 1800, .inl f0)), (h, .inr (7, oM r (upd (upd (upd (upd (upd (upd (upd i 3 (u_91p19.1 0)) 4 (u_91p19.1 1)) 5 (u_91p19.1 2)) 6 (u_91p19.1 3)) 8 (u_103p19.1 0)) 9 (u_103p19.1 1)) 12 (u_91p19.1 6)) (vp_updL j 7 (u_91p19.2.1 0))))] H := hP
        have hD : va_D A [((r 15), .inl (cI, 20, .inl (upd f15 y_43p19.toNatClampNeg r_71p19))), ((r 16), .inl (cI, 20, .inl (upd f16 y_43p19.toNatClampNeg r_91p19))), ((r 17), .inl (cI, 20, .inl (upd f17 y_43p19.toNatClampNeg 0))), ((r 14), .inl (cI, 2, .inl f14)), ((r 18), .inl (cI, 2, .inl f18)), ((r 34), .inl (cJ, 20, .inr (.inl (vp_updL g34 y_43p19.toNatClampNeg r_51p19)))), ((r 35), .inl (cJ, 24, .inr (.inl g35))), ((r 0), .inl (cI, 1800, .inl f0)), (h, .inr (7, oM r (upd (upd (upd (upd (upd (upd (upd i 3 (u_91p19.1 0)) 4 (u_91p19.1 1)) 5 (u_91p19.1 2)) 6 (u_91p19.1 3)) 8 (u_103p19.1 0)) 9 (u_103p19.1 1)) 12 (u_91p19.1 6)) (vp_updL j 7 (u_91p19.2.1 0))))] := hD
        have J_135p19 : ∀ (j135p19_A5 : Nat → Int32) (j135p19_M0_3 : Int32) (j135p19_M0_4 : Int32) (j135p19_M0_5 : Int32) (j135p19_M0_6 : Int32) (j135p19_M0_7 : Int64) (j135p19_M0_12 : Int32) (hj135p19_A5 : aR j135p19_A5 0 1) (hj135p19_M0_3 : iR j135p19_M0_3 0 3) (hj135p19_M0_4 : iR j135p19_M0_4 0 1600) (hj135p19_M0_5 : iR j135p19_M0_5 0 1600) (H : Heap) (locs : List Loc) (ls : Array Slot), va_P (dC, dI) vwCl [(h, .inr (7, oM r (upd (upd (upd (upd (upd (upd (upd i 3 j135p19_M0_3) 4 j135p19_M0_4) 5 j135p19_M0_5) 6 j135p19_M0_6) 8 (u_103p19.1 0)) 9 (u_103p19.1 1)) 12 j135p19_M0_12) (vp_updL j 7 j135p19_M0_7))), ((r 0), .inl (cI, 1800, .inl f0)), ((r 14), .inl (cI, 2, .inl f14)), ((r 15), .inl (cI, 20, .inl (upd f15 y_43p19.toNatClampNeg r_71p19))), ((r 16), .inl (cI, 20, .inl (upd f16 y_43p19.toNatClampNeg r_91p19))), ((r 17), .inl (cI, 20, .inl j135p19_A5)), ((r 18), .inl (cI, 2, .inl f18)), ((r 34), .inl (cJ, 20, .inr (.inl (vp_updL g34 y_43p19.toNatClampNeg r_51p19)))), ((r 35), .inl (cJ, 24, .inr (.inl g35)))] H → va_D A [(h, .inr (7, oM r (upd (upd (upd (upd (upd (upd (upd i 3 j135p19_M0_3) 4 j135p19_M0_4) 5 j135p19_M0_5) 6 j135p19_M0_6) 8 (u_103p19.1 0)) 9 (u_103p19.1 1)) 12 j135p19_M0_12) (vp_updL j 7 j135p19_M0_7))), ((r 0), .inl (cI, 1800, .inl f0)), ((r 14), .inl (cI, 2, .inl f14)), ((r 15), .inl (cI, 20, .inl (upd f15 y_43p19.toNatClampNeg r_71p19))), ((r 16), .inl (cI, 20, .inl (upd f16 y_43p19.toNatClampNeg r_91p19))), ((r 17), .inl (cI, 20, .inl j135p19_A5)), ((r 18), .inl (cI, 2, .inl f18)), ((r 34), .inl (cJ, 20, .inr (.inl (vp_updL g34 y_43p19.toNatClampNeg r_51p19)))), ((r 35), .inl (cJ, 24, .inr (.inl g35)))] → va_S A s.heap H locs → lv_has ls 2 [(0, .ref h)] → W p l e ({ frames := 4, cells := 0, slots := 0, locals := 110 }) s m args below meth c H locs 0 0 (MQ below (va_Qv (fun (u9 : SU) => (iR (u9.1 0) 0 3) ∧ (iR (u9.1 1) 0 1600) ∧ (iR (u9.1 2) 0 1600) ∧ (iR (u9.1 4) 0 6) ∧ (aR (u9.2.2.1 0) 0 10) ∧ (aR (u9.2.2.1 3) 0 1)) (fun u => k_B (dC, dI) vwCl (tyy cI cJ cZ cM) A ((fun (u9 : SU) => [(h, .inr (7, oM r (upd (upd (upd (upd (upd (upd (upd i 3 (u9.1 0)) 4 (u9.1 1)) 5 (u9.1 2)) 6 (u9.1 3)) 8 (u9.1 4)) 9 (u9.1 5)) 12 (u9.1 6)) (vp_updL j 7 (u9.2.1 0)))), ((r 0), .inl (cI, 1800, .inl f0)), ((r 14), .inl (cI, 2, .inl (u9.2.2.1 0))), ((r 15), .inl (cI, 20, .inl (u9.2.2.1 1))), ((r 16), .inl (cI, 20, .inl (u9.2.2.1 2))), ((r 17), .inl (cI, 20, .inl (u9.2.2.1 3))), ((r 18), .inl (cI, 2, .inl f18)), ((r 34), .inl (cJ, 20, .inr (.inl (u9.2.2.2.1 0)))), ((r 35), .inl (cJ, 24, .inr (.inl g35)))]) u)) A) args s 0 0 A) (F0 m 135 ls []) := by
          intro j135p19_A5 j135p19_M0_3 j135p19_M0_4 j135p19_M0_5 j135p19_M0_6 j135p19_M0_7 j135p19_M0_12 hj135p19_A5 hj135p19_M0_3 hj135p19_M0_4 hj135p19_M0_5 H locs ls hP hD hS hl
          refine lv_aload_n hx hb dX7_thinging_135 rfl (lv_at hl 0 rfl) ?_
          refine k_get (D := (dC, dI)) (ci := 7) (v := .ref (r 14)) (C := RX7) (T := TX7) (N := 92) hx hb hts hinX7 hown hK hP 0 rfl rfl 14 (by decide) w_0 rfl rfl dX7_thinging_136 ?_
          refine lv_aload_n hx hb dX7_thinging_139 rfl (lv_at hl 0 rfl) ?_
          refine k_get (D := (dC, dI)) (ci := 7) (v := .int (i 37)) (C := RX7) (T := TX7) (N := 92) hx hb hts hinX7 hown hK hP 0 rfl rfl 37 (by decide) w_1 rfl rfl dX7_thinging_140 ?_
          refine lv_dup2_11 hx hb dX7_thinging_143 rfl rfl ?_
          refine va_iald hx hb hK hP 2 0 rfl rfl (iR_vp f_6_1 (by decide +kernel)) dX7_thinging_144 ?_
          refine lv_iconst (v := 1) hx hb dX7_thinging_145 (by decide +kernel) ?_
          refine lv_iadd hx hb dX7_thinging_146 ?_
          refine lv_topi (fun y_146p19 ey_146p19 => ?_)
          have f_146p19_1 : iR y_146p19 1 10 := iR_add ey_146p19 f_19_3 (iR_c (n := 1) (by decide +kernel) (by decide +kernel)) (by decide +kernel)
          refine s_iast (g := (upd f14 (i 37).toNatClampNeg y_146p19)) (ws' := [(h, .inr (7, oM r (upd (upd (upd (upd (upd (upd (upd i 3 j135p19_M0_3) 4 j135p19_M0_4) 5 j135p19_M0_5) 6 j135p19_M0_6) 8 (u_103p19.1 0)) 9 (u_103p19.1 1)) 12 j135p19_M0_12) (vp_updL j 7 j135p19_M0_7))), ((r 0), .inl (cI, 1800, .inl f0)), ((r 14), .inl (cI, 2, .inl (upd f14 (i 37).toNatClampNeg y_146p19))), ((r 15), .inl (cI, 20, .inl (upd f15 y_43p19.toNatClampNeg r_71p19))), ((r 16), .inl (cI, 20, .inl (upd f16 y_43p19.toNatClampNeg r_91p19))), ((r 17), .inl (cI, 20, .inl j135p19_A5)), ((r 18), .inl (cI, 2, .inl f18)), ((r 34), .inl (cJ, 20, .inr (.inl (vp_updL g34 y_43p19.toNatClampNeg r_51p19)))), ((r 35), .inl (cJ, 24, .inr (.inl g35)))]) hx hb hK hP hD hS 2 0 rfl rfl (iR_vp f_6_1 (by decide +kernel)) rfl rfl dX7_thinging_147 (fun H locs hP hD hS => ?_)
          exact k_rv B hP hD hS dX7_thinging_148 ((fun k9 => match k9 with | 0 => j135p19_M0_3 | 1 => j135p19_M0_4 | 2 => j135p19_M0_5 | 3 => j135p19_M0_6 | 4 => (u_103p19.1 0) | 5 => (u_103p19.1 1) | 6 => j135p19_M0_12 | _ => 0), (fun k9 => match k9 with | 0 => j135p19_M0_7 | _ => 0), (fun k9 => match k9 with | 0 => (upd f14 (i 37).toNatClampNeg y_146p19) | 1 => (upd f15 y_43p19.toNatClampNeg r_71p19) | 2 => (upd f16 y_43p19.toNatClampNeg r_91p19) | 3 => j135p19_A5 | _ => (fun _ => 0)), (fun k9 => match k9 with | 0 => (vp_updL g34 y_43p19.toNatClampNeg r_51p19) | _ => (fun _ => 0)), (fun _ => 0)) [0, 1, 2, 3, 4, 5, 6, 7, 8] rfl rfl (Nat.le_of_ble_eq_true rfl) (Nat.le_of_ble_eq_true rfl) ⟨hj135p19_M0_3, hj135p19_M0_4, hj135p19_M0_5, (iR_w f_114p19_7 (by decide +kernel)), (aR_upd _ hf14 (iR_w f_146p19_1 (by decide +kernel))), hj135p19_A5⟩
        refine lv_if_eq (tgt := 135) hx hb dX7_thinging_121 (by decide) (fun c_121p19 => ?_) (fun c_121p19 => ?_)
        · have c_121p19 : r_118p19 = 0 := c_121p19
          have f_135p19_8 : iR r_118p19 0 0 := iR_eqL c_121p19 g_118p19_0 (iR_c (n := 0) (by decide +kernel) (by decide +kernel)) (by decide +kernel)
          exact J_135p19 (upd f17 y_43p19.toNatClampNeg 0) (u_91p19.1 0) (u_91p19.1 1) (u_91p19.1 2) (u_91p19.1 3) (u_91p19.2.1 0) (u_91p19.1 6) (aR_upd _ hf17 (iR_c (n := 0) (by decide +kernel) (by decide +kernel))) g_91p19_0 g_91p19_1 g_91p19_2 H locs ls (hP.sub [8, 7, 3, 0, 1, 2, 4, 5, 6] rfl) (hD.sub [8, 7, 3, 0, 1, 2, 4, 5, 6] (by decide +kernel) rfl) hS (lv_sub hl [1] rfl)
        · have c_121p19 : ¬ r_118p19 = 0 := c_121p19
          have f_124p19_8 : iR r_118p19 1 1 := iR_neL c_121p19 g_118p19_0 (iR_c (n := 0) (by decide +kernel) (by decide +kernel)) (by decide +kernel)
          refine lv_aload_n hx hb dX7_thinging_124 rfl (lv_at hl 1 rfl) ?_
          refine k_get (D := (dC, dI)) (ci := 7) (v := .ref (r 17)) (C := RX7) (T := TX7) (N := 92) hx hb hts hinX7 hown hK hP 8 rfl rfl 17 (by decide) w_7 rfl rfl dX7_thinging_125 ?_
          refine lv_iload_n hx hb dX7_thinging_128 rfl (lv_at hl 0 rfl) ?_
          refine lv_iconst (v := 1) hx hb dX7_thinging_129 (by decide +kernel) ?_
          refine s_iast (g := (upd (upd f17 y_43p19.toNatClampNeg 0) y_43p19.toNatClampNeg 1)) (ws' := [((r 15), .inl (cI, 20, .inl (upd f15 y_43p19.toNatClampNeg r_71p19))), ((r 16), .inl (cI, 20, .inl (upd f16 y_43p19.toNatClampNeg r_91p19))), ((r 17), .inl (cI, 20, .inl (upd (upd f17 y_43p19.toNatClampNeg 0) y_43p19.toNatClampNeg 1))), ((r 14), .inl (cI, 2, .inl f14)), ((r 18), .inl (cI, 2, .inl f18)), ((r 34), .inl (cJ, 20, .inr (.inl (vp_updL g34 y_43p19.toNatClampNeg r_51p19)))), ((r 35), .inl (cJ, 24, .inr (.inl g35))), ((r 0), .inl (cI, 1800, .inl f0)), (h, .inr (7, oM r (upd (upd (upd (upd (upd (upd (upd i 3 (u_91p19.1 0)) 4 (u_91p19.1 1)) 5 (u_91p19.1 2)) 6 (u_91p19.1 3)) 8 (u_103p19.1 0)) 9 (u_103p19.1 1)) 12 (u_91p19.1 6)) (vp_updL j 7 (u_91p19.2.1 0))))]) hx hb hK hP hD hS 2 0 rfl rfl (iR_vp f_43p19_6 (by decide +kernel)) rfl rfl dX7_thinging_130 (fun H locs hP hD hS => ?_)
          refine lv_aload_n hx hb dX7_thinging_131 rfl (lv_at hl 1 rfl) ?_
          refine k_cv (wc := [(h, .inr (7, oM r (upd (upd (upd (upd (upd (upd (upd i 3 (u_91p19.1 0)) 4 (u_91p19.1 1)) 5 (u_91p19.1 2)) 6 (u_91p19.1 3)) 8 (u_103p19.1 0)) 9 (u_103p19.1 1)) 12 (u_91p19.1 6)) (vp_updL j 7 (u_91p19.2.1 0)))), ((r 0), .inl (cI, 1800, .inl f0))]) (wr := [((r 15), .inl (cI, 20, .inl (upd f15 y_43p19.toNatClampNeg r_71p19))), ((r 16), .inl (cI, 20, .inl (upd f16 y_43p19.toNatClampNeg r_91p19))), ((r 17), .inl (cI, 20, .inl (upd (upd f17 y_43p19.toNatClampNeg 0) y_43p19.toNatClampNeg 1))), ((r 14), .inl (cI, 2, .inl f14)), ((r 18), .inl (cI, 2, .inl f18)), ((r 34), .inl (cJ, 20, .inr (.inl (vp_updL g34 y_43p19.toNatClampNeg r_51p19)))), ((r 35), .inl (cJ, 24, .inr (.inl g35)))]) (fun hPc hDc hFc => va_runV (As := []) (rest := []) ⟨hx, hb, hml, hown, hts⟩ (s_X7_ahead_v6 l dC dI cI cJ cZ cM h r (upd (upd (upd (upd (upd (upd (upd i 3 (u_91p19.1 0)) 4 (u_91p19.1 1)) 5 (u_91p19.1 2)) 6 (u_91p19.1 3)) 8 (u_103p19.1 0)) 9 (u_103p19.1 1)) 12 (u_91p19.1 6)) (vp_updL j 7 (u_91p19.2.1 0)) f0 (mR_upd 12 (mR_upd 9 (mR_upd 8 (mR_upd 6 (mR_upd 5 (mR_upd 4 (mR_upd 3 hI (show iR _ (loI 3) (hiI 3) from g_91p19_0)) (show iR _ (loI 4) (hiI 4) from g_91p19_1)) (show iR _ (loI 5) (hiI 5) from g_91p19_2)) (show iR _ (loI 6) (hiI 6) from (iR_top _))) (show iR _ (loI 8) (hiI 8) from (iR_w f_114p19_7 (by decide +kernel)))) (show iR _ (loI 9) (hiI 9) from (iR_top _))) (show iR _ (loI 12) (hiI 12) from (iR_top _))) hf0 H.size) (cwV 0 hts gX7_thinging_X7_ahead rfl rfl rfl (by decide +kernel) ⟨(Nat.le_of_ble_eq_true rfl), (Nat.le_of_ble_eq_true rfl)⟩) (k_pV hPc hDc hK hN hC hS hFc hP (q0 := 8) (ci := 7) rfl rfl) rfl rfl hl.1 rfl (lv_room (Nat.le_of_ble_eq_true rfl)) dX7_thinging_132 ⟨(Nat.le_of_ble_eq_true rfl), (Nat.le_of_ble_eq_true rfl)⟩) hP hD hS hA [8, 7] [0, 1, 2, 3, 4, 5, 6] rfl rfl rfl rfl (by decide) (fun _ => rfl) 0 0 rfl rfl (fun u_132p19 H locs hw hP hD hS => ?_)
          obtain ⟨g_132p19_0, g_132p19_1, g_132p19_2, g_132p19_3⟩ := hw
          have hP : va_P (dC, dI) vwCl [((r 15), .inl (cI, 20, .inl (upd f15 y_43p19.toNatClampNeg r_71p19))), ((r 16), .inl (cI, 20, .inl (upd f16 y_43p19.toNatClampNeg r_91p19))), ((r 17), .inl (cI, 20, .inl (upd (upd f17 y_43p19.toNatClampNeg 0) y_43p19.toNatClampNeg 1))), ((r 14), .inl (cI, 2, .inl f14)), ((r 18), .inl (cI, 2, .inl f18)), ((r 34), .inl (cJ, 20, .inr (.inl (vp_updL g34 y_43p19.toNatClampNeg r_51p19)))), ((r 35), .inl (cJ, 24, .inr (.inl g35))), (h, .inr (7, oM r (upd (upd (upd (upd (upd (upd (upd i 3 (u_132p19.1 0)) 4 (u_132p19.1 1)) 5 (u_132p19.1 2)) 6 (u_132p19.1 3)) 8 (u_103p19.1 0)) 9 (u_103p19.1 1)) 12 (u_132p19.1 4)) (vp_updL j 7 (u_132p19.2.1 0)))), ((r 0), .inl (cI, 1800, .inl f0))] H := hP
          have hD : va_D A [((r 15), .inl (cI, 20, .inl (upd f15 y_43p19.toNatClampNeg r_71p19))), ((r 16), .inl (cI, 20, .inl (upd f16 y_43p19.toNatClampNeg r_91p19))), ((r 17), .inl (cI, 20, .inl (upd (upd f17 y_43p19.toNatClampNeg 0) y_43p19.toNatClampNeg 1))), ((r 14), .inl (cI, 2, .inl f14)), ((r 18), .inl (cI, 2, .inl f18)), ((r 34), .inl (cJ, 20, .inr (.inl (vp_updL g34 y_43p19.toNatClampNeg r_51p19)))), ((r 35), .inl (cJ, 24, .inr (.inl g35))), (h, .inr (7, oM r (upd (upd (upd (upd (upd (upd (upd i 3 (u_132p19.1 0)) 4 (u_132p19.1 1)) 5 (u_132p19.1 2)) 6 (u_132p19.1 3)) 8 (u_103p19.1 0)) 9 (u_103p19.1 1)) 12 (u_132p19.1 4)) (vp_updL j 7 (u_132p19.2.1 0)))), ((r 0), .inl (cI, 1800, .inl f0))] := hD
          exact J_135p19 (upd (upd f17 y_43p19.toNatClampNeg 0) y_43p19.toNatClampNeg 1) (u_132p19.1 0) (u_132p19.1 1) (u_132p19.1 2) (u_132p19.1 3) (u_132p19.2.1 0) (u_132p19.1 4) (aR_upd _ (aR_upd _ hf17 (iR_c (n := 0) (by decide +kernel) (by decide +kernel))) (iR_c (n := 1) (by decide +kernel) (by decide +kernel))) g_132p19_0 g_132p19_1 g_132p19_2 H locs ls (hP.sub [7, 8, 3, 0, 1, 2, 4, 5, 6] rfl) (hD.sub [7, 8, 3, 0, 1, 2, 4, 5, 6] (by decide +kernel) rfl) hS (lv_sub hl [1] rfl)
      · have c_110p19 : 0 < (u_103p19.1 0) := i_nle c_110p19
        have f_113p19_7 : iR (u_103p19.1 0) 1 6 := iR_ltR c_110p19 (iR_c (n := 0) (by decide +kernel) (by decide +kernel)) g_103p19_0 (by decide +kernel)
        exact k_rv B hP hD hS dX7_thinging_113 ((fun k9 => match k9 with | 0 => (u_91p19.1 0) | 1 => (u_91p19.1 1) | 2 => (u_91p19.1 2) | 3 => (u_91p19.1 3) | 4 => (u_103p19.1 0) | 5 => (u_103p19.1 1) | 6 => (u_91p19.1 6) | _ => 0), (fun k9 => match k9 with | 0 => (u_91p19.2.1 0) | _ => 0), (fun k9 => match k9 with | 0 => f14 | 1 => (upd f15 y_43p19.toNatClampNeg r_71p19) | 2 => (upd f16 y_43p19.toNatClampNeg r_91p19) | 3 => (upd f17 y_43p19.toNatClampNeg 0) | _ => (fun _ => 0)), (fun k9 => match k9 with | 0 => (vp_updL g34 y_43p19.toNatClampNeg r_51p19) | _ => (fun _ => 0)), (fun _ => 0)) [8, 7, 3, 0, 1, 2, 4, 5, 6] rfl rfl (Nat.le_of_ble_eq_true rfl) (Nat.le_of_ble_eq_true rfl) ⟨g_91p19_0, g_91p19_1, g_91p19_2, (iR_w f_113p19_7 (by decide +kernel)), hf14, (aR_upd _ hf17 (iR_c (n := 0) (by decide +kernel) (by decide +kernel)))⟩
    · have c_23p19 : r_20p19 = 0 := c_23p19
      have f_26p19_4 : iR r_20p19 0 0 := iR_eqL c_23p19 g_20p19_0 (iR_c (n := 0) (by decide +kernel) (by decide +kernel)) (by decide +kernel)
      exact k_rv B hP hD hS dX7_thinging_26 ((fun k9 => match k9 with | 0 => (u_20p19.1 0) | 1 => (u_20p19.1 1) | 2 => (u_20p19.1 2) | 3 => (u_20p19.1 3) | 4 => (i 8) | 5 => (i 9) | 6 => (u_20p19.1 4) | _ => 0), (fun k9 => match k9 with | 0 => (u_20p19.2.1 0) | _ => 0), (fun k9 => match k9 with | 0 => f14 | 1 => f15 | 2 => f16 | 3 => f17 | _ => (fun _ => 0)), (fun k9 => match k9 with | 0 => g34 | _ => (fun _ => 0)), (fun _ => 0)) [7, 8, 0, 1, 2, 3, 4, 5, 6] rfl rfl (Nat.le_of_ble_eq_true rfl) (Nat.le_of_ble_eq_true rfl) ⟨g_20p19_1, g_20p19_2, g_20p19_3, (hI 8), hf14, hf17⟩
  · have c_12 : (f14 (i 37).toNatClampNeg) = 10 := c_12
    have f_15_3 : iR (f14 (i 37).toNatClampNeg) 10 10 := iR_eqL c_12 f_9_2 (iR_c (n := 10) (by decide +kernel) (by decide +kernel)) (by decide +kernel)
    refine lv_iconst (v := 1) hx hb dX7_thinging_15 (by decide +kernel) ?_
    refine lv_goto (tgt := 20) hx hb dX7_thinging_16 (by decide) ?_
    refine k_ci (wc := [(h, .inr (7, oM r i j))]) (wr := [((r 0), .inl (cI, 1800, .inl f0)), ((r 14), .inl (cI, 2, .inl f14)), ((r 15), .inl (cI, 20, .inl f15)), ((r 16), .inl (cI, 20, .inl f16)), ((r 17), .inl (cI, 20, .inl f17)), ((r 18), .inl (cI, 2, .inl f18)), ((r 34), .inl (cJ, 20, .inr (.inl g34))), ((r 35), .inl (cJ, 24, .inr (.inl g35)))]) (fun hPc hDc hFc => va_runV (As := [.int 1]) (rest := []) ⟨hx, hb, hml, hown, hts⟩ (s_X7_counts_v6 l dC dI cI cJ cZ cM h r i j hI H.size) (cwV 1 hts gX7_thinging_X7_counts rfl rfl rfl (by decide +kernel) ⟨(Nat.le_of_ble_eq_true rfl), (Nat.le_of_ble_eq_true rfl)⟩) (k_pV hPc hDc hK hN hC hS hFc hP (q0 := 0) (ci := 7) rfl rfl) rfl rfl hl.1 rfl (lv_room (Nat.le_of_ble_eq_true rfl)) dX7_thinging_20 ⟨(Nat.le_of_ble_eq_true rfl), (Nat.le_of_ble_eq_true rfl)⟩) hP hD hS hA [0] [1, 2, 3, 4, 5, 6, 7, 8] rfl rfl rfl rfl (by decide) (fun _ => rfl) 0 0 rfl rfl (fun r_20p16 u_20p16 H locs hw hP hD hS => ?_)
    obtain ⟨g_20p16_0, g_20p16_1⟩ := hw
    obtain rfl : r_20p16 = 0 := g_20p16_0
    have hP : va_P (dC, dI) vwCl [((r 0), .inl (cI, 1800, .inl f0)), ((r 14), .inl (cI, 2, .inl f14)), ((r 15), .inl (cI, 20, .inl f15)), ((r 16), .inl (cI, 20, .inl f16)), ((r 17), .inl (cI, 20, .inl f17)), ((r 18), .inl (cI, 2, .inl f18)), ((r 34), .inl (cJ, 20, .inr (.inl g34))), ((r 35), .inl (cJ, 24, .inr (.inl g35))), (h, .inr (7, oM r (upd (upd i 8 (u_20p16.1 0)) 9 (u_20p16.1 1)) j))] H := hP
    have hD : va_D A [((r 0), .inl (cI, 1800, .inl f0)), ((r 14), .inl (cI, 2, .inl f14)), ((r 15), .inl (cI, 20, .inl f15)), ((r 16), .inl (cI, 20, .inl f16)), ((r 17), .inl (cI, 20, .inl f17)), ((r 18), .inl (cI, 2, .inl f18)), ((r 34), .inl (cJ, 20, .inr (.inl g34))), ((r 35), .inl (cJ, 24, .inr (.inl g35))), (h, .inr (7, oM r (upd (upd i 8 (u_20p16.1 0)) 9 (u_20p16.1 1)) j))] := hD
    refine lv_if_ne (tgt := 27) hx hb dX7_thinging_23 (by decide) (fun q9 => absurd q9 (by decide +kernel)) (fun _ => ?_)
    exact k_rv B hP hD hS dX7_thinging_26 ((fun k9 => match k9 with | 0 => (i 3) | 1 => (i 4) | 2 => (i 5) | 3 => (i 6) | 4 => (u_20p16.1 0) | 5 => (u_20p16.1 1) | 6 => (i 12) | _ => 0), (fun k9 => match k9 with | 0 => (j 7) | _ => 0), (fun k9 => match k9 with | 0 => f14 | 1 => f15 | 2 => f16 | 3 => f17 | _ => (fun _ => 0)), (fun k9 => match k9 with | 0 => g34 | _ => (fun _ => 0)), (fun _ => 0)) [8, 0, 1, 2, 3, 4, 5, 6, 7] rfl rfl (Nat.le_of_ble_eq_true rfl) (Nat.le_of_ble_eq_true rfl) ⟨(hI 3), (hI 4), (hI 5), (iR_w g_20p16_1 (by decide +kernel)), hf14, hf17⟩
set_option maxHeartbeats 8000000 in
set_option maxRecDepth 100000 in
theorem s_X7_two_v0 (l : Launch) (dC : Nat → ClassId) (dI : Nat → Nat → Nat) (cI cJ cZ cM : ClassId) (x0 : Int32) (x1 : Int64) (x2 : Int64)  : k_Ml l yX7_two wsX7_two ({ frames := 2, cells := 0, slots := 0, locals := 65 }) (dC, dI) vwCl (tyy cI cJ cZ cM) [] [.int x0, .long x1, .long x2] 0 0 (fun (u9 : Unit) => []) (fun (r9 : Int64) (u9 : Unit) => True) := by
  refine fun sz => k_enter (cc := cX7_two) (maxL := 5) (ret := some (.long)) (Qc := fun A => va_Ql (fun (r9 : Int64) (u9 : Unit) => True) (fun u => k_B (dC, dI) vwCl (tyy cI cJ cZ cM) A ((fun (u9 : Unit) => []) u)) A) sz (by decide +kernel) rfl (Nat.le_of_ble_eq_true rfl) (fun p e s m args below meth c A ls H locs B hP hD hS hl => ?_)
  obtain ⟨hx, hb, hml, hown, hts, hr, hlk, hnm, hK, hA, hN, hC⟩ := id B
  have hown : s.vm.findClass RX7 = some m.cls := hown
  have hl : lv_has ls 5 [(0, .int x0), (1, .long x1), (3, .long x2)] := hl
  refine lv_iload_n hx hb dX7_two_0 rfl (lv_at hl 0 rfl) ?_
  rcases (show x0.toInt = 10 ∨ x0.toInt = 11 ∨ x0.toInt = 12 ∨ x0.toInt = 13 ∨ x0.toInt = 14 ∨ x0.toInt = 15 ∨ x0.toInt = 16 ∨ x0.toInt = 17 ∨ x0.toInt = 18 ∨ x0.toInt = 19 ∨ x0.toInt = 20 ∨ (¬ x0.toInt = 10 ∧ ¬ x0.toInt = 11 ∧ ¬ x0.toInt = 12 ∧ ¬ x0.toInt = 13 ∧ ¬ x0.toInt = 14 ∧ ¬ x0.toInt = 15 ∧ ¬ x0.toInt = 16 ∧ ¬ x0.toInt = 17 ∧ ¬ x0.toInt = 18 ∧ ¬ x0.toInt = 19 ∧ ¬ x0.toInt = 20) by omega) with c_1 | c_1 | c_1 | c_1 | c_1 | c_1 | c_1 | c_1 | c_1 | c_1 | c_1 | c_1
  · have f_60_1 : iR x0 10 10 := iR_c c_1 (by decide +kernel)
    refine lv_tableIn (off := 59) (tgt := 60) hx hb dX7_two_1 (by rw [c_1]; decide) (by rw [c_1]; decide) (by rw [c_1]; decide +kernel) (by decide +kernel) ?_
    refine lv_lload_n hx hb dX7_two_60 rfl (lv_at hl 1 rfl) ?_
    refine lv_lload_n hx hb dX7_two_61 rfl (lv_at hl 2 rfl) ?_
    refine lv_ladd hx hb dX7_two_62 ?_
    refine lv_topl (fun y_62 ey_62 => ?_)
    refine k_cl (wc := []) (wr := []) (fun hPc hDc hFc => va_runS (As := [.long y_62]) (rest := []) ⟨hx, hb, hml, hown, hts⟩ (s_X7_held_v0 l dC dI cI cJ cZ cM y_62 H.size) (va_cwS 1 hts gX7_two_X7_held rfl rfl rfl (by decide +kernel) ⟨(Nat.le_of_ble_eq_true rfl), (Nat.le_of_ble_eq_true rfl)⟩) (k_pS hPc hDc hK hN hC hS hFc) rfl rfl hl.1 rfl (lv_room (Nat.le_of_ble_eq_true rfl)) dX7_two_63 ⟨(Nat.le_of_ble_eq_true rfl), (Nat.le_of_ble_eq_true rfl)⟩) hP hD hS hA [] [] rfl rfl rfl rfl (by decide) (fun _ => rfl) 0 0 rfl rfl (fun r_63 u_63 H locs hw hP hD hS => ?_)
    have hP : va_P (dC, dI) vwCl [] H := hP
    have hD : va_D A [] := hD
    exact k_rl B hP hD hS dX7_two_66 () [] rfl rfl (Nat.le_of_ble_eq_true rfl) (Nat.le_of_ble_eq_true rfl) trivial
  · have f_67_1 : iR x0 11 11 := iR_c c_1 (by decide +kernel)
    refine lv_tableIn (off := 66) (tgt := 67) hx hb dX7_two_1 (by rw [c_1]; decide) (by rw [c_1]; decide) (by rw [c_1]; decide +kernel) (by decide +kernel) ?_
    refine lv_lload_n hx hb dX7_two_67 rfl (lv_at hl 1 rfl) ?_
    refine lv_lload_n hx hb dX7_two_68 rfl (lv_at hl 2 rfl) ?_
    refine lv_lsub hx hb dX7_two_69 ?_
    refine lv_topl (fun y_69 ey_69 => ?_)
    refine k_cl (wc := []) (wr := []) (fun hPc hDc hFc => va_runS (As := [.long y_69]) (rest := []) ⟨hx, hb, hml, hown, hts⟩ (s_X7_held_v0 l dC dI cI cJ cZ cM y_69 H.size) (va_cwS 1 hts gX7_two_X7_held rfl rfl rfl (by decide +kernel) ⟨(Nat.le_of_ble_eq_true rfl), (Nat.le_of_ble_eq_true rfl)⟩) (k_pS hPc hDc hK hN hC hS hFc) rfl rfl hl.1 rfl (lv_room (Nat.le_of_ble_eq_true rfl)) dX7_two_70 ⟨(Nat.le_of_ble_eq_true rfl), (Nat.le_of_ble_eq_true rfl)⟩) hP hD hS hA [] [] rfl rfl rfl rfl (by decide) (fun _ => rfl) 0 0 rfl rfl (fun r_70 u_70 H locs hw hP hD hS => ?_)
    have hP : va_P (dC, dI) vwCl [] H := hP
    have hD : va_D A [] := hD
    exact k_rl B hP hD hS dX7_two_73 () [] rfl rfl (Nat.le_of_ble_eq_true rfl) (Nat.le_of_ble_eq_true rfl) trivial
  · have f_74_1 : iR x0 12 12 := iR_c c_1 (by decide +kernel)
    refine lv_tableIn (off := 73) (tgt := 74) hx hb dX7_two_1 (by rw [c_1]; decide) (by rw [c_1]; decide) (by rw [c_1]; decide +kernel) (by decide +kernel) ?_
    refine lv_lload_n hx hb dX7_two_74 rfl (lv_at hl 1 rfl) ?_
    refine lv_lload_n hx hb dX7_two_75 rfl (lv_at hl 2 rfl) ?_
    refine lv_lmul hx hb dX7_two_76 ?_
    refine lv_topl (fun y_76 ey_76 => ?_)
    refine k_cl (wc := []) (wr := []) (fun hPc hDc hFc => va_runS (As := [.long y_76]) (rest := []) ⟨hx, hb, hml, hown, hts⟩ (s_X7_held_v0 l dC dI cI cJ cZ cM y_76 H.size) (va_cwS 1 hts gX7_two_X7_held rfl rfl rfl (by decide +kernel) ⟨(Nat.le_of_ble_eq_true rfl), (Nat.le_of_ble_eq_true rfl)⟩) (k_pS hPc hDc hK hN hC hS hFc) rfl rfl hl.1 rfl (lv_room (Nat.le_of_ble_eq_true rfl)) dX7_two_77 ⟨(Nat.le_of_ble_eq_true rfl), (Nat.le_of_ble_eq_true rfl)⟩) hP hD hS hA [] [] rfl rfl rfl rfl (by decide) (fun _ => rfl) 0 0 rfl rfl (fun r_77 u_77 H locs hw hP hD hS => ?_)
    have hP : va_P (dC, dI) vwCl [] H := hP
    have hD : va_D A [] := hD
    exact k_rl B hP hD hS dX7_two_80 () [] rfl rfl (Nat.le_of_ble_eq_true rfl) (Nat.le_of_ble_eq_true rfl) trivial
  · have f_81_1 : iR x0 13 13 := iR_c c_1 (by decide +kernel)
    refine lv_tableIn (off := 80) (tgt := 81) hx hb dX7_two_1 (by rw [c_1]; decide) (by rw [c_1]; decide) (by rw [c_1]; decide +kernel) (by decide +kernel) ?_
    refine lv_lload_n hx hb dX7_two_81 rfl (lv_at hl 1 rfl) ?_
    refine lv_lload_n hx hb dX7_two_82 rfl (lv_at hl 2 rfl) ?_
    refine k_cl (wc := []) (wr := []) (fun hPc hDc hFc => va_runS (As := [.long x1, .long x2]) (rest := []) ⟨hx, hb, hml, hown, hts⟩ (s_X7_floor_v0 l dC dI cI cJ cZ cM x1 x2 H.size) (va_cwS 2 hts gX7_two_X7_floor rfl rfl rfl (by decide +kernel) ⟨(Nat.le_of_ble_eq_true rfl), (Nat.le_of_ble_eq_true rfl)⟩) (k_pS hPc hDc hK hN hC hS hFc) rfl rfl hl.1 rfl (lv_room (Nat.le_of_ble_eq_true rfl)) dX7_two_83 ⟨(Nat.le_of_ble_eq_true rfl), (Nat.le_of_ble_eq_true rfl)⟩) hP hD hS hA [] [] rfl rfl rfl rfl (by decide) (fun _ => rfl) 0 0 rfl rfl (fun r_83 u_83 H locs hw hP hD hS => ?_)
    have hP : va_P (dC, dI) vwCl [] H := hP
    have hD : va_D A [] := hD
    refine k_cl (wc := []) (wr := []) (fun hPc hDc hFc => va_runS (As := [.long r_83]) (rest := []) ⟨hx, hb, hml, hown, hts⟩ (s_X7_held_v0 l dC dI cI cJ cZ cM r_83 H.size) (va_cwS 1 hts gX7_two_X7_held rfl rfl rfl (by decide +kernel) ⟨(Nat.le_of_ble_eq_true rfl), (Nat.le_of_ble_eq_true rfl)⟩) (k_pS hPc hDc hK hN hC hS hFc) rfl rfl hl.1 rfl (lv_room (Nat.le_of_ble_eq_true rfl)) dX7_two_86 ⟨(Nat.le_of_ble_eq_true rfl), (Nat.le_of_ble_eq_true rfl)⟩) hP hD hS hA [] [] rfl rfl rfl rfl (by decide) (fun _ => rfl) 0 0 rfl rfl (fun r_86 u_86 H locs hw hP hD hS => ?_)
    have hP : va_P (dC, dI) vwCl [] H := hP
    have hD : va_D A [] := hD
    exact k_rl B hP hD hS dX7_two_89 () [] rfl rfl (Nat.le_of_ble_eq_true rfl) (Nat.le_of_ble_eq_true rfl) trivial
  · have f_90_1 : iR x0 14 14 := iR_c c_1 (by decide +kernel)
    refine lv_tableIn (off := 89) (tgt := 90) hx hb dX7_two_1 (by rw [c_1]; decide) (by rw [c_1]; decide) (by rw [c_1]; decide +kernel) (by decide +kernel) ?_
    refine lv_lload_n hx hb dX7_two_90 rfl (lv_at hl 2 rfl) ?_
    refine lv_lconst (v := 0) hx hb dX7_two_91 (by decide +kernel) ?_
    refine W.lcmp hx hb dX7_two_92 ?_
    refine lv_topi (fun y_92 ey_92 => ?_)
    have J_112 : ∀ (j112_S0 : Int64)  (H : Heap) (locs : List Loc) (ls : Array Slot), va_P (dC, dI) vwCl [] H → va_D A [] → va_S A s.heap H locs → lv_has ls 5 [] → W p l e ({ frames := 2, cells := 0, slots := 0, locals := 65 }) s m args below meth c H locs 0 0 (MQ below (va_Ql (fun (r9 : Int64) (u9 : Unit) => True) (fun u => k_B (dC, dI) vwCl (tyy cI cJ cZ cM) A ((fun (u9 : Unit) => []) u)) A) args s 0 0 A) (F0 m 112 ls [.long j112_S0]) := by
      intro j112_S0  H locs ls hP hD hS hl
      exact k_rl B hP hD hS dX7_two_112 () [] rfl rfl (Nat.le_of_ble_eq_true rfl) (Nat.le_of_ble_eq_true rfl) trivial
    refine lv_if_ne (tgt := 100) hx hb dX7_two_93 (by decide) (fun c_93 => ?_) (fun c_93 => ?_)
    · have c_93 : ¬ y_92 = 0 := c_93
      have lc_93 : ¬ x2 = 0 := l_cmpne ey_92 c_93
      refine lv_lload_n hx hb dX7_two_100 rfl (lv_at hl 1 rfl) ?_
      refine lv_lload_n hx hb dX7_two_101 rfl (lv_at hl 2 rfl) ?_
      refine lv_lload_n hx hb dX7_two_102 rfl (lv_at hl 1 rfl) ?_
      refine lv_lload_n hx hb dX7_two_103 rfl (lv_at hl 2 rfl) ?_
      refine k_cl (wc := []) (wr := []) (fun hPc hDc hFc => va_runS (As := [.long x1, .long x2]) (rest := [.long x2, .long x1]) ⟨hx, hb, hml, hown, hts⟩ (s_X7_floor_v0 l dC dI cI cJ cZ cM x1 x2 H.size) (va_cwS 2 hts gX7_two_X7_floor rfl rfl rfl (by decide +kernel) ⟨(Nat.le_of_ble_eq_true rfl), (Nat.le_of_ble_eq_true rfl)⟩) (k_pS hPc hDc hK hN hC hS hFc) rfl rfl hl.1 rfl (lv_room (Nat.le_of_ble_eq_true rfl)) dX7_two_104 ⟨(Nat.le_of_ble_eq_true rfl), (Nat.le_of_ble_eq_true rfl)⟩) hP hD hS hA [] [] rfl rfl rfl rfl (by decide) (fun _ => rfl) 0 0 rfl rfl (fun r_104 u_104 H locs hw hP hD hS => ?_)
      have hP : va_P (dC, dI) vwCl [] H := hP
      have hD : va_D A [] := hD
      refine lv_lmul hx hb dX7_two_107 ?_
      refine lv_topl (fun y_107 ey_107 => ?_)
      refine lv_lsub hx hb dX7_two_108 ?_
      refine lv_topl (fun y_108 ey_108 => ?_)
      refine k_cl (wc := []) (wr := []) (fun hPc hDc hFc => va_runS (As := [.long y_108]) (rest := []) ⟨hx, hb, hml, hown, hts⟩ (s_X7_held_v0 l dC dI cI cJ cZ cM y_108 H.size) (va_cwS 1 hts gX7_two_X7_held rfl rfl rfl (by decide +kernel) ⟨(Nat.le_of_ble_eq_true rfl), (Nat.le_of_ble_eq_true rfl)⟩) (k_pS hPc hDc hK hN hC hS hFc) rfl rfl hl.1 rfl (lv_room (Nat.le_of_ble_eq_true rfl)) dX7_two_109 ⟨(Nat.le_of_ble_eq_true rfl), (Nat.le_of_ble_eq_true rfl)⟩) hP hD hS hA [] [] rfl rfl rfl rfl (by decide) (fun _ => rfl) 0 0 rfl rfl (fun r_109 u_109 H locs hw hP hD hS => ?_)
      have hP : va_P (dC, dI) vwCl [] H := hP
      have hD : va_D A [] := hD
      exact J_112 r_109  H locs ls hP hD hS (lv_sub hl [] rfl)
    · have c_93 : y_92 = 0 := c_93
      have f_96_2 : iR y_92 0 0 := iR_eqL c_93 (iR_top _) (iR_c (n := 0) (by decide +kernel) (by decide +kernel)) (by decide +kernel)
      have lc_93 : x2 = 0 := l_cmpe ey_92 c_93
      refine lv_lconst (v := 0) hx hb dX7_two_96 (by decide +kernel) ?_
      refine lv_goto (tgt := 112) hx hb dX7_two_97 (by decide) ?_
      exact J_112 0  H locs ls hP hD hS (lv_sub hl [] rfl)
  · have f_113_1 : iR x0 15 15 := iR_c c_1 (by decide +kernel)
    refine lv_tableIn (off := 112) (tgt := 113) hx hb dX7_two_1 (by rw [c_1]; decide) (by rw [c_1]; decide) (by rw [c_1]; decide +kernel) (by decide +kernel) ?_
    refine lv_lload_n hx hb dX7_two_113 rfl (lv_at hl 1 rfl) ?_
    refine lv_lload_n hx hb dX7_two_114 rfl (lv_at hl 2 rfl) ?_
    refine W.lcmp hx hb dX7_two_115 ?_
    refine lv_topi (fun y_115 ey_115 => ?_)
    have J_124 : ∀ (j124_S0 : Int64)  (H : Heap) (locs : List Loc) (ls : Array Slot), va_P (dC, dI) vwCl [] H → va_D A [] → va_S A s.heap H locs → lv_has ls 5 [] → W p l e ({ frames := 2, cells := 0, slots := 0, locals := 65 }) s m args below meth c H locs 0 0 (MQ below (va_Ql (fun (r9 : Int64) (u9 : Unit) => True) (fun u => k_B (dC, dI) vwCl (tyy cI cJ cZ cM) A ((fun (u9 : Unit) => []) u)) A) args s 0 0 A) (F0 m 124 ls [.long j124_S0]) := by
      intro j124_S0  H locs ls hP hD hS hl
      exact k_rl B hP hD hS dX7_two_124 () [] rfl rfl (Nat.le_of_ble_eq_true rfl) (Nat.le_of_ble_eq_true rfl) trivial
    refine lv_if_ge (tgt := 123) hx hb dX7_two_116 (by decide) (fun c_116 => ?_) (fun c_116 => ?_)
    · have c_116 : 0 ≤ y_115 := c_116
      have f_123_2 : iR y_115 0 2147483647 := iR_leR c_116 (iR_c (n := 0) (by decide +kernel) (by decide +kernel)) (iR_top _) (by decide +kernel)
      have lc_116 : x2 ≤ x1 := l_cmpge ey_115 c_116
      refine lv_lload_n hx hb dX7_two_123 rfl (lv_at hl 2 rfl) ?_
      exact J_124 x2  H locs ls hP hD hS (lv_sub hl [] rfl)
    · have c_116 : y_115 < 0 := i_nle c_116
      have f_119_2 : iR y_115 (-2147483648) (-1) := iR_ltL c_116 (iR_top _) (iR_c (n := 0) (by decide +kernel) (by decide +kernel)) (by decide +kernel)
      have lc_116 : x1 < x2 := l_cmplt ey_115 c_116
      refine lv_lload_n hx hb dX7_two_119 rfl (lv_at hl 1 rfl) ?_
      refine lv_goto (tgt := 124) hx hb dX7_two_120 (by decide) ?_
      exact J_124 x1  H locs ls hP hD hS (lv_sub hl [] rfl)
  · have f_125_1 : iR x0 16 16 := iR_c c_1 (by decide +kernel)
    refine lv_tableIn (off := 124) (tgt := 125) hx hb dX7_two_1 (by rw [c_1]; decide) (by rw [c_1]; decide) (by rw [c_1]; decide +kernel) (by decide +kernel) ?_
    refine lv_lload_n hx hb dX7_two_125 rfl (lv_at hl 1 rfl) ?_
    refine lv_lload_n hx hb dX7_two_126 rfl (lv_at hl 2 rfl) ?_
    refine W.lcmp hx hb dX7_two_127 ?_
    refine lv_topi (fun y_127 ey_127 => ?_)
    have J_136 : ∀ (j136_S0 : Int64)  (H : Heap) (locs : List Loc) (ls : Array Slot), va_P (dC, dI) vwCl [] H → va_D A [] → va_S A s.heap H locs → lv_has ls 5 [] → W p l e ({ frames := 2, cells := 0, slots := 0, locals := 65 }) s m args below meth c H locs 0 0 (MQ below (va_Ql (fun (r9 : Int64) (u9 : Unit) => True) (fun u => k_B (dC, dI) vwCl (tyy cI cJ cZ cM) A ((fun (u9 : Unit) => []) u)) A) args s 0 0 A) (F0 m 136 ls [.long j136_S0]) := by
      intro j136_S0  H locs ls hP hD hS hl
      exact k_rl B hP hD hS dX7_two_136 () [] rfl rfl (Nat.le_of_ble_eq_true rfl) (Nat.le_of_ble_eq_true rfl) trivial
    refine lv_if_le (tgt := 135) hx hb dX7_two_128 (by decide) (fun c_128 => ?_) (fun c_128 => ?_)
    · have c_128 : y_127 ≤ 0 := c_128
      have f_135_2 : iR y_127 (-2147483648) 0 := iR_leL c_128 (iR_top _) (iR_c (n := 0) (by decide +kernel) (by decide +kernel)) (by decide +kernel)
      have lc_128 : x1 ≤ x2 := l_cmple ey_127 c_128
      refine lv_lload_n hx hb dX7_two_135 rfl (lv_at hl 2 rfl) ?_
      exact J_136 x2  H locs ls hP hD hS (lv_sub hl [] rfl)
    · have c_128 : 0 < y_127 := i_nle c_128
      have f_131_2 : iR y_127 1 2147483647 := iR_ltR c_128 (iR_c (n := 0) (by decide +kernel) (by decide +kernel)) (iR_top _) (by decide +kernel)
      have lc_128 : x2 < x1 := l_cmpgt ey_127 c_128
      refine lv_lload_n hx hb dX7_two_131 rfl (lv_at hl 1 rfl) ?_
      refine lv_goto (tgt := 136) hx hb dX7_two_132 (by decide) ?_
      exact J_136 x1  H locs ls hP hD hS (lv_sub hl [] rfl)
  · have f_137_1 : iR x0 17 17 := iR_c c_1 (by decide +kernel)
    refine lv_tableIn (off := 136) (tgt := 137) hx hb dX7_two_1 (by rw [c_1]; decide) (by rw [c_1]; decide) (by rw [c_1]; decide +kernel) (by decide +kernel) ?_
    refine lv_lload_n hx hb dX7_two_137 rfl (lv_at hl 1 rfl) ?_
    refine lv_lload_n hx hb dX7_two_138 rfl (lv_at hl 2 rfl) ?_
    refine W.lcmp hx hb dX7_two_139 ?_
    refine lv_topi (fun y_139 ey_139 => ?_)
    have J_148 : ∀ (j148_S0 : Int64) (hj148_S0 : lR j148_S0 0 1) (H : Heap) (locs : List Loc) (ls : Array Slot), va_P (dC, dI) vwCl [] H → va_D A [] → va_S A s.heap H locs → lv_has ls 5 [] → W p l e ({ frames := 2, cells := 0, slots := 0, locals := 65 }) s m args below meth c H locs 0 0 (MQ below (va_Ql (fun (r9 : Int64) (u9 : Unit) => True) (fun u => k_B (dC, dI) vwCl (tyy cI cJ cZ cM) A ((fun (u9 : Unit) => []) u)) A) args s 0 0 A) (F0 m 148 ls [.long j148_S0]) := by
      intro j148_S0 hj148_S0 H locs ls hP hD hS hl
      exact k_rl B hP hD hS dX7_two_148 () [] rfl rfl (Nat.le_of_ble_eq_true rfl) (Nat.le_of_ble_eq_true rfl) trivial
    refine lv_if_ge (tgt := 147) hx hb dX7_two_140 (by decide) (fun c_140 => ?_) (fun c_140 => ?_)
    · have c_140 : 0 ≤ y_139 := c_140
      have f_147_2 : iR y_139 0 2147483647 := iR_leR c_140 (iR_c (n := 0) (by decide +kernel) (by decide +kernel)) (iR_top _) (by decide +kernel)
      have lc_140 : x2 ≤ x1 := l_cmpge ey_139 c_140
      refine lv_lconst (v := 0) hx hb dX7_two_147 (by decide +kernel) ?_
      exact J_148 0 (lR_c (n := 0) (by decide +kernel) (by decide +kernel)) H locs ls hP hD hS (lv_sub hl [] rfl)
    · have c_140 : y_139 < 0 := i_nle c_140
      have f_143_2 : iR y_139 (-2147483648) (-1) := iR_ltL c_140 (iR_top _) (iR_c (n := 0) (by decide +kernel) (by decide +kernel)) (by decide +kernel)
      have lc_140 : x1 < x2 := l_cmplt ey_139 c_140
      refine lv_lconst (v := 1) hx hb dX7_two_143 (by decide +kernel) ?_
      refine lv_goto (tgt := 148) hx hb dX7_two_144 (by decide) ?_
      exact J_148 1 (lR_c (n := 1) (by decide +kernel) (by decide +kernel)) H locs ls hP hD hS (lv_sub hl [] rfl)
  · have f_149_1 : iR x0 18 18 := iR_c c_1 (by decide +kernel)
    refine lv_tableIn (off := 148) (tgt := 149) hx hb dX7_two_1 (by rw [c_1]; decide) (by rw [c_1]; decide) (by rw [c_1]; decide +kernel) (by decide +kernel) ?_
    refine lv_lload_n hx hb dX7_two_149 rfl (lv_at hl 1 rfl) ?_
    refine lv_lload_n hx hb dX7_two_150 rfl (lv_at hl 2 rfl) ?_
    refine W.lcmp hx hb dX7_two_151 ?_
    refine lv_topi (fun y_151 ey_151 => ?_)
    have J_160 : ∀ (j160_S0 : Int64) (hj160_S0 : lR j160_S0 0 1) (H : Heap) (locs : List Loc) (ls : Array Slot), va_P (dC, dI) vwCl [] H → va_D A [] → va_S A s.heap H locs → lv_has ls 5 [] → W p l e ({ frames := 2, cells := 0, slots := 0, locals := 65 }) s m args below meth c H locs 0 0 (MQ below (va_Ql (fun (r9 : Int64) (u9 : Unit) => True) (fun u => k_B (dC, dI) vwCl (tyy cI cJ cZ cM) A ((fun (u9 : Unit) => []) u)) A) args s 0 0 A) (F0 m 160 ls [.long j160_S0]) := by
      intro j160_S0 hj160_S0 H locs ls hP hD hS hl
      exact k_rl B hP hD hS dX7_two_160 () [] rfl rfl (Nat.le_of_ble_eq_true rfl) (Nat.le_of_ble_eq_true rfl) trivial
    refine lv_if_le (tgt := 159) hx hb dX7_two_152 (by decide) (fun c_152 => ?_) (fun c_152 => ?_)
    · have c_152 : y_151 ≤ 0 := c_152
      have f_159_2 : iR y_151 (-2147483648) 0 := iR_leL c_152 (iR_top _) (iR_c (n := 0) (by decide +kernel) (by decide +kernel)) (by decide +kernel)
      have lc_152 : x1 ≤ x2 := l_cmple ey_151 c_152
      refine lv_lconst (v := 0) hx hb dX7_two_159 (by decide +kernel) ?_
      exact J_160 0 (lR_c (n := 0) (by decide +kernel) (by decide +kernel)) H locs ls hP hD hS (lv_sub hl [] rfl)
    · have c_152 : 0 < y_151 := i_nle c_152
      have f_155_2 : iR y_151 1 2147483647 := iR_ltR c_152 (iR_c (n := 0) (by decide +kernel) (by decide +kernel)) (iR_top _) (by decide +kernel)
      have lc_152 : x2 < x1 := l_cmpgt ey_151 c_152
      refine lv_lconst (v := 1) hx hb dX7_two_155 (by decide +kernel) ?_
      refine lv_goto (tgt := 160) hx hb dX7_two_156 (by decide) ?_
      exact J_160 1 (lR_c (n := 1) (by decide +kernel) (by decide +kernel)) H locs ls hP hD hS (lv_sub hl [] rfl)
  · have f_161_1 : iR x0 19 19 := iR_c c_1 (by decide +kernel)
    refine lv_tableIn (off := 160) (tgt := 161) hx hb dX7_two_1 (by rw [c_1]; decide) (by rw [c_1]; decide) (by rw [c_1]; decide +kernel) (by decide +kernel) ?_
    refine lv_lload_n hx hb dX7_two_161 rfl (lv_at hl 1 rfl) ?_
    refine lv_lload_n hx hb dX7_two_162 rfl (lv_at hl 2 rfl) ?_
    refine W.lcmp hx hb dX7_two_163 ?_
    refine lv_topi (fun y_163 ey_163 => ?_)
    have J_172 : ∀ (j172_S0 : Int64) (hj172_S0 : lR j172_S0 0 1) (H : Heap) (locs : List Loc) (ls : Array Slot), va_P (dC, dI) vwCl [] H → va_D A [] → va_S A s.heap H locs → lv_has ls 5 [] → W p l e ({ frames := 2, cells := 0, slots := 0, locals := 65 }) s m args below meth c H locs 0 0 (MQ below (va_Ql (fun (r9 : Int64) (u9 : Unit) => True) (fun u => k_B (dC, dI) vwCl (tyy cI cJ cZ cM) A ((fun (u9 : Unit) => []) u)) A) args s 0 0 A) (F0 m 172 ls [.long j172_S0]) := by
      intro j172_S0 hj172_S0 H locs ls hP hD hS hl
      exact k_rl B hP hD hS dX7_two_172 () [] rfl rfl (Nat.le_of_ble_eq_true rfl) (Nat.le_of_ble_eq_true rfl) trivial
    refine lv_if_ne (tgt := 171) hx hb dX7_two_164 (by decide) (fun c_164 => ?_) (fun c_164 => ?_)
    · have c_164 : ¬ y_163 = 0 := c_164
      have lc_164 : ¬ x1 = x2 := l_cmpne ey_163 c_164
      refine lv_lconst (v := 0) hx hb dX7_two_171 (by decide +kernel) ?_
      exact J_172 0 (lR_c (n := 0) (by decide +kernel) (by decide +kernel)) H locs ls hP hD hS (lv_sub hl [] rfl)
    · have c_164 : y_163 = 0 := c_164
      have f_167_2 : iR y_163 0 0 := iR_eqL c_164 (iR_top _) (iR_c (n := 0) (by decide +kernel) (by decide +kernel)) (by decide +kernel)
      have lc_164 : x1 = x2 := l_cmpe ey_163 c_164
      refine lv_lconst (v := 1) hx hb dX7_two_167 (by decide +kernel) ?_
      refine lv_goto (tgt := 172) hx hb dX7_two_168 (by decide) ?_
      exact J_172 1 (lR_c (n := 1) (by decide +kernel) (by decide +kernel)) H locs ls hP hD hS (lv_sub hl [] rfl)
  · have f_173_1 : iR x0 20 20 := iR_c c_1 (by decide +kernel)
    refine lv_tableIn (off := 172) (tgt := 173) hx hb dX7_two_1 (by rw [c_1]; decide) (by rw [c_1]; decide) (by rw [c_1]; decide +kernel) (by decide +kernel) ?_
    refine lv_lload_n hx hb dX7_two_173 rfl (lv_at hl 1 rfl) ?_
    refine lv_lload_n hx hb dX7_two_174 rfl (lv_at hl 2 rfl) ?_
    refine lv_land hx hb dX7_two_175 ?_
    refine lv_topl (fun y_175 ey_175 => ?_)
    exact k_rl B hP hD hS dX7_two_176 () [] rfl rfl (Nat.le_of_ble_eq_true rfl) (Nat.le_of_ble_eq_true rfl) trivial
  · refine lv_tableOut (tgt := 177) hx hb dX7_two_1 (by omega) (by decide +kernel) ?_
    refine lv_lload_n hx hb dX7_two_177 rfl (lv_at hl 1 rfl) ?_
    refine lv_lload_n hx hb dX7_two_178 rfl (lv_at hl 2 rfl) ?_
    refine lv_lor hx hb dX7_two_179 ?_
    refine lv_topl (fun y_179 ey_179 => ?_)
    exact k_rl B hP hD hS dX7_two_180 () [] rfl rfl (Nat.le_of_ble_eq_true rfl) (Nat.le_of_ble_eq_true rfl) trivial
