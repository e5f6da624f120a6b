set_option maxHeartbeats 8000000 in
set_option maxRecDepth 100000 in
theorem s_X7_manyOf_v6 (l : Launch) (dC : Nat → ClassId) (dI : Nat → Nat → Nat) (cI cJ cZ cM : ClassId) (h : Nat) (r : Nat → Nat) (i : Nat → Int32) (j : Nat → Int64) (x1 : Int32) (f14 : Nat → Int32) (hx1 : iR x1 0 1) (hI : mR i) (hf14 : aR f14 0 10) : k_Mi l yX7_manyOf wsX7_manyOf ({ frames := 1, cells := 0, slots := 0, locals := 40 }) (dC, dI) vwCl (tyy cI cJ cZ cM) [(h, .inr (7, oM r i j)), ((r 14), .inl (cI, 2, .inl f14))] [.ref h, .int x1, .int 0] 0 0 (fun (u9 : Unit) => [(h, .inr (7, oM r i j)), ((r 14), .inl (cI, 2, .inl f14))]) (fun (r9 : Int32) (u9 : Unit) => (r9 = (f14 x1.toNatClampNeg))) := by
  refine fun sz => k_enter (cc := cX7_manyOf) (maxL := 3) (ret := some (.int)) (Qc := fun A => va_Qi (fun (r9 : Int32) (u9 : Unit) => (r9 = (f14 x1.toNatClampNeg))) (fun u => k_B (dC, dI) vwCl (tyy cI cJ cZ cM) A ((fun (u9 : Unit) => [(h, .inr (7, oM r i j)), ((r 14), .inl (cI, 2, .inl f14))]) u)) A) sz (by decide +kernel) rfl (Nat.le_of_ble_eq_true rfl) (fun p e s m args below meth c A ls H locs B hP hD hS hl => ?_)
  obtain ⟨hx, hb, hml, hown, hts, hr, hlk, hnm, hK, hA, hN, hC⟩ := id B
  have hown : s.vm.findClass RX7 = some m.cls := hown
  have hl : lv_has ls 3 [(0, .ref h), (1, .int x1), (2, .int 0)] := hl
  have w_0 : (Cond.fieldLink RX7 54 "WishSeaModel" "things" "[I").before args s = true := hts _ (List.mem_of_getElem? (i := 1) rfl)
  have hinX7 : ∀ w ∈ u_ws RX7 TX7 92, w ∈ wsX7_manyOf := fun _ h => List.mem_cons_of_mem _ (List.mem_append_right _ h)
  refine lv_iload_n hx hb dX7_manyOf_0 rfl (lv_at hl 2 rfl) ?_
  refine lv_if_ne (tgt := 13) hx hb dX7_manyOf_1 (by decide) (fun q9 => absurd q9 (by decide +kernel)) (fun _ => ?_)
  refine lv_aload_n hx hb dX7_manyOf_4 rfl (lv_at hl 0 rfl) ?_
  refine k_get (D := (dC, dI)) (ci := 7) (v := .ref (r 14)) (C := RX7) (T := TX7) (N := 92) hx hb hts hinX7 hown hK hP 0 rfl rfl 14 (by decide) w_0 rfl rfl dX7_manyOf_5 ?_
  refine lv_iload_n hx hb dX7_manyOf_8 rfl (lv_at hl 1 rfl) ?_
  refine va_iald hx hb hK hP 1 0 rfl rfl (iR_vp hx1 (by decide +kernel)) dX7_manyOf_9 ?_
  have f_9_1 : iR (f14 x1.toNatClampNeg) 0 10 := hf14 _
  refine lv_goto (tgt := 19) hx hb dX7_manyOf_10 (by decide) ?_
  exact k_ri B hP hD hS dX7_manyOf_19 () [0, 1] rfl rfl rfl (Nat.le_of_ble_eq_true rfl) (Nat.le_of_ble_eq_true rfl) rfl
set_option maxHeartbeats 8000000 in
set_option maxRecDepth 100000 in
theorem s_X7_nameOf_v6 (l : Launch) (dC : Nat → ClassId) (dI : Nat → Nat → Nat) (cI cJ cZ cM : ClassId) (h : Nat) (r : Nat → Nat) (i : Nat → Int32) (j : Nat → Int64) (x1 : Int32) (x3 : Int32) (g34 : Nat → Int64) (hx1 : iR x1 0 1) (hx3 : iR x3 0 9) (hI : mR i) : k_Ml l yX7_nameOf wsX7_nameOf ({ frames := 1, cells := 0, slots := 0, locals := 40 }) (dC, dI) vwCl (tyy cI cJ cZ cM) [(h, .inr (7, oM r i j)), ((r 34), .inl (cJ, 20, .inr (.inl g34)))] [.ref h, .int x1, .int 0, .int x3] 0 0 (fun (u9 : Unit) => [(h, .inr (7, oM r i j)), ((r 34), .inl (cJ, 20, .inr (.inl g34)))]) (fun (r9 : Int64) (u9 : Unit) => True) := by
  refine fun sz => k_enter (cc := cX7_nameOf) (maxL := 4) (ret := some (.long)) (Qc := fun A => va_Ql (fun (r9 : Int64) (u9 : Unit) => True) (fun u => k_B (dC, dI) vwCl (tyy cI cJ cZ cM) A ((fun (u9 : Unit) => [(h, .inr (7, oM r i j)), ((r 34), .inl (cJ, 20, .inr (.inl g34)))]) u)) A) sz (by decide +kernel) rfl (Nat.le_of_ble_eq_true rfl) (fun p e s m args below meth c A ls H locs B hP hD hS hl => ?_)
  obtain ⟨hx, hb, hml, hown, hts, hr, hlk, hnm, hK, hA, hN, hC⟩ := id B
  have hown : s.vm.findClass RX7 = some m.cls := hown
  have hl : lv_has ls 4 [(0, .ref h), (1, .int x1), (2, .int 0), (3, .int x3)] := hl
  have w_0 : (Cond.fieldLink RX7 114 "WishSeaModel" "thingName" "[J").before args s = true := hts _ (List.mem_of_getElem? (i := 1) rfl)
  have hinX7 : ∀ w ∈ u_ws RX7 TX7 92, w ∈ wsX7_nameOf := fun _ h => List.mem_cons_of_mem _ (List.mem_append_right _ h)
  refine lv_iload_n hx hb dX7_nameOf_0 rfl (lv_at hl 2 rfl) ?_
  have J_29 : ∀ (j29_S0 : Int64)  (H : Heap) (locs : List Loc) (ls : Array Slot), va_P (dC, dI) vwCl [(h, .inr (7, oM r i j)), ((r 34), .inl (cJ, 20, .inr (.inl g34)))] H → va_D A [(h, .inr (7, oM r i j)), ((r 34), .inl (cJ, 20, .inr (.inl g34)))] → va_S A s.heap H locs → lv_has ls 4 [] → W p l e ({ frames := 1, cells := 0, slots := 0, locals := 40 }) s m args below meth c H locs 0 0 (MQ below (va_Ql (fun (r9 : Int64) (u9 : Unit) => True) (fun u => k_B (dC, dI) vwCl (tyy cI cJ cZ cM) A ((fun (u9 : Unit) => [(h, .inr (7, oM r i j)), ((r 34), .inl (cJ, 20, .inr (.inl g34)))]) u)) A) args s 0 0 A) (F0 m 29 ls [.long j29_S0]) := by
    intro j29_S0  H locs ls hP hD hS hl
    exact k_rl B hP hD hS dX7_nameOf_29 () [0, 1] rfl rfl (Nat.le_of_ble_eq_true rfl) (Nat.le_of_ble_eq_true rfl) trivial
  refine lv_if_ne (tgt := 18) hx hb dX7_nameOf_1 (by decide) (fun q9 => absurd q9 (by decide +kernel)) (fun _ => ?_)
  refine lv_aload_n hx hb dX7_nameOf_4 rfl (lv_at hl 0 rfl) ?_
  refine k_get (D := (dC, dI)) (ci := 7) (v := .ref (r 34)) (C := RX7) (T := TX7) (N := 92) hx hb hts hinX7 hown hK hP 0 rfl rfl 34 (by decide) w_0 rfl rfl dX7_nameOf_5 ?_
  refine lv_bipush (v := 10) hx hb dX7_nameOf_8 (by decide +kernel) ?_
  refine lv_iload_n hx hb dX7_nameOf_10 rfl (lv_at hl 1 rfl) ?_
  refine lv_imul hx hb dX7_nameOf_11 ?_
  refine lv_topi (fun y_11 ey_11 => ?_)
  have f_11_1 : iR y_11 0 10 := iR_mul ey_11 (iR_c (n := 10) (by decide +kernel) (by decide +kernel)) hx1 (by decide +kernel)
  refine lv_iload_n hx hb dX7_nameOf_12 rfl (lv_at hl 3 rfl) ?_
  refine lv_iadd hx hb dX7_nameOf_13 ?_
  refine lv_topi (fun y_13 ey_13 => ?_)
  have f_13_2 : iR y_13 0 19 := iR_add ey_13 f_11_1 hx3 (by decide +kernel)
  refine va_lald hx hb hK hP 1 1 rfl rfl (iR_vp f_13_2 (by decide +kernel)) dX7_nameOf_14 ?_
  refine lv_goto (tgt := 29) hx hb dX7_nameOf_15 (by decide) ?_
  exact J_29 (g34 y_13.toNatClampNeg)  H locs ls hP hD hS (lv_sub hl [] rfl)
set_option maxHeartbeats 8000000 in
set_option maxRecDepth 100000 in
theorem s_X7_named_v4 (l : Launch) (dC : Nat → ClassId) (dI : Nat → Nat → Nat) (cI cJ cZ cM : ClassId) (h : Nat) (r : Nat → Nat) (i : Nat → Int32) (j : Nat → Int64) (x2 : Int64) (f14 : Nat → Int32) (g34 : Nat → Int64) (hI : mR i) (hf14 : aR f14 0 10) : k_Mi l yX7_named wsX7_named ({ frames := 2, cells := 0, slots := 0, locals := 63 }) (dC, dI) vwCl (tyy cI cJ cZ cM) [(h, .inr (7, oM r i j)), ((r 14), .inl (cI, 2, .inl f14)), ((r 34), .inl (cJ, 20, .inr (.inl g34)))] [.ref h, .int 0, .long x2] 0 0 (fun (u9 : Unit) => [(h, .inr (7, oM r i j)), ((r 14), .inl (cI, 2, .inl f14)), ((r 34), .inl (cJ, 20, .inr (.inl g34)))]) (fun (r9 : Int32) (u9 : Unit) => (iR r9 (-1) 9)) := by
  refine fun sz => k_enter (cc := cX7_named) (maxL := 5) (ret := some (.int)) (Qc := fun A => va_Qi (fun (r9 : Int32) (u9 : Unit) => (iR r9 (-1) 9)) (fun u => k_B (dC, dI) vwCl (tyy cI cJ cZ cM) A ((fun (u9 : Unit) => [(h, .inr (7, oM r i j)), ((r 14), .inl (cI, 2, .inl f14)), ((r 34), .inl (cJ, 20, .inr (.inl g34)))]) u)) A) sz (by decide +kernel) rfl (Nat.le_of_ble_eq_true rfl) (fun p e s m args below meth c A ls H locs B hP hD hS hl => ?_)
  obtain ⟨hx, hb, hml, hown, hts, hr, hlk, hnm, hK, hA, hN, hC⟩ := id B
  have hown : s.vm.findClass RX7 = some m.cls := hown
  have hl : lv_has ls 5 [(0, .ref h), (1, .int 0), (2, .long x2)] := hl
  have w_0 : (Cond.fieldLink RX7 124 "WishSeaModel" "in" "I").before args s = true := hts _ (List.mem_of_getElem? (i := 1) rfl)
  have hinX7 : ∀ w ∈ u_ws RX7 TX7 92, w ∈ wsX7_named := fun _ h => List.mem_cons_of_mem _ (List.mem_append_right _ h)
  refine lv_iconst (v := 0) hx hb dX7_named_0 (by decide +kernel) ?_
  have J_3 : ∀ (n_3 : Nat) (j3_L4 : Int32) (hj3_L4 : iR j3_L4 0 10) (hm_3 : (10 - j3_L4.toInt).toNat < n_3) (H : Heap) (locs : List Loc) (ls : Array Slot), va_P (dC, dI) vwCl [(h, .inr (7, oM r i j)), ((r 14), .inl (cI, 2, .inl f14)), ((r 34), .inl (cJ, 20, .inr (.inl g34)))] H → va_D A [(h, .inr (7, oM r i j)), ((r 14), .inl (cI, 2, .inl f14)), ((r 34), .inl (cJ, 20, .inr (.inl g34)))] → va_S A s.heap H locs → lv_has ls 5 [(0, .ref h), (1, .int 0), (2, .long x2), (4, .int j3_L4)] → W p l e ({ frames := 2, cells := 0, slots := 0, locals := 63 }) s m args below meth c H locs 0 0 (MQ below (va_Qi (fun (r9 : Int32) (u9 : Unit) => (iR r9 (-1) 9)) (fun u => k_B (dC, dI) vwCl (tyy cI cJ cZ cM) A ((fun (u9 : Unit) => [(h, .inr (7, oM r i j)), ((r 14), .inl (cI, 2, .inl f14)), ((r 34), .inl (cJ, 20, .inr (.inl g34)))]) u)) A) args s 0 0 A) (F0 m 3 ls []) := by
    intro n_3
    induction n_3 with
    | zero => intro j3_L4 hj3_L4 hm_3; exact absurd hm_3 (Nat.not_lt_zero _)
    | succ n_3 ih_3 =>
      intro j3_L4 hj3_L4 hm_3 H locs ls hP hD hS hl
      refine lv_iload hx hb dX7_named_3 (lv_at hl 3 rfl) ?_
      refine lv_aload_n hx hb dX7_named_5 rfl (lv_at hl 0 rfl) ?_
      refine lv_aload_n hx hb dX7_named_6 rfl (lv_at hl 0 rfl) ?_
      have f_7_1 : iR (i 37) 0 1 := hI 37
      refine k_get (D := (dC, dI)) (ci := 7) (v := .int (i 37)) (C := RX7) (T := TX7) (N := 92) hx hb hts hinX7 hown hK hP 0 rfl rfl 37 (by decide) w_0 rfl rfl dX7_named_7 ?_
      refine lv_iload_n hx hb dX7_named_10 rfl (lv_at hl 1 rfl) ?_
      refine k_ci (wc := [(h, .inr (7, oM r i j)), ((r 14), .inl (cI, 2, .inl f14))]) (wr := [((r 34), .inl (cJ, 20, .inr (.inl g34)))]) (fun hPc hDc hFc => va_runV (As := [.int (i 37), .int 0]) (rest := [.int j3_L4]) ⟨hx, hb, hml, hown, hts⟩ (s_X7_manyOf_v2 l dC dI cI cJ cZ cM h r i j (i 37) f14 f_7_1 hI hf14 H.size) (cwV 2 hts gX7_named_X7_manyOf rfl rfl rfl (by decide +kernel) ⟨(Nat.le_of_ble_eq_true rfl), (Nat.le_of_ble_eq_true rfl)⟩) (k_pV hPc hDc hK hN hC hS hFc hP (q0 := 0) (ci := 7) rfl rfl) rfl rfl hl.1 rfl (lv_room (Nat.le_of_ble_eq_true rfl)) dX7_named_11 ⟨(Nat.le_of_ble_eq_true rfl), (Nat.le_of_ble_eq_true rfl)⟩) hP hD hS hA [0, 1] [2] rfl rfl rfl rfl (by decide) (fun _ => rfl) 0 0 rfl rfl (fun r_11 u_11 H locs hw hP hD hS => ?_)
      obtain g_11_0 := hw
      obtain rfl : r_11 = (f14 (i 37).toNatClampNeg) := g_11_0
      have hP : va_P (dC, dI) vwCl [((r 34), .inl (cJ, 20, .inr (.inl g34))), (h, .inr (7, oM r i j)), ((r 14), .inl (cI, 2, .inl f14))] H := hP
      have hD : va_D A [((r 34), .inl (cJ, 20, .inr (.inl g34))), (h, .inr (7, oM r i j)), ((r 14), .inl (cI, 2, .inl f14))] := hD
      refine lv_icmp_ge (tgt := 42) hx hb dX7_named_14 (by decide) (fun c_14 => ?_) (fun c_14 => ?_)
      · have c_14 : (f14 (i 37).toNatClampNeg) ≤ j3_L4 := c_14
        refine lv_iconst (v := (-1)) hx hb dX7_named_42 (by decide +kernel) ?_
        exact k_ri B hP hD hS dX7_named_43 () [1, 2, 0] rfl rfl rfl (Nat.le_of_ble_eq_true rfl) (Nat.le_of_ble_eq_true rfl) (iR_c (n := (-1)) (by decide +kernel) (by decide +kernel))
      · have c_14 : j3_L4 < (f14 (i 37).toNatClampNeg) := i_nle c_14
        have f_17_2 : iR j3_L4 0 9 := iR_ltL c_14 hj3_L4 (show iR (f14 (i 37).toNatClampNeg) 0 10 from hf14 _) (by decide +kernel)
        have f_17_3 : iR (f14 (i 37).toNatClampNeg) 1 10 := iR_ltR c_14 hj3_L4 (show iR (f14 (i 37).toNatClampNeg) 0 10 from hf14 _) (by decide +kernel)
        refine lv_aload_n hx hb dX7_named_17 rfl (lv_at hl 0 rfl) ?_
        refine lv_aload_n hx hb dX7_named_18 rfl (lv_at hl 0 rfl) ?_
        refine k_get (D := (dC, dI)) (ci := 7) (v := .int (i 37)) (C := RX7) (T := TX7) (N := 92) hx hb hts hinX7 hown hK hP 1 rfl rfl 37 (by decide) w_0 rfl rfl dX7_named_19 ?_
        refine lv_iload_n hx hb dX7_named_22 rfl (lv_at hl 1 rfl) ?_
        refine lv_iload hx hb dX7_named_23 (lv_at hl 3 rfl) ?_
        refine k_cl (wc := [(h, .inr (7, oM r i j)), ((r 34), .inl (cJ, 20, .inr (.inl g34)))]) (wr := [((r 14), .inl (cI, 2, .inl f14))]) (fun hPc hDc hFc => va_runV (As := [.int (i 37), .int 0, .int j3_L4]) (rest := []) ⟨hx, hb, hml, hown, hts⟩ (s_X7_nameOf_v2 l dC dI cI cJ cZ cM h r i j (i 37) j3_L4 g34 f_7_1 f_17_2 hI H.size) (cwV 3 hts gX7_named_X7_nameOf rfl rfl rfl (by decide +kernel) ⟨(Nat.le_of_ble_eq_true rfl), (Nat.le_of_ble_eq_true rfl)⟩) (k_pV hPc hDc hK hN hC hS hFc hP (q0 := 1) (ci := 7) rfl rfl) rfl rfl hl.1 rfl (lv_room (Nat.le_of_ble_eq_true rfl)) dX7_named_25 ⟨(Nat.le_of_ble_eq_true rfl), (Nat.le_of_ble_eq_true rfl)⟩) hP hD hS hA [1, 0] [2] rfl rfl rfl rfl (by decide) (fun _ => rfl) 0 0 rfl rfl (fun r_25 u_25 H locs hw hP hD hS => ?_)
        have hP : va_P (dC, dI) vwCl [((r 14), .inl (cI, 2, .inl f14)), (h, .inr (7, oM r i j)), ((r 34), .inl (cJ, 20, .inr (.inl g34)))] H := hP
        have hD : va_D A [((r 14), .inl (cI, 2, .inl f14)), (h, .inr (7, oM r i j)), ((r 34), .inl (cJ, 20, .inr (.inl g34)))] := hD
        refine lv_lload_n hx hb dX7_named_28 rfl (lv_at hl 2 rfl) ?_
        refine W.lcmp hx hb dX7_named_29 ?_
        refine lv_topi (fun y_29 ey_29 => ?_)
        refine lv_if_ne (tgt := 36) hx hb dX7_named_30 (by decide) (fun c_30 => ?_) (fun c_30 => ?_)
        · have c_30 : ¬ y_29 = 0 := c_30
          have lc_30 : ¬ r_25 = x2 := l_cmpne ey_29 c_30
          obtain ⟨y_36, ey_36⟩ : ∃ y : Int32, y = j3_L4 + 1 := ⟨_, rfl⟩
          refine lv_iinc (v := y_36) (lv' := [(4, .int y_36), (0, .ref h), (1, .int 0), (2, .long x2)]) hx hb dX7_named_36 hl (k := 3) rfl ey_36.symm (by decide) rfl (fun ls hl => ?_)
          have f_36_4 : iR y_36 1 10 := iR_add ey_36 f_17_2 (iR_c (n := 1) (by decide +kernel) (by decide +kernel)) (by decide +kernel)
          refine lv_goto (tgt := 3) hx hb dX7_named_39 (by decide) ?_
          exact ih_3 y_36 (iR_w f_36_4 (by decide +kernel)) (m_up (B := 10) hm_3 ey_36 f_17_2 (by decide +kernel)) H locs ls (hP.sub [1, 0, 2] rfl) (hD.sub [1, 0, 2] (by decide +kernel) rfl) hS (lv_sub hl [1, 2, 3, 0] rfl)
        · have c_30 : y_29 = 0 := c_30
          have f_33_4 : iR y_29 0 0 := iR_eqL c_30 (iR_top _) (iR_c (n := 0) (by decide +kernel) (by decide +kernel)) (by decide +kernel)
          have lc_30 : r_25 = x2 := l_cmpe ey_29 c_30
          refine lv_iload hx hb dX7_named_33 (lv_at hl 3 rfl) ?_
          exact k_ri B hP hD hS dX7_named_35 () [1, 0, 2] rfl rfl rfl (Nat.le_of_ble_eq_true rfl) (Nat.le_of_ble_eq_true rfl) (iR_w f_17_2 (by decide +kernel))
  refine lv_istore (lv' := [(4, .int 0), (0, .ref h), (1, .int 0), (2, .long x2)]) hx hb dX7_named_1 hl (by decide) rfl (fun ls hl => ?_)
  exact J_3 _ 0 (iR_c (n := 0) (by decide +kernel) (by decide +kernel)) (Nat.lt_succ_self _) H locs ls hP hD hS (lv_sub hl [1, 2, 3, 0] rfl)
set_option maxHeartbeats 8000000 in
set_option maxRecDepth 100000 in
theorem s_X7_manyOf_v7 (l : Launch) (dC : Nat → ClassId) (dI : Nat → Nat → Nat) (cI cJ cZ cM : ClassId) (h : Nat) (r : Nat → Nat) (i : Nat → Int32) (j : Nat → Int64) (x1 : Int32) (f18 : Nat → Int32) (hx1 : iR x1 0 1) (hI : mR i) (hf18 : aR f18 0 12) : k_Mi l yX7_manyOf wsX7_manyOf ({ frames := 1, cells := 0, slots := 0, locals := 40 }) (dC, dI) vwCl (tyy cI cJ cZ cM) [(h, .inr (7, oM r i j)), ((r 18), .inl (cI, 2, .inl f18))] [.ref h, .int x1, .int 1] 0 0 (fun (u9 : Unit) => [(h, .inr (7, oM r i j)), ((r 18), .inl (cI, 2, .inl f18))]) (fun (r9 : Int32) (u9 : Unit) => (r9 = (f18 x1.toNatClampNeg))) := by
  refine fun sz => k_enter (cc := cX7_manyOf) (maxL := 3) (ret := some (.int)) (Qc := fun A => va_Qi (fun (r9 : Int32) (u9 : Unit) => (r9 = (f18 x1.toNatClampNeg))) (fun u => k_B (dC, dI) vwCl (tyy cI cJ cZ cM) A ((fun (u9 : Unit) => [(h, .inr (7, oM r i j)), ((r 18), .inl (cI, 2, .inl f18))]) u)) A) sz (by decide +kernel) rfl (Nat.le_of_ble_eq_true rfl) (fun p e s m args below meth c A ls H locs B hP hD hS hl => ?_)
  obtain ⟨hx, hb, hml, hown, hts, hr, hlk, hnm, hK, hA, hN, hC⟩ := id B
  have hown : s.vm.findClass RX7 = some m.cls := hown
  have hl : lv_has ls 3 [(0, .ref h), (1, .int x1), (2, .int 1)] := hl
  have w_0 : (Cond.fieldLink RX7 66 "WishSeaModel" "wishes" "[I").before args s = true := hts _ (List.mem_of_getElem? (i := 2) rfl)
  have hinX7 : ∀ w ∈ u_ws RX7 TX7 92, w ∈ wsX7_manyOf := fun _ h => List.mem_cons_of_mem _ (List.mem_append_right _ h)
  refine lv_iload_n hx hb dX7_manyOf_0 rfl (lv_at hl 2 rfl) ?_
  refine lv_if_ne (tgt := 13) hx hb dX7_manyOf_1 (by decide) (fun _ => ?_) (fun q9 => absurd q9 (by decide +kernel))
  refine lv_aload_n hx hb dX7_manyOf_13 rfl (lv_at hl 0 rfl) ?_
  refine k_get (D := (dC, dI)) (ci := 7) (v := .ref (r 18)) (C := RX7) (T := TX7) (N := 92) hx hb hts hinX7 hown hK hP 0 rfl rfl 18 (by decide) w_0 rfl rfl dX7_manyOf_14 ?_
  refine lv_iload_n hx hb dX7_manyOf_17 rfl (lv_at hl 1 rfl) ?_
  refine va_iald hx hb hK hP 1 0 rfl rfl (iR_vp hx1 (by decide +kernel)) dX7_manyOf_18 ?_
  have f_18_1 : iR (f18 x1.toNatClampNeg) 0 12 := hf18 _
  exact k_ri B hP hD hS dX7_manyOf_19 () [0, 1] rfl rfl rfl (Nat.le_of_ble_eq_true rfl) (Nat.le_of_ble_eq_true rfl) rfl
set_option maxHeartbeats 8000000 in
set_option maxRecDepth 100000 in
theorem s_X7_nameOf_v7 (l : Launch) (dC : Nat → ClassId) (dI : Nat → Nat → Nat) (cI cJ cZ cM : ClassId) (h : Nat) (r : Nat → Nat) (i : Nat → Int32) (j : Nat → Int64) (x1 : Int32) (x3 : Int32) (g35 : Nat → Int64) (hx1 : iR x1 0 1) (hx3 : iR x3 0 11) (hI : mR i) : k_Ml l yX7_nameOf wsX7_nameOf ({ frames := 1, cells := 0, slots := 0, locals := 40 }) (dC, dI) vwCl (tyy cI cJ cZ cM) [(h, .inr (7, oM r i j)), ((r 35), .inl (cJ, 24, .inr (.inl g35)))] [.ref h, .int x1, .int 1, .int x3] 0 0 (fun (u9 : Unit) => [(h, .inr (7, oM r i j)), ((r 35), .inl (cJ, 24, .inr (.inl g35)))]) (fun (r9 : Int64) (u9 : Unit) => True) := by
  refine fun sz => k_enter (cc := cX7_nameOf) (maxL := 4) (ret := some (.long)) (Qc := fun A => va_Ql (fun (r9 : Int64) (u9 : Unit) => True) (fun u => k_B (dC, dI) vwCl (tyy cI cJ cZ cM) A ((fun (u9 : Unit) => [(h, .inr (7, oM r i j)), ((r 35), .inl (cJ, 24, .inr (.inl g35)))]) u)) A) sz (by decide +kernel) rfl (Nat.le_of_ble_eq_true rfl) (fun p e s m args below meth c A ls H locs B hP hD hS hl => ?_)
  obtain ⟨hx, hb, hml, hown, hts, hr, hlk, hnm, hK, hA, hN, hC⟩ := id B
  have hown : s.vm.findClass RX7 = some m.cls := hown
  have hl : lv_has ls 4 [(0, .ref h), (1, .int x1), (2, .int 1), (3, .int x3)] := hl
  have w_0 : (Cond.fieldLink RX7 118 "WishSeaModel" "wishName" "[J").before args s = true := hts _ (List.mem_of_getElem? (i := 2) rfl)
  have hinX7 : ∀ w ∈ u_ws RX7 TX7 92, w ∈ wsX7_nameOf := fun _ h => List.mem_cons_of_mem _ (List.mem_append_right _ h)
  refine lv_iload_n hx hb dX7_nameOf_0 rfl (lv_at hl 2 rfl) ?_
  have J_29 : ∀ (j29_S0 : Int64)  (H : Heap) (locs : List Loc) (ls : Array Slot), va_P (dC, dI) vwCl [(h, .inr (7, oM r i j)), ((r 35), .inl (cJ, 24, .inr (.inl g35)))] H → va_D A [(h, .inr (7, oM r i j)), ((r 35), .inl (cJ, 24, .inr (.inl g35)))] → va_S A s.heap H locs → lv_has ls 4 [] → W p l e ({ frames := 1, cells := 0, slots := 0, locals := 40 }) s m args below meth c H locs 0 0 (MQ below (va_Ql (fun (r9 : Int64) (u9 : Unit) => True) (fun u => k_B (dC, dI) vwCl (tyy cI cJ cZ cM) A ((fun (u9 : Unit) => [(h, .inr (7, oM r i j)), ((r 35), .inl (cJ, 24, .inr (.inl g35)))]) u)) A) args s 0 0 A) (F0 m 29 ls [.long j29_S0]) := by
    intro j29_S0  H locs ls hP hD hS hl
    exact k_rl B hP hD hS dX7_nameOf_29 () [0, 1] rfl rfl (Nat.le_of_ble_eq_true rfl) (Nat.le_of_ble_eq_true rfl) trivial
  refine lv_if_ne (tgt := 18) hx hb dX7_nameOf_1 (by decide) (fun _ => ?_) (fun q9 => absurd q9 (by decide +kernel))
  refine lv_aload_n hx hb dX7_nameOf_18 rfl (lv_at hl 0 rfl) ?_
  refine k_get (D := (dC, dI)) (ci := 7) (v := .ref (r 35)) (C := RX7) (T := TX7) (N := 92) hx hb hts hinX7 hown hK hP 0 rfl rfl 35 (by decide) w_0 rfl rfl dX7_nameOf_19 ?_
  refine lv_bipush (v := 12) hx hb dX7_nameOf_22 (by decide +kernel) ?_
  refine lv_iload_n hx hb dX7_nameOf_24 rfl (lv_at hl 1 rfl) ?_
  refine lv_imul hx hb dX7_nameOf_25 ?_
  refine lv_topi (fun y_25 ey_25 => ?_)
  have f_25_1 : iR y_25 0 12 := iR_mul ey_25 (iR_c (n := 12) (by decide +kernel) (by decide +kernel)) hx1 (by decide +kernel)
  refine lv_iload_n hx hb dX7_nameOf_26 rfl (lv_at hl 3 rfl) ?_
  refine lv_iadd hx hb dX7_nameOf_27 ?_
  refine lv_topi (fun y_27 ey_27 => ?_)
  have f_27_2 : iR y_27 0 23 := iR_add ey_27 f_25_1 hx3 (by decide +kernel)
  refine va_lald hx hb hK hP 1 1 rfl rfl (iR_vp f_27_2 (by decide +kernel)) dX7_nameOf_28 ?_
  exact J_29 (g35 y_27.toNatClampNeg)  H locs ls hP hD hS (lv_sub hl [] rfl)
set_option maxHeartbeats 8000000 in
set_option maxRecDepth 100000 in
theorem s_X7_named_v5 (l : Launch) (dC : Nat → ClassId) (dI : Nat → Nat → Nat) (cI cJ cZ cM : ClassId) (h : Nat) (r : Nat → Nat) (i : Nat → Int32) (j : Nat → Int64) (x2 : Int64) (f18 : Nat → Int32) (g35 : Nat → Int64) (hI : mR i) (hf18 : aR f18 0 12) : k_Mi l yX7_named wsX7_named ({ frames := 2, cells := 0, slots := 0, locals := 63 }) (dC, dI) vwCl (tyy cI cJ cZ cM) [(h, .inr (7, oM r i j)), ((r 18), .inl (cI, 2, .inl f18)), ((r 35), .inl (cJ, 24, .inr (.inl g35)))] [.ref h, .int 1, .long x2] 0 0 (fun (u9 : Unit) => [(h, .inr (7, oM r i j)), ((r 18), .inl (cI, 2, .inl f18)), ((r 35), .inl (cJ, 24, .inr (.inl g35)))]) (fun (r9 : Int32) (u9 : Unit) => (iR r9 (-1) 11)) := by
  refine fun sz => k_enter (cc := cX7_named) (maxL := 5) (ret := some (.int)) (Qc := fun A => va_Qi (fun (r9 : Int32) (u9 : Unit) => (iR r9 (-1) 11)) (fun u => k_B (dC, dI) vwCl (tyy cI cJ cZ cM) A ((fun (u9 : Unit) => [(h, .inr (7, oM r i j)), ((r 18), .inl (cI, 2, .inl f18)), ((r 35), .inl (cJ, 24, .inr (.inl g35)))]) u)) A) sz (by decide +kernel) rfl (Nat.le_of_ble_eq_true rfl) (fun p e s m args below meth c A ls H locs B hP hD hS hl => ?_)
  obtain ⟨hx, hb, hml, hown, hts, hr, hlk, hnm, hK, hA, hN, hC⟩ := id B
  have hown : s.vm.findClass RX7 = some m.cls := hown
  have hl : lv_has ls 5 [(0, .ref h), (1, .int 1), (2, .long x2)] := hl
  have w_0 : (Cond.fieldLink RX7 124 "WishSeaModel" "in" "I").before args s = true := hts _ (List.mem_of_getElem? (i := 1) rfl)
  have hinX7 : ∀ w ∈ u_ws RX7 TX7 92, w ∈ wsX7_named := fun _ h => List.mem_cons_of_mem _ (List.mem_append_right _ h)
  refine lv_iconst (v := 0) hx hb dX7_named_0 (by decide +kernel) ?_
  have J_3 : ∀ (n_3 : Nat) (j3_L4 : Int32) (hj3_L4 : iR j3_L4 0 12) (hm_3 : (12 - j3_L4.toInt).toNat < n_3) (H : Heap) (locs : List Loc) (ls : Array Slot), va_P (dC, dI) vwCl [(h, .inr (7, oM r i j)), ((r 18), .inl (cI, 2, .inl f18)), ((r 35), .inl (cJ, 24, .inr (.inl g35)))] H → va_D A [(h, .inr (7, oM r i j)), ((r 18), .inl (cI, 2, .inl f18)), ((r 35), .inl (cJ, 24, .inr (.inl g35)))] → va_S A s.heap H locs → lv_has ls 5 [(0, .ref h), (1, .int 1), (2, .long x2), (4, .int j3_L4)] → W p l e ({ frames := 2, cells := 0, slots := 0, locals := 63 }) s m args below meth c H locs 0 0 (MQ below (va_Qi (fun (r9 : Int32) (u9 : Unit) => (iR r9 (-1) 11)) (fun u => k_B (dC, dI) vwCl (tyy cI cJ cZ cM) A ((fun (u9 : Unit) => [(h, .inr (7, oM r i j)), ((r 18), .inl (cI, 2, .inl f18)), ((r 35), .inl (cJ, 24, .inr (.inl g35)))]) u)) A) args s 0 0 A) (F0 m 3 ls []) := by
    intro n_3
    induction n_3 with
    | zero => intro j3_L4 hj3_L4 hm_3; exact absurd hm_3 (Nat.not_lt_zero _)
    | succ n_3 ih_3 =>
      intro j3_L4 hj3_L4 hm_3 H locs ls hP hD hS hl
      refine lv_iload hx hb dX7_named_3 (lv_at hl 3 rfl) ?_
      refine lv_aload_n hx hb dX7_named_5 rfl (lv_at hl 0 rfl) ?_
      refine lv_aload_n hx hb dX7_named_6 rfl (lv_at hl 0 rfl) ?_
      have f_7_1 : iR (i 37) 0 1 := hI 37
      refine k_get (D := (dC, dI)) (ci := 7) (v := .int (i 37)) (C := RX7) (T := TX7) (N := 92) hx hb hts hinX7 hown hK hP 0 rfl rfl 37 (by decide) w_0 rfl rfl dX7_named_7 ?_
      refine lv_iload_n hx hb dX7_named_10 rfl (lv_at hl 1 rfl) ?_
      refine k_ci (wc := [(h, .inr (7, oM r i j)), ((r 18), .inl (cI, 2, .inl f18))]) (wr := [((r 35), .inl (cJ, 24, .inr (.inl g35)))]) (fun hPc hDc hFc => va_runV (As := [.int (i 37), .int 1]) (rest := [.int j3_L4]) ⟨hx, hb, hml, hown, hts⟩ (s_X7_manyOf_v5 l dC dI cI cJ cZ cM h r i j (i 37) f18 f_7_1 hI hf18 H.size) (cwV 2 hts gX7_named_X7_manyOf rfl rfl rfl (by decide +kernel) ⟨(Nat.le_of_ble_eq_true rfl), (Nat.le_of_ble_eq_true rfl)⟩) (k_pV hPc hDc hK hN hC hS hFc hP (q0 := 0) (ci := 7) rfl rfl) rfl rfl hl.1 rfl (lv_room (Nat.le_of_ble_eq_true rfl)) dX7_named_11 ⟨(Nat.le_of_ble_eq_true rfl), (Nat.le_of_ble_eq_true rfl)⟩) hP hD hS hA [0, 1] [2] rfl rfl rfl rfl (by decide) (fun _ => rfl) 0 0 rfl rfl (fun r_11 u_11 H locs hw hP hD hS => ?_)
      obtain g_11_0 := hw
      obtain rfl : r_11 = (f18 (i 37).toNatClampNeg) := g_11_0
      have hP : va_P (dC, dI) vwCl [((r 35), .inl (cJ, 24, .inr (.inl g35))), (h, .inr (7, oM r i j)), ((r 18), .inl (cI, 2, .inl f18))] H := hP
      have hD : va_D A [((r 35), .inl (cJ, 24, .inr (.inl g35))), (h, .inr (7, oM r i j)), ((r 18), .inl (cI, 2, .inl f18))] := hD
      refine lv_icmp_ge (tgt := 42) hx hb dX7_named_14 (by decide) (fun c_14 => ?_) (fun c_14 => ?_)
      · have c_14 : (f18 (i 37).toNatClampNeg) ≤ j3_L4 := c_14
        refine lv_iconst (v := (-1)) hx hb dX7_named_42 (by decide +kernel) ?_
        exact k_ri B hP hD hS dX7_named_43 () [1, 2, 0] rfl rfl rfl (Nat.le_of_ble_eq_true rfl) (Nat.le_of_ble_eq_true rfl) (iR_c (n := (-1)) (by decide +kernel) (by decide +kernel))
      · have c_14 : j3_L4 < (f18 (i 37).toNatClampNeg) := i_nle c_14
        have f_17_2 : iR j3_L4 0 11 := iR_ltL c_14 hj3_L4 (show iR (f18 (i 37).toNatClampNeg) 0 12 from hf18 _) (by decide +kernel)
        have f_17_3 : iR (f18 (i 37).toNatClampNeg) 1 12 := iR_ltR c_14 hj3_L4 (show iR (f18 (i 37).toNatClampNeg) 0 12 from hf18 _) (by decide +kernel)
        refine lv_aload_n hx hb dX7_named_17 rfl (lv_at hl 0 rfl) ?_
        refine lv_aload_n hx hb dX7_named_18 rfl (lv_at hl 0 rfl) ?_
        refine k_get (D := (dC, dI)) (ci := 7) (v := .int (i 37)) (C := RX7) (T := TX7) (N := 92) hx hb hts hinX7 hown hK hP 1 rfl rfl 37 (by decide) w_0 rfl rfl dX7_named_19 ?_
        refine lv_iload_n hx hb dX7_named_22 rfl (lv_at hl 1 rfl) ?_
        refine lv_iload hx hb dX7_named_23 (lv_at hl 3 rfl) ?_
        refine k_cl (wc := [(h, .inr (7, oM r i j)), ((r 35), .inl (cJ, 24, .inr (.inl g35)))]) (wr := [((r 18), .inl (cI, 2, .inl f18))]) (fun hPc hDc hFc => va_runV (As := [.int (i 37), .int 1, .int j3_L4]) (rest := []) ⟨hx, hb, hml, hown, hts⟩ (s_X7_nameOf_v5 l dC dI cI cJ cZ cM h r i j (i 37) j3_L4 g35 f_7_1 f_17_2 hI H.size) (cwV 3 hts gX7_named_X7_nameOf rfl rfl rfl (by decide +kernel) ⟨(Nat.le_of_ble_eq_true rfl), (Nat.le_of_ble_eq_true rfl)⟩) (k_pV hPc hDc hK hN hC hS hFc hP (q0 := 1) (ci := 7) rfl rfl) rfl rfl hl.1 rfl (lv_room (Nat.le_of_ble_eq_true rfl)) dX7_named_25 ⟨(Nat.le_of_ble_eq_true rfl), (Nat.le_of_ble_eq_true rfl)⟩) hP hD hS hA [1, 0] [2] rfl rfl rfl rfl (by decide) (fun _ => rfl) 0 0 rfl rfl (fun r_25 u_25 H locs hw hP hD hS => ?_)
        have hP : va_P (dC, dI) vwCl [((r 18), .inl (cI, 2, .inl f18)), (h, .inr (7, oM r i j)), ((r 35), .inl (cJ, 24, .inr (.inl g35)))] H := hP
        have hD : va_D A [((r 18), .inl (cI, 2, .inl f18)), (h, .inr (7, oM r i j)), ((r 35), .inl (cJ, 24, .inr (.inl g35)))] := hD
        refine lv_lload_n hx hb dX7_named_28 rfl (lv_at hl 2 rfl) ?_
        refine W.lcmp hx hb dX7_named_29 ?_
        refine lv_topi (fun y_29 ey_29 => ?_)
        refine lv_if_ne (tgt := 36) hx hb dX7_named_30 (by decide) (fun c_30 => ?_) (fun c_30 => ?_)
        · have c_30 : ¬ y_29 = 0 := c_30
          have lc_30 : ¬ r_25 = x2 := l_cmpne ey_29 c_30
          obtain ⟨y_36, ey_36⟩ : ∃ y : Int32, y = j3_L4 + 1 := ⟨_, rfl⟩
          refine lv_iinc (v := y_36) (lv' := [(4, .int y_36), (0, .ref h), (1, .int 1), (2, .long x2)]) hx hb dX7_named_36 hl (k := 3) rfl ey_36.symm (by decide) rfl (fun ls hl => ?_)
          have f_36_4 : iR y_36 1 12 := iR_add ey_36 f_17_2 (iR_c (n := 1) (by decide +kernel) (by decide +kernel)) (by decide +kernel)
          refine lv_goto (tgt := 3) hx hb dX7_named_39 (by decide) ?_
          exact ih_3 y_36 (iR_w f_36_4 (by decide +kernel)) (m_up (B := 12) hm_3 ey_36 f_17_2 (by decide +kernel)) H locs ls (hP.sub [1, 0, 2] rfl) (hD.sub [1, 0, 2] (by decide +kernel) rfl) hS (lv_sub hl [1, 2, 3, 0] rfl)
        · have c_30 : y_29 = 0 := c_30
          have f_33_4 : iR y_29 0 0 := iR_eqL c_30 (iR_top _) (iR_c (n := 0) (by decide +kernel) (by decide +kernel)) (by decide +kernel)
          have lc_30 : r_25 = x2 := l_cmpe ey_29 c_30
          refine lv_iload hx hb dX7_named_33 (lv_at hl 3 rfl) ?_
          exact k_ri B hP hD hS dX7_named_35 () [1, 0, 2] rfl rfl rfl (Nat.le_of_ble_eq_true rfl) (Nat.le_of_ble_eq_true rfl) (iR_w f_17_2 (by decide +kernel))
  refine lv_istore (lv' := [(4, .int 0), (0, .ref h), (1, .int 1), (2, .long x2)]) hx hb dX7_named_1 hl (by decide) rfl (fun ls hl => ?_)
  exact J_3 _ 0 (iR_c (n := 0) (by decide +kernel) (by decide +kernel)) (Nat.lt_succ_self _) H locs ls hP hD hS (lv_sub hl [1, 2, 3, 0] rfl)
set_option maxHeartbeats 8000000 in
set_option maxRecDepth 100000 in
theorem s_X7_ahead_v4 (l : Launch) (dC : Nat → ClassId) (dI : Nat → Nat → Nat) (cI cJ cZ cM : ClassId) (h : Nat) (r : Nat → Nat) (i : Nat → Int32) (j : Nat → Int64) (f0 : Nat → Int32) (hI : mR i) (hf0 : aR f0 0 255) : k_Mv l yX7_ahead wsX7_ahead ({ frames := 2, cells := 0, slots := 0, locals := 62 }) (dC, dI) vwCl (tyy cI cJ cZ cM) [(h, .inr (7, oM r i j)), ((r 0), .inl (cI, 1800, .inl f0))] [.ref h] 0 0 (fun (u9 : SU) => [(h, .inr (7, oM r (upd (upd (upd (upd (upd i 3 (u9.1 0)) 4 (u9.1 1)) 5 (u9.1 2)) 6 (u9.1 3)) 12 (u9.1 4)) (vp_updL j 7 (u9.2.1 0)))), ((r 0), .inl (cI, 1800, .inl f0))]) (fun (u9 : SU) => (iR (u9.1 0) 0 3) ∧ (iR (u9.1 1) 0 1600) ∧ (iR (u9.1 2) 0 1600) ∧ (iR (u9.1 4) (-1) 1599)) := by
  refine fun sz => k_enter (cc := cX7_ahead) (maxL := 6) (ret := none) (Qc := fun A => va_Qv (fun (u9 : SU) => (iR (u9.1 0) 0 3) ∧ (iR (u9.1 1) 0 1600) ∧ (iR (u9.1 2) 0 1600) ∧ (iR (u9.1 4) (-1) 1599)) (fun u => k_B (dC, dI) vwCl (tyy cI cJ cZ cM) A ((fun (u9 : SU) => [(h, .inr (7, oM r (upd (upd (upd (upd (upd i 3 (u9.1 0)) 4 (u9.1 1)) 5 (u9.1 2)) 6 (u9.1 3)) 12 (u9.1 4)) (vp_updL j 7 (u9.2.1 0)))), ((r 0), .inl (cI, 1800, .inl f0))]) u)) A) sz (by decide +kernel) rfl (Nat.le_of_ble_eq_true rfl) (fun p e s m args below meth c A ls H locs B hP hD hS hl => ?_)
  obtain ⟨hx, hb, hml, hown, hts, hr, hlk, hnm, hK, hA, hN, hC⟩ := id B
  have hown : s.vm.findClass RX7 = some m.cls := hown
  have hl : lv_has ls 6 [(0, .ref h)] := hl
  have w_0 : (Cond.fieldLink RX7 26 "WishSeaModel" "signEnd" "I").before args s = true := hts _ (List.mem_of_getElem? (i := 1) rfl)
  have w_1 : (Cond.fieldLink RX7 17 "WishSeaModel" "size" "I").before args s = true := hts _ (List.mem_of_getElem? (i := 2) rfl)
  have w_2 : (Cond.fieldLink RX7 23 "WishSeaModel" "signAt" "I").before args s = true := hts _ (List.mem_of_getElem? (i := 4) rfl)
  have w_3 : (Cond.fieldLink RX7 20 "WishSeaModel" "sign" "I").before args s = true := hts _ (List.mem_of_getElem? (i := 5) rfl)
  have w_4 : (Cond.fieldLink RX7 48 "WishSeaModel" "lexAt" "I").before args s = true := hts _ (List.mem_of_getElem? (i := 6) rfl)
  have w_5 : (Cond.fieldLink RX7 7 "WishSeaModel" "tape" "[I").before args s = true := hts _ (List.mem_of_getElem? (i := 3) rfl)
  have w_6 : (Cond.fieldLink RX7 29 "WishSeaModel" "value" "I").before args s = true := hts _ (List.mem_of_getElem? (i := 7) rfl)
  have w_7 : (Cond.fieldLink RX7 32 "WishSeaModel" "word" "J").before args s = true := hts _ (List.mem_of_getElem? (i := 8) rfl)
  have hinX7 : ∀ w ∈ u_ws RX7 TX7 92, w ∈ wsX7_ahead := fun _ h => List.mem_cons_of_mem _ (List.mem_append_right _ h)
  refine lv_aload_n hx hb dX7_ahead_0 rfl (lv_at hl 0 rfl) ?_
  have f_1_1 : iR (i 5) 0 1600 := hI 5
  refine k_get (D := (dC, dI)) (ci := 7) (v := .int (i 5)) (C := RX7) (T := TX7) (N := 92) hx hb hts hinX7 hown hK hP 0 rfl rfl 5 (by decide) w_0 rfl rfl dX7_ahead_1 ?_
  have J_5 : ∀ (n_5 : Nat) (j5_L1 : Int32) (hj5_L1 : iR j5_L1 0 1600) (hm_5 : (1600 - j5_L1.toInt).toNat < n_5) (H : Heap) (locs : List Loc) (ls : Array Slot), va_P (dC, dI) vwCl [(h, .inr (7, oM r i j)), ((r 0), .inl (cI, 1800, .inl f0))] H → va_D A [(h, .inr (7, oM r i j)), ((r 0), .inl (cI, 1800, .inl f0))] → va_S A s.heap H locs → lv_has ls 6 [(0, .ref h), (1, .int j5_L1)] → W p l e ({ frames := 2, cells := 0, slots := 0, locals := 62 }) s m args below meth c H locs 0 0 (MQ below (va_Qv (fun (u9 : SU) => (iR (u9.1 0) 0 3) ∧ (iR (u9.1 1) 0 1600) ∧ (iR (u9.1 2) 0 1600) ∧ (iR (u9.1 4) (-1) 1599)) (fun u => k_B (dC, dI) vwCl (tyy cI cJ cZ cM) A ((fun (u9 : SU) => [(h, .inr (7, oM r (upd (upd (upd (upd (upd i 3 (u9.1 0)) 4 (u9.1 1)) 5 (u9.1 2)) 6 (u9.1 3)) 12 (u9.1 4)) (vp_updL j 7 (u9.2.1 0)))), ((r 0), .inl (cI, 1800, .inl f0))]) u)) A) args s 0 0 A) (F0 m 5 ls []) := by
    intro n_5
    induction n_5 with
    | zero => intro j5_L1 hj5_L1 hm_5; exact absurd hm_5 (Nat.not_lt_zero _)
    | succ n_5 ih_5 =>
      intro j5_L1 hj5_L1 hm_5 H locs ls hP hD hS hl
      refine lv_iload_n hx hb dX7_ahead_5 rfl (lv_at hl 1 rfl) ?_
      refine lv_aload_n hx hb dX7_ahead_6 rfl (lv_at hl 0 rfl) ?_
      have f_7_1 : iR (i 2) 0 1600 := hI 2
      refine k_get (D := (dC, dI)) (ci := 7) (v := .int (i 2)) (C := RX7) (T := TX7) (N := 92) hx hb hts hinX7 hown hK hP 0 rfl rfl 2 (by decide) w_1 rfl rfl dX7_ahead_7 ?_
      have J_41 : ∀   (H : Heap) (locs : List Loc) (ls : Array Slot), va_P (dC, dI) vwCl [(h, .inr (7, oM r i j)), ((r 0), .inl (cI, 1800, .inl f0))] H → va_D A [(h, .inr (7, oM r i j)), ((r 0), .inl (cI, 1800, .inl f0))] → va_S A s.heap H locs → lv_has ls 6 [(0, .ref h), (1, .int j5_L1)] → W p l e ({ frames := 2, cells := 0, slots := 0, locals := 62 }) s m args below meth c H locs 0 0 (MQ below (va_Qv (fun (u9 : SU) => (iR (u9.1 0) 0 3) ∧ (iR (u9.1 1) 0 1600) ∧ (iR (u9.1 2) 0 1600) ∧ (iR (u9.1 4) (-1) 1599)) (fun u => k_B (dC, dI) vwCl (tyy cI cJ cZ cM) A ((fun (u9 : SU) => [(h, .inr (7, oM r (upd (upd (upd (upd (upd i 3 (u9.1 0)) 4 (u9.1 1)) 5 (u9.1 2)) 6 (u9.1 3)) 12 (u9.1 4)) (vp_updL j 7 (u9.2.1 0)))), ((r 0), .inl (cI, 1800, .inl f0))]) u)) A) args s 0 0 A) (F0 m 41 ls []) := by
        intro   H locs ls hP hD hS hl
        refine lv_aload_n hx hb dX7_ahead_41 rfl (lv_at hl 0 rfl) ?_
        refine lv_iload_n hx hb dX7_ahead_42 rfl (lv_at hl 1 rfl) ?_
        refine k_put (D := (dC, dI)) (ci := 7) (v := .int j5_L1) (C := RX7) (T := TX7) (N := 92) (ws' := [(h, .inr (7, oM r (upd i 4 j5_L1) j)), ((r 0), .inl (cI, 1800, .inl f0))]) hx hb hts hinX7 tyX7 tyX7_ok nmX7 hown hK hP hD hS 0 rfl rfl 4 (by decide) w_2 rfl rfl rfl rfl (Nat.le_of_ble_eq_true rfl) rfl dX7_ahead_43 (fun H locs hP hD hS => ?_)
        refine lv_aload_n hx hb dX7_ahead_46 rfl (lv_at hl 0 rfl) ?_
        refine lv_iload_n hx hb dX7_ahead_47 rfl (lv_at hl 1 rfl) ?_
        refine k_put (D := (dC, dI)) (ci := 7) (v := .int j5_L1) (C := RX7) (T := TX7) (N := 92) (ws' := [(h, .inr (7, oM r (upd (upd i 4 j5_L1) 5 j5_L1) j)), ((r 0), .inl (cI, 1800, .inl f0))]) hx hb hts hinX7 tyX7 tyX7_ok nmX7 hown hK hP hD hS 0 rfl rfl 5 (by decide) w_0 rfl rfl rfl rfl (Nat.le_of_ble_eq_true rfl) rfl dX7_ahead_48 (fun H locs hP hD hS => ?_)
        refine lv_aload_n hx hb dX7_ahead_51 rfl (lv_at hl 0 rfl) ?_
        refine lv_iconst (v := 0) hx hb dX7_ahead_52 (by decide +kernel) ?_
        refine k_put (D := (dC, dI)) (ci := 7) (v := .int 0) (C := RX7) (T := TX7) (N := 92) (ws' := [(h, .inr (7, oM r (upd (upd (upd i 3 0) 4 j5_L1) 5 j5_L1) j)), ((r 0), .inl (cI, 1800, .inl f0))]) hx hb hts hinX7 tyX7 tyX7_ok nmX7 hown hK hP hD hS 0 rfl rfl 3 (by decide) w_3 rfl rfl rfl rfl (Nat.le_of_ble_eq_true rfl) rfl dX7_ahead_53 (fun H locs hP hD hS => ?_)
        refine lv_aload_n hx hb dX7_ahead_56 rfl (lv_at hl 0 rfl) ?_
        refine lv_iconst (v := (-1)) hx hb dX7_ahead_57 (by decide +kernel) ?_
        refine k_put (D := (dC, dI)) (ci := 7) (v := .int (-1)) (C := RX7) (T := TX7) (N := 92) (ws' := [(h, .inr (7, oM r (upd (upd (upd (upd i 3 0) 4 j5_L1) 5 j5_L1) 12 (-1)) j)), ((r 0), .inl (cI, 1800, .inl f0))]) hx hb hts hinX7 tyX7 tyX7_ok nmX7 hown hK hP hD hS 0 rfl rfl 12 (by decide) w_4 rfl rfl rfl rfl (Nat.le_of_ble_eq_true rfl) rfl dX7_ahead_58 (fun H locs hP hD hS => ?_)
        refine lv_iload_n hx hb dX7_ahead_61 rfl (lv_at hl 1 rfl) ?_
        refine lv_aload_n hx hb dX7_ahead_62 rfl (lv_at hl 0 rfl) ?_
        refine k_get (D := (dC, dI)) (ci := 7) (v := .int (i 2)) (C := RX7) (T := TX7) (N := 92) hx hb hts hinX7 hown hK hP 0 rfl rfl 2 (by decide) w_1 rfl rfl dX7_ahead_63 ?_
        refine lv_icmp_lt (tgt := 70) hx hb dX7_ahead_66 (by decide) (fun c_66 => ?_) (fun c_66 => ?_)
        · have c_66 : j5_L1 < (i 2) := c_66
          have f_70_1 : iR j5_L1 0 1599 := iR_ltL c_66 hj5_L1 f_7_1 (by decide +kernel)
          have f_70_2 : iR (i 2) 1 1600 := iR_ltR c_66 hj5_L1 f_7_1 (by decide +kernel)
          refine lv_aload_n hx hb dX7_ahead_70 rfl (lv_at hl 0 rfl) ?_
          refine k_get (D := (dC, dI)) (ci := 7) (v := .ref (r 0)) (C := RX7) (T := TX7) (N := 92) hx hb hts hinX7 hown hK hP 0 rfl rfl 0 (by decide) w_5 rfl rfl dX7_ahead_71 ?_
          refine lv_iload_n hx hb dX7_ahead_74 rfl (lv_at hl 1 rfl) ?_
          refine va_iald hx hb hK hP 1 0 rfl rfl (iR_vp f_70_1 (by decide +kernel)) dX7_ahead_75 ?_
          have f_75_3 : iR (f0 j5_L1.toNatClampNeg) 0 255 := hf0 _
          refine k_ci (wc := []) (wr := [(h, .inr (7, oM r (upd (upd (upd (upd i 3 0) 4 j5_L1) 5 j5_L1) 12 (-1)) j)), ((r 0), .inl (cI, 1800, .inl f0))]) (fun hPc hDc hFc => va_runS (As := [.int (f0 j5_L1.toNatClampNeg)]) (rest := []) ⟨hx, hb, hml, hown, hts⟩ (s_X7_isLetter_v0 l dC dI cI cJ cZ cM (f0 j5_L1.toNatClampNeg) H.size) (va_cwS 1 hts gX7_ahead_X7_isLetter rfl rfl rfl (by decide +kernel) ⟨(Nat.le_of_ble_eq_true rfl), (Nat.le_of_ble_eq_true rfl)⟩) (k_pS hPc hDc hK hN hC hS hFc) rfl rfl hl.1 rfl (lv_room (Nat.le_of_ble_eq_true rfl)) dX7_ahead_76 ⟨(Nat.le_of_ble_eq_true rfl), (Nat.le_of_ble_eq_true rfl)⟩) hP hD hS hA [] [0, 1] rfl rfl rfl rfl (by decide) (fun _ => rfl) 0 0 rfl rfl (fun r_76 u_76 H locs hw hP hD hS => ?_)
          obtain g_76_0 := hw
          have hP : va_P (dC, dI) vwCl [(h, .inr (7, oM r (upd (upd (upd (upd i 3 0) 4 j5_L1) 5 j5_L1) 12 (-1)) j)), ((r 0), .inl (cI, 1800, .inl f0))] H := hP
          have hD : va_D A [(h, .inr (7, oM r (upd (upd (upd (upd i 3 0) 4 j5_L1) 5 j5_L1) 12 (-1)) j)), ((r 0), .inl (cI, 1800, .inl f0))] := hD
          refine lv_istore_n (lv' := [(2, .int r_76), (0, .ref h), (1, .int j5_L1)]) hx hb dX7_ahead_79 rfl hl (by decide) rfl (fun ls hl => ?_)
          refine lv_aload_n hx hb dX7_ahead_80 rfl (lv_at hl 1 rfl) ?_
          refine k_get (D := (dC, dI)) (ci := 7) (v := .ref (r 0)) (C := RX7) (T := TX7) (N := 92) hx hb hts hinX7 hown hK hP 0 rfl rfl 0 (by decide) w_5 rfl rfl dX7_ahead_81 ?_
          refine lv_iload_n hx hb dX7_ahead_84 rfl (lv_at hl 2 rfl) ?_
          refine va_iald hx hb hK hP 1 0 rfl rfl (iR_vp f_70_1 (by decide +kernel)) dX7_ahead_85 ?_
          refine k_ci (wc := []) (wr := [(h, .inr (7, oM r (upd (upd (upd (upd i 3 0) 4 j5_L1) 5 j5_L1) 12 (-1)) j)), ((r 0), .inl (cI, 1800, .inl f0))]) (fun hPc hDc hFc => va_runS (As := [.int (f0 j5_L1.toNatClampNeg)]) (rest := []) ⟨hx, hb, hml, hown, hts⟩ (s_X7_isDigit_v0 l dC dI cI cJ cZ cM (f0 j5_L1.toNatClampNeg) H.size) (va_cwS 1 hts gX7_ahead_X7_isDigit rfl rfl rfl (by decide +kernel) ⟨(Nat.le_of_ble_eq_true rfl), (Nat.le_of_ble_eq_true rfl)⟩) (k_pS hPc hDc hK hN hC hS hFc) rfl rfl hl.1 rfl (lv_room (Nat.le_of_ble_eq_true rfl)) dX7_ahead_86 ⟨(Nat.le_of_ble_eq_true rfl), (Nat.le_of_ble_eq_true rfl)⟩) hP hD hS hA [] [0, 1] rfl rfl rfl rfl (by decide) (fun _ => rfl) 0 0 rfl rfl (fun r_86 u_86 H locs hw hP hD hS => ?_)
          obtain g_86_0 := hw
          have hP : va_P (dC, dI) vwCl [(h, .inr (7, oM r (upd (upd (upd (upd i 3 0) 4 j5_L1) 5 j5_L1) 12 (-1)) j)), ((r 0), .inl (cI, 1800, .inl f0))] H := hP
          have hD : va_D A [(h, .inr (7, oM r (upd (upd (upd (upd i 3 0) 4 j5_L1) 5 j5_L1) 12 (-1)) j)), ((r 0), .inl (cI, 1800, .inl f0))] := hD
          refine lv_istore_n (lv' := [(3, .int r_86), (2, .int r_76), (0, .ref h), (1, .int j5_L1)]) hx hb dX7_ahead_89 rfl hl (by decide) rfl (fun ls hl => ?_)
          refine lv_iload_n hx hb dX7_ahead_90 rfl (lv_at hl 1 rfl) ?_
          have J_135 : ∀ (j135_M0_12 : Int32) (hj135_M0_12 : iR j135_M0_12 (-1) 1599) (H : Heap) (locs : List Loc) (ls : Array Slot), va_P (dC, dI) vwCl [(h, .inr (7, oM r (upd (upd (upd (upd i 3 0) 4 j5_L1) 5 j5_L1) 12 j135_M0_12) j)), ((r 0), .inl (cI, 1800, .inl f0))] H → va_D A [(h, .inr (7, oM r (upd (upd (upd (upd i 3 0) 4 j5_L1) 5 j5_L1) 12 j135_M0_12) j)), ((r 0), .inl (cI, 1800, .inl f0))] → va_S A s.heap H locs → lv_has ls 6 [(0, .ref h), (1, .int j5_L1), (2, .int r_76), (3, .int r_86)] → W p l e ({ frames := 2, cells := 0, slots := 0, locals := 62 }) s m args below meth c H locs 0 0 (MQ below (va_Qv (fun (u9 : SU) => (iR (u9.1 0) 0 3) ∧ (iR (u9.1 1) 0 1600) ∧ (iR (u9.1 2) 0 1600) ∧ (iR (u9.1 4) (-1) 1599)) (fun u => k_B (dC, dI) vwCl (tyy cI cJ cZ cM) A ((fun (u9 : SU) => [(h, .inr (7, oM r (upd (upd (upd (upd (upd i 3 (u9.1 0)) 4 (u9.1 1)) 5 (u9.1 2)) 6 (u9.1 3)) 12 (u9.1 4)) (vp_updL j 7 (u9.2.1 0)))), ((r 0), .inl (cI, 1800, .inl f0))]) u)) A) args s 0 0 A) (F0 m 135 ls []) := by
            intro j135_M0_12 hj135_M0_12 H locs ls hP hD hS hl
            refine lv_aload_n hx hb dX7_ahead_135 rfl (lv_at hl 0 rfl) ?_
            refine lv_iconst (v := 0) hx hb dX7_ahead_136 (by decide +kernel) ?_
            refine k_put (D := (dC, dI)) (ci := 7) (v := .int 0) (C := RX7) (T := TX7) (N := 92) (ws' := [(h, .inr (7, oM r (upd (upd (upd (upd (upd i 3 0) 4 j5_L1) 5 j5_L1) 6 0) 12 j135_M0_12) j)), ((r 0), .inl (cI, 1800, .inl f0))]) hx hb hts hinX7 tyX7 tyX7_ok nmX7 hown hK hP hD hS 0 rfl rfl 6 (by decide) w_6 rfl rfl rfl rfl (Nat.le_of_ble_eq_true rfl) rfl dX7_ahead_137 (fun H locs hP hD hS => ?_)
            refine lv_aload_n hx hb dX7_ahead_140 rfl (lv_at hl 0 rfl) ?_
            refine lv_lconst (v := 0) hx hb dX7_ahead_141 (by decide +kernel) ?_
            refine k_put (D := (dC, dI)) (ci := 7) (v := .long 0) (C := RX7) (T := TX7) (N := 92) (ws' := [(h, .inr (7, oM r (upd (upd (upd (upd (upd i 3 0) 4 j5_L1) 5 j5_L1) 6 0) 12 j135_M0_12) (vp_updL j 7 0))), ((r 0), .inl (cI, 1800, .inl f0))]) hx hb hts hinX7 tyX7 tyX7_ok nmX7 hown hK hP hD hS 0 rfl rfl 7 (by decide) w_7 rfl rfl rfl rfl (Nat.le_of_ble_eq_true rfl) rfl dX7_ahead_142 (fun H locs hP hD hS => ?_)
            refine lv_aload_n hx hb dX7_ahead_145 rfl (lv_at hl 0 rfl) ?_
            refine lv_iconst (v := 3) hx hb dX7_ahead_146 (by decide +kernel) ?_
            refine k_put (D := (dC, dI)) (ci := 7) (v := .int 3) (C := RX7) (T := TX7) (N := 92) (ws' := [(h, .inr (7, oM r (upd (upd (upd (upd (upd i 3 3) 4 j5_L1) 5 j5_L1) 6 0) 12 j135_M0_12) (vp_updL j 7 0))), ((r 0), .inl (cI, 1800, .inl f0))]) hx hb hts hinX7 tyX7 tyX7_ok nmX7 hown hK hP hD hS 0 rfl rfl 3 (by decide) w_3 rfl rfl rfl rfl (Nat.le_of_ble_eq_true rfl) rfl dX7_ahead_147 (fun H locs hP hD hS => ?_)
            refine lv_aload_n hx hb dX7_ahead_150 rfl (lv_at hl 0 rfl) ?_
            refine lv_iload_n hx hb dX7_ahead_151 rfl (lv_at hl 1 rfl) ?_
            refine lv_iconst (v := 1) hx hb dX7_ahead_152 (by decide +kernel) ?_
            refine lv_iadd hx hb dX7_ahead_153 ?_
            refine lv_topi (fun y_153 ey_153 => ?_)
            have f_153_1 : iR y_153 1 1600 := iR_add ey_153 f_70_1 (iR_c (n := 1) (by decide +kernel) (by decide +kernel)) (by decide +kernel)
            refine k_put (D := (dC, dI)) (ci := 7) (v := .int y_153) (C := RX7) (T := TX7) (N := 92) (ws' := [(h, .inr (7, oM r (upd (upd (upd (upd (upd i 3 3) 4 j5_L1) 5 y_153) 6 0) 12 j135_M0_12) (vp_updL j 7 0))), ((r 0), .inl (cI, 1800, .inl f0))]) hx hb hts hinX7 tyX7 tyX7_ok nmX7 hown hK hP hD hS 0 rfl rfl 5 (by decide) w_0 rfl rfl rfl rfl (Nat.le_of_ble_eq_true rfl) rfl dX7_ahead_154 (fun H locs hP hD hS => ?_)
            refine lv_iload_n hx hb dX7_ahead_157 rfl (lv_at hl 2 rfl) ?_
            have J_176 : ∀   (H : Heap) (locs : List Loc) (ls : Array Slot), va_P (dC, dI) vwCl [(h, .inr (7, oM r (upd (upd (upd (upd (upd i 3 3) 4 j5_L1) 5 y_153) 6 0) 12 j135_M0_12) (vp_updL j 7 0))), ((r 0), .inl (cI, 1800, .inl f0))] H → va_D A [(h, .inr (7, oM r (upd (upd (upd (upd (upd i 3 3) 4 j5_L1) 5 y_153) 6 0) 12 j135_M0_12) (vp_updL j 7 0))), ((r 0), .inl (cI, 1800, .inl f0))] → va_S A s.heap H locs → lv_has ls 6 [(0, .ref h), (1, .int j5_L1), (2, .int r_76), (3, .int r_86)] → W p l e ({ frames := 2, cells := 0, slots := 0, locals := 62 }) s m args below meth c H locs 0 0 (MQ below (va_Qv (fun (u9 : SU) => (iR (u9.1 0) 0 3) ∧ (iR (u9.1 1) 0 1600) ∧ (iR (u9.1 2) 0 1600) ∧ (iR (u9.1 4) (-1) 1599)) (fun u => k_B (dC, dI) vwCl (tyy cI cJ cZ cM) A ((fun (u9 : SU) => [(h, .inr (7, oM r (upd (upd (upd (upd (upd i 3 (u9.1 0)) 4 (u9.1 1)) 5 (u9.1 2)) 6 (u9.1 3)) 12 (u9.1 4)) (vp_updL j 7 (u9.2.1 0)))), ((r 0), .inl (cI, 1800, .inl f0))]) u)) A) args s 0 0 A) (F0 m 176 ls []) := by
              intro   H locs ls hP hD hS hl
              refine lv_aload_n hx hb dX7_ahead_176 rfl (lv_at hl 0 rfl) ?_
              refine lv_iload_n hx hb dX7_ahead_177 rfl (lv_at hl 2 rfl) ?_
              have J_186 : ∀ (j186_S0 : Int32) (hj186_S0 : iR j186_S0 1 2) (H : Heap) (locs : List Loc) (ls : Array Slot), va_P (dC, dI) vwCl [(h, .inr (7, oM r (upd (upd (upd (upd (upd i 3 3) 4 j5_L1) 5 y_153) 6 0) 12 j135_M0_12) (vp_updL j 7 0))), ((r 0), .inl (cI, 1800, .inl f0))] H → va_D A [(h, .inr (7, oM r (upd (upd (upd (upd (upd i 3 3) 4 j5_L1) 5 y_153) 6 0) 12 j135_M0_12) (vp_updL j 7 0))), ((r 0), .inl (cI, 1800, .inl f0))] → va_S A s.heap H locs → lv_has ls 6 [(0, .ref h), (1, .int j5_L1), (2, .int r_76), (3, .int r_86)] → W p l e ({ frames := 2, cells := 0, slots := 0, locals := 62 }) s m args below meth c H locs 0 0 (MQ below (va_Qv (fun (u9 : SU) => (iR (u9.1 0) 0 3) ∧ (iR (u9.1 1) 0 1600) ∧ (iR (u9.1 2) 0 1600) ∧ (iR (u9.1 4) (-1) 1599)) (fun u => k_B (dC, dI) vwCl (tyy cI cJ cZ cM) A ((fun (u9 : SU) => [(h, .inr (7, oM r (upd (upd (upd (upd (upd i 3 (u9.1 0)) 4 (u9.1 1)) 5 (u9.1 2)) 6 (u9.1 3)) 12 (u9.1 4)) (vp_updL j 7 (u9.2.1 0)))), ((r 0), .inl (cI, 1800, .inl f0))]) u)) A) args s 0 0 A) (F0 m 186 ls [.int j186_S0, .ref h]) := by
                intro j186_S0 hj186_S0 H locs ls hP hD hS hl
                refine k_put (D := (dC, dI)) (ci := 7) (v := .int j186_S0) (C := RX7) (T := TX7) (N := 92) (ws' := [(h, .inr (7, oM r (upd (upd (upd (upd (upd i 3 j186_S0) 4 j5_L1) 5 y_153) 6 0) 12 j135_M0_12) (vp_updL j 7 0))), ((r 0), .inl (cI, 1800, .inl f0))]) hx hb hts hinX7 tyX7 tyX7_ok nmX7 hown hK hP hD hS 0 rfl rfl 3 (by decide) w_3 rfl rfl rfl rfl (Nat.le_of_ble_eq_true rfl) rfl dX7_ahead_186 (fun H locs hP hD hS => ?_)
                refine lv_iload_n hx hb dX7_ahead_189 rfl (lv_at hl 2 rfl) ?_
                have J_199 : ∀ (j199_S0 : Int32) (hj199_S0 : iR j199_S0 4 6) (H : Heap) (locs : List Loc) (ls : Array Slot), va_P (dC, dI) vwCl [(h, .inr (7, oM r (upd (upd (upd (upd (upd i 3 j186_S0) 4 j5_L1) 5 y_153) 6 0) 12 j135_M0_12) (vp_updL j 7 0))), ((r 0), .inl (cI, 1800, .inl f0))] H → va_D A [(h, .inr (7, oM r (upd (upd (upd (upd (upd i 3 j186_S0) 4 j5_L1) 5 y_153) 6 0) 12 j135_M0_12) (vp_updL j 7 0))), ((r 0), .inl (cI, 1800, .inl f0))] → va_S A s.heap H locs → lv_has ls 6 [(0, .ref h), (1, .int j5_L1), (2, .int r_76), (3, .int r_86)] → W p l e ({ frames := 2, cells := 0, slots := 0, locals := 62 }) s m args below meth c H locs 0 0 (MQ below (va_Qv (fun (u9 : SU) => (iR (u9.1 0) 0 3) ∧ (iR (u9.1 1) 0 1600) ∧ (iR (u9.1 2) 0 1600) ∧ (iR (u9.1 4) (-1) 1599)) (fun u => k_B (dC, dI) vwCl (tyy cI cJ cZ cM) A ((fun (u9 : SU) => [(h, .inr (7, oM r (upd (upd (upd (upd (upd i 3 (u9.1 0)) 4 (u9.1 1)) 5 (u9.1 2)) 6 (u9.1 3)) 12 (u9.1 4)) (vp_updL j 7 (u9.2.1 0)))), ((r 0), .inl (cI, 1800, .inl f0))]) u)) A) args s 0 0 A) (F0 m 199 ls [.int j199_S0]) := by
                  intro j199_S0 hj199_S0 H locs ls hP hD hS hl
                  refine lv_istore (lv' := [(4, .int j199_S0), (0, .ref h), (1, .int j5_L1), (2, .int r_76), (3, .int r_86)]) hx hb dX7_ahead_199 hl (by decide) rfl (fun ls hl => ?_)
                  refine lv_iconst (v := 0) hx hb dX7_ahead_201 (by decide +kernel) ?_
                  have J_204 : ∀ (n_204 : Nat) (j204_L1 : Int32) (j204_L5 : Int32) (j204_M0_6 : Int32) (j204_M0_7 : Int64) (j204_M0_12 : Int32) (hj204_L1 : iR j204_L1 0 1600) (hj204_M0_12 : iR j204_M0_12 (-1) 1599) (hm_204 : (1600 - j204_L1.toInt).toNat < n_204) (H : Heap) (locs : List Loc) (ls : Array Slot), va_P (dC, dI) vwCl [(h, .inr (7, oM r (upd (upd (upd (upd (upd i 3 j186_S0) 4 j5_L1) 5 y_153) 6 j204_M0_6) 12 j204_M0_12) (vp_updL j 7 j204_M0_7))), ((r 0), .inl (cI, 1800, .inl f0))] H → va_D A [(h, .inr (7, oM r (upd (upd (upd (upd (upd i 3 j186_S0) 4 j5_L1) 5 y_153) 6 j204_M0_6) 12 j204_M0_12) (vp_updL j 7 j204_M0_7))), ((r 0), .inl (cI, 1800, .inl f0))] → va_S A s.heap H locs → lv_has ls 6 [(0, .ref h), (1, .int j204_L1), (2, .int r_76), (3, .int r_86), (4, .int j199_S0), (5, .int j204_L5)] → W p l e ({ frames := 2, cells := 0, slots := 0, locals := 62 }) s m args below meth c H locs 0 0 (MQ below (va_Qv (fun (u9 : SU) => (iR (u9.1 0) 0 3) ∧ (iR (u9.1 1) 0 1600) ∧ (iR (u9.1 2) 0 1600) ∧ (iR (u9.1 4) (-1) 1599)) (fun u => k_B (dC, dI) vwCl (tyy cI cJ cZ cM) A ((fun (u9 : SU) => [(h, .inr (7, oM r (upd (upd (upd (upd (upd i 3 (u9.1 0)) 4 (u9.1 1)) 5 (u9.1 2)) 6 (u9.1 3)) 12 (u9.1 4)) (vp_updL j 7 (u9.2.1 0)))), ((r 0), .inl (cI, 1800, .inl f0))]) u)) A) args s 0 0 A) (F0 m 204 ls []) := by
                    intro n_204
                    induction n_204 with
                    | zero => intro j204_L1 j204_L5 j204_M0_6 j204_M0_7 j204_M0_12 hj204_L1 hj204_M0_12 hm_204; exact absurd hm_204 (Nat.not_lt_zero _)
                    | succ n_204 ih_204 =>
                      intro j204_L1 j204_L5 j204_M0_6 j204_M0_7 j204_M0_12 hj204_L1 hj204_M0_12 hm_204 H locs ls hP hD hS hl
                      refine lv_iload_n hx hb dX7_ahead_204 rfl (lv_at hl 1 rfl) ?_
                      refine lv_aload_n hx hb dX7_ahead_205 rfl (lv_at hl 0 rfl) ?_
                      refine k_get (D := (dC, dI)) (ci := 7) (v := .int (i 2)) (C := RX7) (T := TX7) (N := 92) hx hb hts hinX7 hown hK hP 0 rfl rfl 2 (by decide) w_1 rfl rfl dX7_ahead_206 ?_
                      have J_334 : ∀   (H : Heap) (locs : List Loc) (ls : Array Slot), va_P (dC, dI) vwCl [(h, .inr (7, oM r (upd (upd (upd (upd (upd i 3 j186_S0) 4 j5_L1) 5 y_153) 6 j204_M0_6) 12 j204_M0_12) (vp_updL j 7 j204_M0_7))), ((r 0), .inl (cI, 1800, .inl f0))] H → va_D A [(h, .inr (7, oM r (upd (upd (upd (upd (upd i 3 j186_S0) 4 j5_L1) 5 y_153) 6 j204_M0_6) 12 j204_M0_12) (vp_updL j 7 j204_M0_7))), ((r 0), .inl (cI, 1800, .inl f0))] → va_S A s.heap H locs → lv_has ls 6 [(0, .ref h), (1, .int j204_L1), (2, .int r_76), (4, .int j199_S0), (5, .int j204_L5)] → W p l e ({ frames := 2, cells := 0, slots := 0, locals := 62 }) s m args below meth c H locs 0 0 (MQ below (va_Qv (fun (u9 : SU) => (iR (u9.1 0) 0 3) ∧ (iR (u9.1 1) 0 1600) ∧ (iR (u9.1 2) 0 1600) ∧ (iR (u9.1 4) (-1) 1599)) (fun u => k_B (dC, dI) vwCl (tyy cI cJ cZ cM) A ((fun (u9 : SU) => [(h, .inr (7, oM r (upd (upd (upd (upd (upd i 3 (u9.1 0)) 4 (u9.1 1)) 5 (u9.1 2)) 6 (u9.1 3)) 12 (u9.1 4)) (vp_updL j 7 (u9.2.1 0)))), ((r 0), .inl (cI, 1800, .inl f0))]) u)) A) args s 0 0 A) (F0 m 334 ls []) := by
                        intro   H locs ls hP hD hS hl
                        refine lv_aload_n hx hb dX7_ahead_334 rfl (lv_at hl 0 rfl) ?_
                        refine lv_iload_n hx hb dX7_ahead_335 rfl (lv_at hl 1 rfl) ?_
                        refine k_put (D := (dC, dI)) (ci := 7) (v := .int j204_L1) (C := RX7) (T := TX7) (N := 92) (ws' := [(h, .inr (7, oM r (upd (upd (upd (upd (upd i 3 j186_S0) 4 j5_L1) 5 j204_L1) 6 j204_M0_6) 12 j204_M0_12) (vp_updL j 7 j204_M0_7))), ((r 0), .inl (cI, 1800, .inl f0))]) hx hb hts hinX7 tyX7 tyX7_ok nmX7 hown hK hP hD hS 0 rfl rfl 5 (by decide) w_0 rfl rfl rfl rfl (Nat.le_of_ble_eq_true rfl) rfl dX7_ahead_336 (fun H locs hP hD hS => ?_)
                        refine lv_iload_n hx hb dX7_ahead_339 rfl (lv_at hl 2 rfl) ?_
                        have J_380 : ∀ (j380_M0_12 : Int32) (hj380_M0_12 : iR j380_M0_12 (-1) 1599) (H : Heap) (locs : List Loc) (ls : Array Slot), va_P (dC, dI) vwCl [(h, .inr (7, oM r (upd (upd (upd (upd (upd i 3 j186_S0) 4 j5_L1) 5 j204_L1) 6 j204_M0_6) 12 j380_M0_12) (vp_updL j 7 j204_M0_7))), ((r 0), .inl (cI, 1800, .inl f0))] H → va_D A [(h, .inr (7, oM r (upd (upd (upd (upd (upd i 3 j186_S0) 4 j5_L1) 5 j204_L1) 6 j204_M0_6) 12 j380_M0_12) (vp_updL j 7 j204_M0_7))), ((r 0), .inl (cI, 1800, .inl f0))] → va_S A s.heap H locs → lv_has ls 6 [] → W p l e ({ frames := 2, cells := 0, slots := 0, locals := 62 }) s m args below meth c H locs 0 0 (MQ below (va_Qv (fun (u9 : SU) => (iR (u9.1 0) 0 3) ∧ (iR (u9.1 1) 0 1600) ∧ (iR (u9.1 2) 0 1600) ∧ (iR (u9.1 4) (-1) 1599)) (fun u => k_B (dC, dI) vwCl (tyy cI cJ cZ cM) A ((fun (u9 : SU) => [(h, .inr (7, oM r (upd (upd (upd (upd (upd i 3 (u9.1 0)) 4 (u9.1 1)) 5 (u9.1 2)) 6 (u9.1 3)) 12 (u9.1 4)) (vp_updL j 7 (u9.2.1 0)))), ((r 0), .inl (cI, 1800, .inl f0))]) u)) A) args s 0 0 A) (F0 m 380 ls []) := by
                          intro j380_M0_12 hj380_M0_12 H locs ls hP hD hS hl
                          exact k_rv B hP hD hS dX7_ahead_380 ((fun k9 => match k9 with | 0 => j186_S0 | 1 => j5_L1 | 2 => j204_L1 | 3 => j204_M0_6 | 4 => j380_M0_12 | _ => 0), (fun k9 => match k9 with | 0 => j204_M0_7 | _ => 0), (fun _ => (fun _ => 0)), (fun _ => (fun _ => 0)), (fun _ => 0)) [0, 1] rfl rfl (Nat.le_of_ble_eq_true rfl) (Nat.le_of_ble_eq_true rfl) ⟨(iR_w hj186_S0 (by decide +kernel)), (iR_w f_70_1 (by decide +kernel)), hj204_L1, hj380_M0_12⟩
                        refine lv_if_eq (tgt := 380) hx hb dX7_ahead_340 (by decide) (fun c_340 => ?_) (fun c_340 => ?_)
                        · have c_340 : r_76 = 0 := c_340
                          have f_380_1 : iR r_76 0 0 := iR_eqL c_340 g_76_0 (iR_c (n := 0) (by decide +kernel) (by decide +kernel)) (by decide +kernel)
                          exact J_380 j204_M0_12 hj204_M0_12 H locs ls hP hD hS (lv_sub hl [] rfl)
                        · have c_340 : ¬ r_76 = 0 := c_340
                          have f_343_1 : iR r_76 1 1 := iR_neL c_340 g_76_0 (iR_c (n := 0) (by decide +kernel) (by decide +kernel)) (by decide +kernel)
                          refine lv_iload hx hb dX7_ahead_343 (lv_at hl 4 rfl) ?_
                          refine lv_bipush (v := 8) hx hb dX7_ahead_345 (by decide +kernel) ?_
                          refine lv_icmp_gt (tgt := 380) hx hb dX7_ahead_347 (by decide) (fun c_347 => ?_) (fun c_347 => ?_)
                          · have c_347 : 8 < j204_L5 := c_347
                            have f_380_2 : iR j204_L5 9 2147483647 := iR_ltR c_347 (iR_c (n := 8) (by decide +kernel) (by decide +kernel)) (iR_top _) (by decide +kernel)
                            exact J_380 j204_M0_12 hj204_M0_12 H locs ls hP hD hS (lv_sub hl [] rfl)
                          · have c_347 : j204_L5 ≤ 8 := i_nlt c_347
                            have f_350_2 : iR j204_L5 (-2147483648) 8 := iR_leL c_347 (iR_top _) (iR_c (n := 8) (by decide +kernel) (by decide +kernel)) (by decide +kernel)
                            refine lv_aload_n hx hb dX7_ahead_350 rfl (lv_at hl 0 rfl) ?_
                            refine k_get (D := (dC, dI)) (ci := 7) (v := .int j204_M0_12) (C := RX7) (T := TX7) (N := 92) hx hb hts hinX7 hown hK hP 0 rfl rfl 12 (by decide) w_4 rfl rfl dX7_ahead_351 ?_
                            refine lv_aload_n hx hb dX7_ahead_354 rfl (lv_at hl 0 rfl) ?_
                            refine k_get (D := (dC, dI)) (ci := 7) (v := .int j5_L1) (C := RX7) (T := TX7) (N := 92) hx hb hts hinX7 hown hK hP 0 rfl rfl 4 (by decide) w_2 rfl rfl dX7_ahead_355 ?_
                            refine lv_iload hx hb dX7_ahead_358 (lv_at hl 3 rfl) ?_
                            refine lv_iadd hx hb dX7_ahead_360 ?_
                            refine lv_topi (fun y_360 ey_360 => ?_)
                            have f_360_3 : iR y_360 4 1605 := iR_add ey_360 f_70_1 hj199_S0 (by decide +kernel)
                            refine lv_icmp_ne (tgt := 380) hx hb dX7_ahead_361 (by decide) (fun c_361 => ?_) (fun c_361 => ?_)
                            · have c_361 : ¬ j204_M0_12 = y_360 := c_361
                              exact J_380 j204_M0_12 hj204_M0_12 H locs ls hP hD hS (lv_sub hl [] rfl)
                            · have c_361 : j204_M0_12 = y_360 := c_361
                              have f_364_4 : iR j204_M0_12 4 1599 := iR_eqL c_361 hj204_M0_12 f_360_3 (by decide +kernel)
                              have f_364_5 : iR y_360 4 1599 := iR_eqR c_361 hj204_M0_12 f_360_3 (by decide +kernel)
                              refine lv_aload_n hx hb dX7_ahead_364 rfl (lv_at hl 0 rfl) ?_
                              refine lv_aload_n hx hb dX7_ahead_365 rfl (lv_at hl 0 rfl) ?_
                              refine k_get (D := (dC, dI)) (ci := 7) (v := .long j204_M0_7) (C := RX7) (T := TX7) (N := 92) hx hb hts hinX7 hown hK hP 0 rfl rfl 7 (by decide) w_7 rfl rfl dX7_ahead_366 ?_
                              refine k_ci (wc := []) (wr := [(h, .inr (7, oM r (upd (upd (upd (upd (upd i 3 j186_S0) 4 j5_L1) 5 j204_L1) 6 j204_M0_6) 12 j204_M0_12) (vp_updL j 7 j204_M0_7))), ((r 0), .inl (cI, 1800, .inl f0))]) (fun hPc hDc hFc => va_runV (As := [.long j204_M0_7]) (rest := []) ⟨hx, hb, hml, hown, hts⟩ (s_X7_isOwn_v1 l dC dI cI cJ cZ cM h j204_M0_7 H.size) (cwV 1 hts gX7_ahead_X7_isOwn rfl rfl rfl (by decide +kernel) ⟨(Nat.le_of_ble_eq_true rfl), (Nat.le_of_ble_eq_true rfl)⟩) (k_pV hPc hDc hK hN hC hS hFc hP (q0 := 0) (ci := 7) rfl rfl) rfl rfl hl.1 rfl (lv_room (Nat.le_of_ble_eq_true rfl)) dX7_ahead_369 ⟨(Nat.le_of_ble_eq_true rfl), (Nat.le_of_ble_eq_true rfl)⟩) hP hD hS hA [] [0, 1] rfl rfl rfl rfl (by decide) (fun _ => rfl) 0 0 rfl rfl (fun r_369 u_369 H locs hw hP hD hS => ?_)
                              obtain g_369_0 := hw
                              have hP : va_P (dC, dI) vwCl [(h, .inr (7, oM r (upd (upd (upd (upd (upd i 3 j186_S0) 4 j5_L1) 5 j204_L1) 6 j204_M0_6) 12 j204_M0_12) (vp_updL j 7 j204_M0_7))), ((r 0), .inl (cI, 1800, .inl f0))] H := hP
                              have hD : va_D A [(h, .inr (7, oM r (upd (upd (upd (upd (upd i 3 j186_S0) 4 j5_L1) 5 j204_L1) 6 j204_M0_6) 12 j204_M0_12) (vp_updL j 7 j204_M0_7))), ((r 0), .inl (cI, 1800, .inl f0))] := hD
                              refine lv_if_eq (tgt := 380) hx hb dX7_ahead_372 (by decide) (fun c_372 => ?_) (fun c_372 => ?_)
                              · have c_372 : r_369 = 0 := c_372
                                have f_380_6 : iR r_369 0 0 := iR_eqL c_372 g_369_0 (iR_c (n := 0) (by decide +kernel) (by decide +kernel)) (by decide +kernel)
                                exact J_380 j204_M0_12 (iR_w f_364_4 (by decide +kernel)) H locs ls hP hD hS (lv_sub hl [] rfl)
                              · have c_372 : ¬ r_369 = 0 := c_372
                                have f_375_6 : iR r_369 1 1 := iR_neL c_372 g_369_0 (iR_c (n := 0) (by decide +kernel) (by decide +kernel)) (by decide +kernel)
                                refine lv_aload_n hx hb dX7_ahead_375 rfl (lv_at hl 0 rfl) ?_
                                refine lv_iconst (v := (-1)) hx hb dX7_ahead_376 (by decide +kernel) ?_
                                refine k_put (D := (dC, dI)) (ci := 7) (v := .int (-1)) (C := RX7) (T := TX7) (N := 92) (ws' := [(h, .inr (7, oM r (upd (upd (upd (upd (upd i 3 j186_S0) 4 j5_L1) 5 j204_L1) 6 j204_M0_6) 12 (-1)) (vp_updL j 7 j204_M0_7))), ((r 0), .inl (cI, 1800, .inl f0))]) hx hb hts hinX7 tyX7 tyX7_ok nmX7 hown hK hP hD hS 0 rfl rfl 12 (by decide) w_4 rfl rfl rfl rfl (Nat.le_of_ble_eq_true rfl) rfl dX7_ahead_377 (fun H locs hP hD hS => ?_)
                                exact J_380 (-1) (iR_c (n := (-1)) (by decide +kernel) (by decide +kernel)) H locs ls hP hD hS (lv_sub hl [] rfl)
                      refine lv_icmp_ge (tgt := 334) hx hb dX7_ahead_209 (by decide) (fun c_209 => ?_) (fun c_209 => ?_)
                      · have c_209 : (i 2) ≤ j204_L1 := c_209
                        have f_334_1 : iR j204_L1 1 1600 := iR_leR c_209 f_70_2 hj204_L1 (by decide +kernel)
                        exact J_334   H locs ls hP hD hS (lv_sub hl [0, 1, 2, 4, 5] rfl)
                      · have c_209 : j204_L1 < (i 2) := i_nle c_209
                        have f_212_1 : iR j204_L1 0 1599 := iR_ltL c_209 hj204_L1 f_70_2 (by decide +kernel)
                        refine lv_iload_n hx hb dX7_ahead_212 rfl (lv_at hl 2 rfl) ?_
                        have J_243 : ∀  (k243_0 : iR (f0 j204_L1.toNatClampNeg) 0 255) (H : Heap) (locs : List Loc) (ls : Array Slot), va_P (dC, dI) vwCl [(h, .inr (7, oM r (upd (upd (upd (upd (upd i 3 j186_S0) 4 j5_L1) 5 y_153) 6 j204_M0_6) 12 j204_M0_12) (vp_updL j 7 j204_M0_7))), ((r 0), .inl (cI, 1800, .inl f0))] H → va_D A [(h, .inr (7, oM r (upd (upd (upd (upd (upd i 3 j186_S0) 4 j5_L1) 5 y_153) 6 j204_M0_6) 12 j204_M0_12) (vp_updL j 7 j204_M0_7))), ((r 0), .inl (cI, 1800, .inl f0))] → va_S A s.heap H locs → lv_has ls 6 [(0, .ref h), (1, .int j204_L1), (2, .int r_76), (3, .int r_86), (4, .int j199_S0), (5, .int j204_L5)] → W p l e ({ frames := 2, cells := 0, slots := 0, locals := 62 }) s m args below meth c H locs 0 0 (MQ below (va_Qv (fun (u9 : SU) => (iR (u9.1 0) 0 3) ∧ (iR (u9.1 1) 0 1600) ∧ (iR (u9.1 2) 0 1600) ∧ (iR (u9.1 4) (-1) 1599)) (fun u => k_B (dC, dI) vwCl (tyy cI cJ cZ cM) A ((fun (u9 : SU) => [(h, .inr (7, oM r (upd (upd (upd (upd (upd i 3 (u9.1 0)) 4 (u9.1 1)) 5 (u9.1 2)) 6 (u9.1 3)) 12 (u9.1 4)) (vp_updL j 7 (u9.2.1 0)))), ((r 0), .inl (cI, 1800, .inl f0))]) u)) A) args s 0 0 A) (F0 m 243 ls []) := by
                          intro  k243_0 H locs ls hP hD hS hl
                          refine lv_iload hx hb dX7_ahead_243 (lv_at hl 5 rfl) ?_
                          refine lv_iload hx hb dX7_ahead_245 (lv_at hl 4 rfl) ?_
                          have J_263 : ∀ (j263_M0_12 : Int32) (hj263_M0_12 : iR j263_M0_12 (-1) 1599) (H : Heap) (locs : List Loc) (ls : Array Slot), va_P (dC, dI) vwCl [(h, .inr (7, oM r (upd (upd (upd (upd (upd i 3 j186_S0) 4 j5_L1) 5 y_153) 6 j204_M0_6) 12 j263_M0_12) (vp_updL j 7 j204_M0_7))), ((r 0), .inl (cI, 1800, .inl f0))] H → va_D A [(h, .inr (7, oM r (upd (upd (upd (upd (upd i 3 j186_S0) 4 j5_L1) 5 y_153) 6 j204_M0_6) 12 j263_M0_12) (vp_updL j 7 j204_M0_7))), ((r 0), .inl (cI, 1800, .inl f0))] → va_S A s.heap H locs → lv_has ls 6 [(0, .ref h), (1, .int j204_L1), (2, .int r_76), (3, .int r_86), (4, .int j199_S0), (5, .int j204_L5)] → W p l e ({ frames := 2, cells := 0, slots := 0, locals := 62 }) s m args below meth c H locs 0 0 (MQ below (va_Qv (fun (u9 : SU) => (iR (u9.1 0) 0 3) ∧ (iR (u9.1 1) 0 1600) ∧ (iR (u9.1 2) 0 1600) ∧ (iR (u9.1 4) (-1) 1599)) (fun u => k_B (dC, dI) vwCl (tyy cI cJ cZ cM) A ((fun (u9 : SU) => [(h, .inr (7, oM r (upd (upd (upd (upd (upd i 3 (u9.1 0)) 4 (u9.1 1)) 5 (u9.1 2)) 6 (u9.1 3)) 12 (u9.1 4)) (vp_updL j 7 (u9.2.1 0)))), ((r 0), .inl (cI, 1800, .inl f0))]) u)) A) args s 0 0 A) (F0 m 263 ls []) := by
                            intro j263_M0_12 hj263_M0_12 H locs ls hP hD hS hl
                            refine lv_iload hx hb dX7_ahead_263 (lv_at hl 5 rfl) ?_
                            refine lv_bipush (v := 8) hx hb dX7_ahead_265 (by decide +kernel) ?_
                            have J_293 : ∀ (j293_M0_7 : Int64)  (H : Heap) (locs : List Loc) (ls : Array Slot), va_P (dC, dI) vwCl [(h, .inr (7, oM r (upd (upd (upd (upd (upd i 3 j186_S0) 4 j5_L1) 5 y_153) 6 j204_M0_6) 12 j263_M0_12) (vp_updL j 7 j293_M0_7))), ((r 0), .inl (cI, 1800, .inl f0))] H → va_D A [(h, .inr (7, oM r (upd (upd (upd (upd (upd i 3 j186_S0) 4 j5_L1) 5 y_153) 6 j204_M0_6) 12 j263_M0_12) (vp_updL j 7 j293_M0_7))), ((r 0), .inl (cI, 1800, .inl f0))] → va_S A s.heap H locs → lv_has ls 6 [(0, .ref h), (1, .int j204_L1), (2, .int r_76), (3, .int r_86), (4, .int j199_S0), (5, .int j204_L5)] → W p l e ({ frames := 2, cells := 0, slots := 0, locals := 62 }) s m args below meth c H locs 0 0 (MQ below (va_Qv (fun (u9 : SU) => (iR (u9.1 0) 0 3) ∧ (iR (u9.1 1) 0 1600) ∧ (iR (u9.1 2) 0 1600) ∧ (iR (u9.1 4) (-1) 1599)) (fun u => k_B (dC, dI) vwCl (tyy cI cJ cZ cM) A ((fun (u9 : SU) => [(h, .inr (7, oM r (upd (upd (upd (upd (upd i 3 (u9.1 0)) 4 (u9.1 1)) 5 (u9.1 2)) 6 (u9.1 3)) 12 (u9.1 4)) (vp_updL j 7 (u9.2.1 0)))), ((r 0), .inl (cI, 1800, .inl f0))]) u)) A) args s 0 0 A) (F0 m 293 ls []) := by
                              intro j293_M0_7  H locs ls hP hD hS hl
                              refine lv_iload hx hb dX7_ahead_293 (lv_at hl 5 rfl) ?_
                              refine lv_iload hx hb dX7_ahead_295 (lv_at hl 4 rfl) ?_
                              have J_325 : ∀ (j325_M0_6 : Int32)  (H : Heap) (locs : List Loc) (ls : Array Slot), va_P (dC, dI) vwCl [(h, .inr (7, oM r (upd (upd (upd (upd (upd i 3 j186_S0) 4 j5_L1) 5 y_153) 6 j325_M0_6) 12 j263_M0_12) (vp_updL j 7 j293_M0_7))), ((r 0), .inl (cI, 1800, .inl f0))] H → va_D A [(h, .inr (7, oM r (upd (upd (upd (upd (upd i 3 j186_S0) 4 j5_L1) 5 y_153) 6 j325_M0_6) 12 j263_M0_12) (vp_updL j 7 j293_M0_7))), ((r 0), .inl (cI, 1800, .inl f0))] → va_S A s.heap H locs → lv_has ls 6 [(0, .ref h), (1, .int j204_L1), (2, .int r_76), (3, .int r_86), (4, .int j199_S0), (5, .int j204_L5)] → W p l e ({ frames := 2, cells := 0, slots := 0, locals := 62 }) s m args below meth c H locs 0 0 (MQ below (va_Qv (fun (u9 : SU) => (iR (u9.1 0) 0 3) ∧ (iR (u9.1 1) 0 1600) ∧ (iR (u9.1 2) 0 1600) ∧ (iR (u9.1 4) (-1) 1599)) (fun u => k_B (dC, dI) vwCl (tyy cI cJ cZ cM) A ((fun (u9 : SU) => [(h, .inr (7, oM r (upd (upd (upd (upd (upd i 3 (u9.1 0)) 4 (u9.1 1)) 5 (u9.1 2)) 6 (u9.1 3)) 12 (u9.1 4)) (vp_updL j 7 (u9.2.1 0)))), ((r 0), .inl (cI, 1800, .inl f0))]) u)) A) args s 0 0 A) (F0 m 325 ls []) := by
                                intro j325_M0_6  H locs ls hP hD hS hl
                                obtain ⟨y_325, ey_325⟩ : ∃ y : Int32, y = j204_L5 + 1 := ⟨_, rfl⟩
                                refine lv_iinc (v := y_325) (lv' := [(5, .int y_325), (0, .ref h), (1, .int j204_L1), (2, .int r_76), (3, .int r_86), (4, .int j199_S0)]) hx hb dX7_ahead_325 hl (k := 5) rfl ey_325.symm (by decide) rfl (fun ls hl => ?_)
                                obtain ⟨y_328, ey_328⟩ : ∃ y : Int32, y = j204_L1 + 1 := ⟨_, rfl⟩
                                refine lv_iinc (v := y_328) (lv' := [(1, .int y_328), (5, .int y_325), (0, .ref h), (2, .int r_76), (3, .int r_86), (4, .int j199_S0)]) hx hb dX7_ahead_328 hl (k := 2) rfl ey_328.symm (by decide) rfl (fun ls hl => ?_)
                                have f_328_1 : iR y_328 1 1600 := iR_add ey_328 f_212_1 (iR_c (n := 1) (by decide +kernel) (by decide +kernel)) (by decide +kernel)
                                refine lv_goto (tgt := 204) hx hb dX7_ahead_331 (by decide) ?_
                                exact ih_204 y_328 y_325 j325_M0_6 j293_M0_7 j263_M0_12 (iR_w f_328_1 (by decide +kernel)) hj263_M0_12 (m_up (B := 1600) hm_204 ey_328 f_212_1 (by decide +kernel)) H locs ls hP hD hS (lv_sub hl [2, 0, 3, 4, 5, 1] rfl)
                              refine lv_icmp_ge (tgt := 325) hx hb dX7_ahead_297 (by decide) (fun c_297 => ?_) (fun c_297 => ?_)
                              · have c_297 : j199_S0 ≤ j204_L5 := c_297
                                have f_325_1 : iR j204_L5 4 2147483647 := iR_leR c_297 hj199_S0 (iR_top _) (by decide +kernel)
                                exact J_325 j204_M0_6  H locs ls hP hD hS (lv_sub hl [0, 1, 2, 3, 4, 5] rfl)
                              · have c_297 : j204_L5 < j199_S0 := i_nle c_297
                                have f_300_1 : iR j204_L5 (-2147483648) 5 := iR_ltL c_297 (iR_top _) hj199_S0 (by decide +kernel)
                                refine lv_iload_n hx hb dX7_ahead_300 rfl (lv_at hl 3 rfl) ?_
                                refine lv_if_eq (tgt := 325) hx hb dX7_ahead_301 (by decide) (fun c_301 => ?_) (fun c_301 => ?_)
                                · have c_301 : r_86 = 0 := c_301
                                  have f_325_2 : iR r_86 0 0 := iR_eqL c_301 g_86_0 (iR_c (n := 0) (by decide +kernel) (by decide +kernel)) (by decide +kernel)
                                  exact J_325 j204_M0_6  H locs ls hP hD hS (lv_sub hl [0, 1, 2, 3, 4, 5] rfl)
                                · have c_301 : ¬ r_86 = 0 := c_301
                                  have f_304_2 : iR r_86 1 1 := iR_neL c_301 g_86_0 (iR_c (n := 0) (by decide +kernel) (by decide +kernel)) (by decide +kernel)
                                  refine lv_aload_n hx hb dX7_ahead_304 rfl (lv_at hl 0 rfl) ?_
                                  refine lv_bipush (v := 10) hx hb dX7_ahead_305 (by decide +kernel) ?_
                                  refine lv_aload_n hx hb dX7_ahead_307 rfl (lv_at hl 0 rfl) ?_
                                  refine k_get (D := (dC, dI)) (ci := 7) (v := .int j204_M0_6) (C := RX7) (T := TX7) (N := 92) hx hb hts hinX7 hown hK hP 0 rfl rfl 6 (by decide) w_6 rfl rfl dX7_ahead_308 ?_
                                  refine lv_imul hx hb dX7_ahead_311 ?_
                                  refine lv_topi (fun y_311 ey_311 => ?_)
                                  refine lv_aload_n hx hb dX7_ahead_312 rfl (lv_at hl 0 rfl) ?_
                                  refine k_get (D := (dC, dI)) (ci := 7) (v := .ref (r 0)) (C := RX7) (T := TX7) (N := 92) hx hb hts hinX7 hown hK hP 0 rfl rfl 0 (by decide) w_5 rfl rfl dX7_ahead_313 ?_
                                  refine lv_iload_n hx hb dX7_ahead_316 rfl (lv_at hl 1 rfl) ?_
                                  refine va_iald hx hb hK hP 1 0 rfl rfl (iR_vp f_212_1 (by decide +kernel)) dX7_ahead_317 ?_
                                  refine lv_iadd hx hb dX7_ahead_318 ?_
                                  refine lv_topi (fun y_318 ey_318 => ?_)
                                  refine lv_bipush (v := 48) hx hb dX7_ahead_319 (by decide +kernel) ?_
                                  refine lv_isub hx hb dX7_ahead_321 ?_
                                  refine lv_topi (fun y_321 ey_321 => ?_)
                                  refine k_put (D := (dC, dI)) (ci := 7) (v := .int y_321) (C := RX7) (T := TX7) (N := 92) (ws' := [(h, .inr (7, oM r (upd (upd (upd (upd (upd i 3 j186_S0) 4 j5_L1) 5 y_153) 6 y_321) 12 j263_M0_12) (vp_updL j 7 j293_M0_7))), ((r 0), .inl (cI, 1800, .inl f0))]) hx hb hts hinX7 tyX7 tyX7_ok nmX7 hown hK hP hD hS 0 rfl rfl 6 (by decide) w_6 rfl rfl rfl rfl (Nat.le_of_ble_eq_true rfl) rfl dX7_ahead_322 (fun H locs hP hD hS => ?_)
                                  exact J_325 y_321  H locs ls hP hD hS (lv_sub hl [0, 1, 2, 3, 4, 5] rfl)
                            refine lv_icmp_ge (tgt := 293) hx hb dX7_ahead_267 (by decide) (fun c_267 => ?_) (fun c_267 => ?_)
                            · have c_267 : 8 ≤ j204_L5 := c_267
                              have f_293_1 : iR j204_L5 8 2147483647 := iR_leR c_267 (iR_c (n := 8) (by decide +kernel) (by decide +kernel)) (iR_top _) (by decide +kernel)
                              exact J_293 j204_M0_7  H locs ls hP hD hS (lv_sub hl [0, 1, 2, 3, 4, 5] rfl)
                            · have c_267 : j204_L5 < 8 := i_nle c_267
                              have f_270_1 : iR j204_L5 (-2147483648) 7 := iR_ltL c_267 (iR_top _) (iR_c (n := 8) (by decide +kernel) (by decide +kernel)) (by decide +kernel)
                              refine lv_iload_n hx hb dX7_ahead_270 rfl (lv_at hl 2 rfl) ?_
                              refine lv_if_eq (tgt := 293) hx hb dX7_ahead_271 (by decide) (fun c_271 => ?_) (fun c_271 => ?_)
                              · have c_271 : r_76 = 0 := c_271
                                have f_293_2 : iR r_76 0 0 := iR_eqL c_271 g_76_0 (iR_c (n := 0) (by decide +kernel) (by decide +kernel)) (by decide +kernel)
                                exact J_293 j204_M0_7  H locs ls hP hD hS (lv_sub hl [0, 1, 2, 3, 4, 5] rfl)
                              · have c_271 : ¬ r_76 = 0 := c_271
                                have f_274_2 : iR r_76 1 1 := iR_neL c_271 g_76_0 (iR_c (n := 0) (by decide +kernel) (by decide +kernel)) (by decide +kernel)
                                refine lv_aload_n hx hb dX7_ahead_274 rfl (lv_at hl 0 rfl) ?_
                                refine lv_aload_n hx hb dX7_ahead_275 rfl (lv_at hl 0 rfl) ?_
                                refine k_get (D := (dC, dI)) (ci := 7) (v := .long j204_M0_7) (C := RX7) (T := TX7) (N := 92) hx hb hts hinX7 hown hK hP 0 rfl rfl 7 (by decide) w_7 rfl rfl dX7_ahead_276 ?_
                                refine lv_bipush (v := 8) hx hb dX7_ahead_279 (by decide +kernel) ?_
                                refine lv_lshl (v := j204_M0_7 <<< ((8 : Int32).toInt64 &&& 63)) hx hb dX7_ahead_281 rfl ?_
                                refine lv_topl (fun y_281 ey_281 => ?_)
                                refine lv_aload_n hx hb dX7_ahead_282 rfl (lv_at hl 0 rfl) ?_
                                refine k_get (D := (dC, dI)) (ci := 7) (v := .ref (r 0)) (C := RX7) (T := TX7) (N := 92) hx hb hts hinX7 hown hK hP 0 rfl rfl 0 (by decide) w_5 rfl rfl dX7_ahead_283 ?_
                                refine lv_iload_n hx hb dX7_ahead_286 rfl (lv_at hl 1 rfl) ?_
                                refine va_iald hx hb hK hP 1 0 rfl rfl (iR_vp f_212_1 (by decide +kernel)) dX7_ahead_287 ?_
                                refine lv_i2l (v := (f0 j204_L1.toNatClampNeg).toInt64) hx hb dX7_ahead_288 rfl ?_
                                refine lv_topl (fun y_288 ey_288 => ?_)
                                refine lv_lor hx hb dX7_ahead_289 ?_
                                refine lv_topl (fun y_289 ey_289 => ?_)
                                refine k_put (D := (dC, dI)) (ci := 7) (v := .long y_289) (C := RX7) (T := TX7) (N := 92) (ws' := [(h, .inr (7, oM r (upd (upd (upd (upd (upd i 3 j186_S0) 4 j5_L1) 5 y_153) 6 j204_M0_6) 12 j263_M0_12) (vp_updL j 7 y_289))), ((r 0), .inl (cI, 1800, .inl f0))]) hx hb hts hinX7 tyX7 tyX7_ok nmX7 hown hK hP hD hS 0 rfl rfl 7 (by decide) w_7 rfl rfl rfl rfl (Nat.le_of_ble_eq_true rfl) rfl dX7_ahead_290 (fun H locs hP hD hS => ?_)
                                exact J_293 y_289  H locs ls hP hD hS (lv_sub hl [0, 1, 2, 3, 4, 5] rfl)
                          refine lv_icmp_ne (tgt := 263) hx hb dX7_ahead_247 (by decide) (fun c_247 => ?_) (fun c_247 => ?_)
                          · have c_247 : ¬ j204_L5 = j199_S0 := c_247
                            exact J_263 j204_M0_12 hj204_M0_12 H locs ls hP hD hS (lv_sub hl [0, 1, 2, 3, 4, 5] rfl)
                          · have c_247 : j204_L5 = j199_S0 := c_247
                            have f_250_1 : iR j204_L5 4 6 := iR_eqL c_247 (iR_top _) hj199_S0 (by decide +kernel)
                            refine lv_aload_n hx hb dX7_ahead_250 rfl (lv_at hl 0 rfl) ?_
                            refine k_get (D := (dC, dI)) (ci := 7) (v := .int j204_M0_12) (C := RX7) (T := TX7) (N := 92) hx hb hts hinX7 hown hK hP 0 rfl rfl 12 (by decide) w_4 rfl rfl dX7_ahead_251 ?_
                            refine lv_iconst (v := (-1)) hx hb dX7_ahead_254 (by decide +kernel) ?_
                            refine lv_icmp_ne (tgt := 263) hx hb dX7_ahead_255 (by decide) (fun c_255 => ?_) (fun c_255 => ?_)
                            · have c_255 : ¬ j204_M0_12 = (-1) := c_255
                              have f_263_2 : iR j204_M0_12 0 1599 := iR_neL c_255 hj204_M0_12 (iR_c (n := (-1)) (by decide +kernel) (by decide +kernel)) (by decide +kernel)
                              exact J_263 j204_M0_12 (iR_w f_263_2 (by decide +kernel)) H locs ls hP hD hS (lv_sub hl [0, 1, 2, 3, 4, 5] rfl)
                            · have c_255 : j204_M0_12 = (-1) := c_255
                              have f_258_2 : iR j204_M0_12 (-1) (-1) := iR_eqL c_255 hj204_M0_12 (iR_c (n := (-1)) (by decide +kernel) (by decide +kernel)) (by decide +kernel)
                              refine lv_aload_n hx hb dX7_ahead_258 rfl (lv_at hl 0 rfl) ?_
                              refine lv_iload_n hx hb dX7_ahead_259 rfl (lv_at hl 1 rfl) ?_
                              refine k_put (D := (dC, dI)) (ci := 7) (v := .int j204_L1) (C := RX7) (T := TX7) (N := 92) (ws' := [(h, .inr (7, oM r (upd (upd (upd (upd (upd i 3 j186_S0) 4 j5_L1) 5 y_153) 6 j204_M0_6) 12 j204_L1) (vp_updL j 7 j204_M0_7))), ((r 0), .inl (cI, 1800, .inl f0))]) hx hb hts hinX7 tyX7 tyX7_ok nmX7 hown hK hP hD hS 0 rfl rfl 12 (by decide) w_4 rfl rfl rfl rfl (Nat.le_of_ble_eq_true rfl) rfl dX7_ahead_260 (fun H locs hP hD hS => ?_)
                              exact J_263 j204_L1 (iR_w f_212_1 (by decide +kernel)) H locs ls hP hD hS (lv_sub hl [0, 1, 2, 3, 4, 5] rfl)
                        refine lv_if_eq (tgt := 231) hx hb dX7_ahead_213 (by decide) (fun c_213 => ?_) (fun c_213 => ?_)
                        · have c_213 : r_76 = 0 := c_213
                          have f_231_2 : iR r_76 0 0 := iR_eqL c_213 g_76_0 (iR_c (n := 0) (by decide +kernel) (by decide +kernel)) (by decide +kernel)
                          refine lv_aload_n hx hb dX7_ahead_231 rfl (lv_at hl 0 rfl) ?_
                          refine k_get (D := (dC, dI)) (ci := 7) (v := .ref (r 0)) (C := RX7) (T := TX7) (N := 92) hx hb hts hinX7 hown hK hP 0 rfl rfl 0 (by decide) w_5 rfl rfl dX7_ahead_232 ?_
                          refine lv_iload_n hx hb dX7_ahead_235 rfl (lv_at hl 1 rfl) ?_
                          refine va_iald hx hb hK hP 1 0 rfl rfl (iR_vp f_212_1 (by decide +kernel)) dX7_ahead_236 ?_
                          have f_236_3 : iR (f0 j204_L1.toNatClampNeg) 0 255 := hf0 _
                          refine k_ci (wc := []) (wr := [(h, .inr (7, oM r (upd (upd (upd (upd (upd i 3 j186_S0) 4 j5_L1) 5 y_153) 6 j204_M0_6) 12 j204_M0_12) (vp_updL j 7 j204_M0_7))), ((r 0), .inl (cI, 1800, .inl f0))]) (fun hPc hDc hFc => va_runS (As := [.int (f0 j204_L1.toNatClampNeg)]) (rest := []) ⟨hx, hb, hml, hown, hts⟩ (s_X7_isDigit_v0 l dC dI cI cJ cZ cM (f0 j204_L1.toNatClampNeg) H.size) (va_cwS 1 hts gX7_ahead_X7_isDigit rfl rfl rfl (by decide +kernel) ⟨(Nat.le_of_ble_eq_true rfl), (Nat.le_of_ble_eq_true rfl)⟩) (k_pS hPc hDc hK hN hC hS hFc) rfl rfl hl.1 rfl (lv_room (Nat.le_of_ble_eq_true rfl)) dX7_ahead_237 ⟨(Nat.le_of_ble_eq_true rfl), (Nat.le_of_ble_eq_true rfl)⟩) hP hD hS hA [] [0, 1] rfl rfl rfl rfl (by decide) (fun _ => rfl) 0 0 rfl rfl (fun r_237 u_237 H locs hw hP hD hS => ?_)
                          obtain g_237_0 := hw
                          have hP : va_P (dC, dI) vwCl [(h, .inr (7, oM r (upd (upd (upd (upd (upd i 3 j186_S0) 4 j5_L1) 5 y_153) 6 j204_M0_6) 12 j204_M0_12) (vp_updL j 7 j204_M0_7))), ((r 0), .inl (cI, 1800, .inl f0))] H := hP
                          have hD : va_D A [(h, .inr (7, oM r (upd (upd (upd (upd (upd i 3 j186_S0) 4 j5_L1) 5 y_153) 6 j204_M0_6) 12 j204_M0_12) (vp_updL j 7 j204_M0_7))), ((r 0), .inl (cI, 1800, .inl f0))] := hD
                          refine lv_if_eq (tgt := 334) hx hb dX7_ahead_240 (by decide) (fun c_240 => ?_) (fun c_240 => ?_)
                          · have c_240 : r_237 = 0 := c_240
                            have f_334_4 : iR r_237 0 0 := iR_eqL c_240 g_237_0 (iR_c (n := 0) (by decide +kernel) (by decide +kernel)) (by decide +kernel)
                            exact J_334   H locs ls hP hD hS (lv_sub hl [0, 1, 2, 4, 5] rfl)
                          · have c_240 : ¬ r_237 = 0 := c_240
                            have f_243_4 : iR r_237 1 1 := iR_neL c_240 g_237_0 (iR_c (n := 0) (by decide +kernel) (by decide +kernel)) (by decide +kernel)
                            exact J_243  f_236_3 H locs ls hP hD hS (lv_sub hl [0, 1, 2, 3, 4, 5] rfl)
                        · have c_213 : ¬ r_76 = 0 := c_213
                          have f_216_2 : iR r_76 1 1 := iR_neL c_213 g_76_0 (iR_c (n := 0) (by decide +kernel) (by decide +kernel)) (by decide +kernel)
                          refine lv_aload_n hx hb dX7_ahead_216 rfl (lv_at hl 0 rfl) ?_
                          refine k_get (D := (dC, dI)) (ci := 7) (v := .ref (r 0)) (C := RX7) (T := TX7) (N := 92) hx hb hts hinX7 hown hK hP 0 rfl rfl 0 (by decide) w_5 rfl rfl dX7_ahead_217 ?_
                          refine lv_iload_n hx hb dX7_ahead_220 rfl (lv_at hl 1 rfl) ?_
                          refine va_iald hx hb hK hP 1 0 rfl rfl (iR_vp f_212_1 (by decide +kernel)) dX7_ahead_221 ?_
                          have f_221_3 : iR (f0 j204_L1.toNatClampNeg) 0 255 := hf0 _
                          refine k_ci (wc := []) (wr := [(h, .inr (7, oM r (upd (upd (upd (upd (upd i 3 j186_S0) 4 j5_L1) 5 y_153) 6 j204_M0_6) 12 j204_M0_12) (vp_updL j 7 j204_M0_7))), ((r 0), .inl (cI, 1800, .inl f0))]) (fun hPc hDc hFc => va_runS (As := [.int (f0 j204_L1.toNatClampNeg)]) (rest := []) ⟨hx, hb, hml, hown, hts⟩ (s_X7_isLetter_v0 l dC dI cI cJ cZ cM (f0 j204_L1.toNatClampNeg) H.size) (va_cwS 1 hts gX7_ahead_X7_isLetter rfl rfl rfl (by decide +kernel) ⟨(Nat.le_of_ble_eq_true rfl), (Nat.le_of_ble_eq_true rfl)⟩) (k_pS hPc hDc hK hN hC hS hFc) rfl rfl hl.1 rfl (lv_room (Nat.le_of_ble_eq_true rfl)) dX7_ahead_222 ⟨(Nat.le_of_ble_eq_true rfl), (Nat.le_of_ble_eq_true rfl)⟩) hP hD hS hA [] [0, 1] rfl rfl rfl rfl (by decide) (fun _ => rfl) 0 0 rfl rfl (fun r_222 u_222 H locs hw hP hD hS => ?_)
                          obtain g_222_0 := hw
                          have hP : va_P (dC, dI) vwCl [(h, .inr (7, oM r (upd (upd (upd (upd (upd i 3 j186_S0) 4 j5_L1) 5 y_153) 6 j204_M0_6) 12 j204_M0_12) (vp_updL j 7 j204_M0_7))), ((r 0), .inl (cI, 1800, .inl f0))] H := hP
                          have hD : va_D A [(h, .inr (7, oM r (upd (upd (upd (upd (upd i 3 j186_S0) 4 j5_L1) 5 y_153) 6 j204_M0_6) 12 j204_M0_12) (vp_updL j 7 j204_M0_7))), ((r 0), .inl (cI, 1800, .inl f0))] := hD
                          refine lv_if_eq (tgt := 334) hx hb dX7_ahead_225 (by decide) (fun c_225 => ?_) (fun c_225 => ?_)
                          · have c_225 : r_222 = 0 := c_225
                            have f_334_4 : iR r_222 0 0 := iR_eqL c_225 g_222_0 (iR_c (n := 0) (by decide +kernel) (by decide +kernel)) (by decide +kernel)
                            exact J_334   H locs ls hP hD hS (lv_sub hl [0, 1, 2, 4, 5] rfl)
                          · have c_225 : ¬ r_222 = 0 := c_225
                            have f_228_4 : iR r_222 1 1 := iR_neL c_225 g_222_0 (iR_c (n := 0) (by decide +kernel) (by decide +kernel)) (by decide +kernel)
                            refine lv_goto (tgt := 243) hx hb dX7_ahead_228 (by decide) ?_
                            exact J_243  f_221_3 H locs ls hP hD hS (lv_sub hl [0, 1, 2, 3, 4, 5] rfl)
                  refine lv_istore (lv' := [(5, .int 0), (4, .int j199_S0), (0, .ref h), (1, .int j5_L1), (2, .int r_76), (3, .int r_86)]) hx hb dX7_ahead_202 hl (by decide) rfl (fun ls hl => ?_)
                  exact J_204 _ j5_L1 0 0 0 j135_M0_12 (iR_w f_70_1 (by decide +kernel)) hj135_M0_12 (Nat.lt_succ_self _) H locs ls hP hD hS (lv_sub hl [2, 3, 4, 5, 1, 0] rfl)
                refine lv_if_eq (tgt := 198) hx hb dX7_ahead_190 (by decide) (fun c_190 => ?_) (fun c_190 => ?_)
                · have c_190 : r_76 = 0 := c_190
                  have f_198_1 : iR r_76 0 0 := iR_eqL c_190 g_76_0 (iR_c (n := 0) (by decide +kernel) (by decide +kernel)) (by decide +kernel)
                  refine lv_iconst (v := 4) hx hb dX7_ahead_198 (by decide +kernel) ?_
                  exact J_199 4 (iR_c (n := 4) (by decide +kernel) (by decide +kernel)) H locs ls hP hD hS (lv_sub hl [0, 1, 2, 3] rfl)
                · have c_190 : ¬ r_76 = 0 := c_190
                  have f_193_1 : iR r_76 1 1 := iR_neL c_190 g_76_0 (iR_c (n := 0) (by decide +kernel) (by decide +kernel)) (by decide +kernel)
                  refine lv_bipush (v := 6) hx hb dX7_ahead_193 (by decide +kernel) ?_
                  refine lv_goto (tgt := 199) hx hb dX7_ahead_195 (by decide) ?_
                  exact J_199 6 (iR_c (n := 6) (by decide +kernel) (by decide +kernel)) H locs ls hP hD hS (lv_sub hl [0, 1, 2, 3] rfl)
              refine lv_if_eq (tgt := 185) hx hb dX7_ahead_178 (by decide) (fun c_178 => ?_) (fun c_178 => ?_)
              · have c_178 : r_76 = 0 := c_178
                have f_185_1 : iR r_76 0 0 := iR_eqL c_178 g_76_0 (iR_c (n := 0) (by decide +kernel) (by decide +kernel)) (by decide +kernel)
                refine lv_iconst (v := 2) hx hb dX7_ahead_185 (by decide +kernel) ?_
                exact J_186 2 (iR_c (n := 2) (by decide +kernel) (by decide +kernel)) H locs ls hP hD hS (lv_sub hl [0, 1, 2, 3] rfl)
              · have c_178 : ¬ r_76 = 0 := c_178
                have f_181_1 : iR r_76 1 1 := iR_neL c_178 g_76_0 (iR_c (n := 0) (by decide +kernel) (by decide +kernel)) (by decide +kernel)
                refine lv_iconst (v := 1) hx hb dX7_ahead_181 (by decide +kernel) ?_
                refine lv_goto (tgt := 186) hx hb dX7_ahead_182 (by decide) ?_
                exact J_186 1 (iR_c (n := 1) (by decide +kernel) (by decide +kernel)) H locs ls hP hD hS (lv_sub hl [0, 1, 2, 3] rfl)
            refine lv_if_ne (tgt := 176) hx hb dX7_ahead_158 (by decide) (fun c_158 => ?_) (fun c_158 => ?_)
            · have c_158 : ¬ r_76 = 0 := c_158
              have f_176_2 : iR r_76 1 1 := iR_neL c_158 g_76_0 (iR_c (n := 0) (by decide +kernel) (by decide +kernel)) (by decide +kernel)
              exact J_176   H locs ls hP hD hS (lv_sub hl [0, 1, 2, 3] rfl)
            · have c_158 : r_76 = 0 := c_158
              have f_161_2 : iR r_76 0 0 := iR_eqL c_158 g_76_0 (iR_c (n := 0) (by decide +kernel) (by decide +kernel)) (by decide +kernel)
              refine lv_iload_n hx hb dX7_ahead_161 rfl (lv_at hl 3 rfl) ?_
              refine lv_if_ne (tgt := 176) hx hb dX7_ahead_162 (by decide) (fun c_162 => ?_) (fun c_162 => ?_)
              · have c_162 : ¬ r_86 = 0 := c_162
                have f_176_3 : iR r_86 1 1 := iR_neL c_162 g_86_0 (iR_c (n := 0) (by decide +kernel) (by decide +kernel)) (by decide +kernel)
                exact J_176   H locs ls hP hD hS (lv_sub hl [0, 1, 2, 3] rfl)
              · have c_162 : r_86 = 0 := c_162
                have f_165_3 : iR r_86 0 0 := iR_eqL c_162 g_86_0 (iR_c (n := 0) (by decide +kernel) (by decide +kernel)) (by decide +kernel)
                refine lv_aload_n hx hb dX7_ahead_165 rfl (lv_at hl 0 rfl) ?_
                refine lv_aload_n hx hb dX7_ahead_166 rfl (lv_at hl 0 rfl) ?_
                refine k_get (D := (dC, dI)) (ci := 7) (v := .ref (r 0)) (C := RX7) (T := TX7) (N := 92) hx hb hts hinX7 hown hK hP 0 rfl rfl 0 (by decide) w_5 rfl rfl dX7_ahead_167 ?_
                refine lv_iload_n hx hb dX7_ahead_170 rfl (lv_at hl 1 rfl) ?_
                refine va_iald hx hb hK hP 1 0 rfl rfl (iR_vp f_70_1 (by decide +kernel)) dX7_ahead_171 ?_
                refine k_put (D := (dC, dI)) (ci := 7) (v := .int (f0 j5_L1.toNatClampNeg)) (C := RX7) (T := TX7) (N := 92) (ws' := [(h, .inr (7, oM r (upd (upd (upd (upd (upd i 3 3) 4 j5_L1) 5 y_153) 6 (f0 j5_L1.toNatClampNeg)) 12 j135_M0_12) (vp_updL j 7 0))), ((r 0), .inl (cI, 1800, .inl f0))]) hx hb hts hinX7 tyX7 tyX7_ok nmX7 hown hK hP hD hS 0 rfl rfl 6 (by decide) w_6 rfl rfl rfl rfl (Nat.le_of_ble_eq_true rfl) rfl dX7_ahead_172 (fun H locs hP hD hS => ?_)
                exact k_rv B hP hD hS dX7_ahead_175 ((fun k9 => match k9 with | 0 => 3 | 1 => j5_L1 | 2 => y_153 | 3 => (f0 j5_L1.toNatClampNeg) | 4 => j135_M0_12 | _ => 0), (fun k9 => match k9 with | 0 => 0 | _ => 0), (fun _ => (fun _ => 0)), (fun _ => (fun _ => 0)), (fun _ => 0)) [0, 1] rfl rfl (Nat.le_of_ble_eq_true rfl) (Nat.le_of_ble_eq_true rfl) ⟨(iR_c (n := 3) (by decide +kernel) (by decide +kernel)), (iR_w f_70_1 (by decide +kernel)), (iR_w f_153_1 (by decide +kernel)), hj135_M0_12⟩
          have J_98 : ∀   (H : Heap) (locs : List Loc) (ls : Array Slot), va_P (dC, dI) vwCl [(h, .inr (7, oM r (upd (upd (upd (upd i 3 0) 4 j5_L1) 5 j5_L1) 12 (-1)) j)), ((r 0), .inl (cI, 1800, .inl f0))] H → va_D A [(h, .inr (7, oM r (upd (upd (upd (upd i 3 0) 4 j5_L1) 5 j5_L1) 12 (-1)) j)), ((r 0), .inl (cI, 1800, .inl f0))] → va_S A s.heap H locs → lv_has ls 6 [(0, .ref h), (1, .int j5_L1), (2, .int r_76), (3, .int r_86)] → W p l e ({ frames := 2, cells := 0, slots := 0, locals := 62 }) s m args below meth c H locs 0 0 (MQ below (va_Qv (fun (u9 : SU) => (iR (u9.1 0) 0 3) ∧ (iR (u9.1 1) 0 1600) ∧ (iR (u9.1 2) 0 1600) ∧ (iR (u9.1 4) (-1) 1599)) (fun u => k_B (dC, dI) vwCl (tyy cI cJ cZ cM) A ((fun (u9 : SU) => [(h, .inr (7, oM r (upd (upd (upd (upd (upd i 3 (u9.1 0)) 4 (u9.1 1)) 5 (u9.1 2)) 6 (u9.1 3)) 12 (u9.1 4)) (vp_updL j 7 (u9.2.1 0)))), ((r 0), .inl (cI, 1800, .inl f0))]) u)) A) args s 0 0 A) (F0 m 98 ls []) := by
            intro   H locs ls hP hD hS hl
            refine lv_iload_n hx hb dX7_ahead_98 rfl (lv_at hl 1 rfl) ?_
            refine lv_if_le (tgt := 135) hx hb dX7_ahead_99 (by decide) (fun c_99 => ?_) (fun c_99 => ?_)
            · have c_99 : j5_L1 ≤ 0 := c_99
              have f_135_1 : iR j5_L1 0 0 := iR_leL c_99 f_70_1 (iR_c (n := 0) (by decide +kernel) (by decide +kernel)) (by decide +kernel)
              exact J_135 (-1) (iR_c (n := (-1)) (by decide +kernel) (by decide +kernel)) H locs ls hP hD hS (lv_sub hl [0, 1, 2, 3] rfl)
            · have c_99 : 0 < j5_L1 := i_nle c_99
              have f_102_1 : iR j5_L1 1 1599 := iR_ltR c_99 (iR_c (n := 0) (by decide +kernel) (by decide +kernel)) f_70_1 (by decide +kernel)
              refine lv_aload_n hx hb dX7_ahead_102 rfl (lv_at hl 0 rfl) ?_
              refine k_get (D := (dC, dI)) (ci := 7) (v := .ref (r 0)) (C := RX7) (T := TX7) (N := 92) hx hb hts hinX7 hown hK hP 0 rfl rfl 0 (by decide) w_5 rfl rfl dX7_ahead_103 ?_
              refine lv_iload_n hx hb dX7_ahead_106 rfl (lv_at hl 1 rfl) ?_
              refine lv_iconst (v := 1) hx hb dX7_ahead_107 (by decide +kernel) ?_
              refine lv_isub hx hb dX7_ahead_108 ?_
              refine lv_topi (fun y_108 ey_108 => ?_)
              have f_108_2 : iR y_108 0 1598 := iR_sub ey_108 f_102_1 (iR_c (n := 1) (by decide +kernel) (by decide +kernel)) (by decide +kernel)
              refine va_iald hx hb hK hP 1 0 rfl rfl (iR_vp f_108_2 (by decide +kernel)) dX7_ahead_109 ?_
              have f_109_3 : iR (f0 y_108.toNatClampNeg) 0 255 := hf0 _
              refine k_ci (wc := []) (wr := [(h, .inr (7, oM r (upd (upd (upd (upd i 3 0) 4 j5_L1) 5 j5_L1) 12 (-1)) j)), ((r 0), .inl (cI, 1800, .inl f0))]) (fun hPc hDc hFc => va_runS (As := [.int (f0 y_108.toNatClampNeg)]) (rest := []) ⟨hx, hb, hml, hown, hts⟩ (s_X7_isLetter_v0 l dC dI cI cJ cZ cM (f0 y_108.toNatClampNeg) H.size) (va_cwS 1 hts gX7_ahead_X7_isLetter rfl rfl rfl (by decide +kernel) ⟨(Nat.le_of_ble_eq_true rfl), (Nat.le_of_ble_eq_true rfl)⟩) (k_pS hPc hDc hK hN hC hS hFc) rfl rfl hl.1 rfl (lv_room (Nat.le_of_ble_eq_true rfl)) dX7_ahead_110 ⟨(Nat.le_of_ble_eq_true rfl), (Nat.le_of_ble_eq_true rfl)⟩) hP hD hS hA [] [0, 1] rfl rfl rfl rfl (by decide) (fun _ => rfl) 0 0 rfl rfl (fun r_110 u_110 H locs hw hP hD hS => ?_)
              obtain g_110_0 := hw
              have hP : va_P (dC, dI) vwCl [(h, .inr (7, oM r (upd (upd (upd (upd i 3 0) 4 j5_L1) 5 j5_L1) 12 (-1)) j)), ((r 0), .inl (cI, 1800, .inl f0))] H := hP
              have hD : va_D A [(h, .inr (7, oM r (upd (upd (upd (upd i 3 0) 4 j5_L1) 5 j5_L1) 12 (-1)) j)), ((r 0), .inl (cI, 1800, .inl f0))] := hD
              have J_130 : ∀   (H : Heap) (locs : List Loc) (ls : Array Slot), va_P (dC, dI) vwCl [(h, .inr (7, oM r (upd (upd (upd (upd i 3 0) 4 j5_L1) 5 j5_L1) 12 (-1)) j)), ((r 0), .inl (cI, 1800, .inl f0))] H → va_D A [(h, .inr (7, oM r (upd (upd (upd (upd i 3 0) 4 j5_L1) 5 j5_L1) 12 (-1)) j)), ((r 0), .inl (cI, 1800, .inl f0))] → va_S A s.heap H locs → lv_has ls 6 [(0, .ref h), (1, .int j5_L1), (2, .int r_76), (3, .int r_86)] → W p l e ({ frames := 2, cells := 0, slots := 0, locals := 62 }) s m args below meth c H locs 0 0 (MQ below (va_Qv (fun (u9 : SU) => (iR (u9.1 0) 0 3) ∧ (iR (u9.1 1) 0 1600) ∧ (iR (u9.1 2) 0 1600) ∧ (iR (u9.1 4) (-1) 1599)) (fun u => k_B (dC, dI) vwCl (tyy cI cJ cZ cM) A ((fun (u9 : SU) => [(h, .inr (7, oM r (upd (upd (upd (upd (upd i 3 (u9.1 0)) 4 (u9.1 1)) 5 (u9.1 2)) 6 (u9.1 3)) 12 (u9.1 4)) (vp_updL j 7 (u9.2.1 0)))), ((r 0), .inl (cI, 1800, .inl f0))]) u)) A) args s 0 0 A) (F0 m 130 ls []) := by
                intro   H locs ls hP hD hS hl
                refine lv_aload_n hx hb dX7_ahead_130 rfl (lv_at hl 0 rfl) ?_
                refine lv_iload_n hx hb dX7_ahead_131 rfl (lv_at hl 1 rfl) ?_
                refine k_put (D := (dC, dI)) (ci := 7) (v := .int j5_L1) (C := RX7) (T := TX7) (N := 92) (ws' := [(h, .inr (7, oM r (upd (upd (upd (upd i 3 0) 4 j5_L1) 5 j5_L1) 12 j5_L1) j)), ((r 0), .inl (cI, 1800, .inl f0))]) hx hb hts hinX7 tyX7 tyX7_ok nmX7 hown hK hP hD hS 0 rfl rfl 12 (by decide) w_4 rfl rfl rfl rfl (Nat.le_of_ble_eq_true rfl) rfl dX7_ahead_132 (fun H locs hP hD hS => ?_)
                exact J_135 j5_L1 (iR_w f_102_1 (by decide +kernel)) H locs ls hP hD hS (lv_sub hl [0, 1, 2, 3] rfl)
              refine lv_if_ne (tgt := 130) hx hb dX7_ahead_113 (by decide) (fun c_113 => ?_) (fun c_113 => ?_)
              · have c_113 : ¬ r_110 = 0 := c_113
                have f_130_4 : iR r_110 1 1 := iR_neL c_113 g_110_0 (iR_c (n := 0) (by decide +kernel) (by decide +kernel)) (by decide +kernel)
                exact J_130   H locs ls hP hD hS (lv_sub hl [0, 1, 2, 3] rfl)
              · have c_113 : r_110 = 0 := c_113
                have f_116_4 : iR r_110 0 0 := iR_eqL c_113 g_110_0 (iR_c (n := 0) (by decide +kernel) (by decide +kernel)) (by decide +kernel)
                refine lv_aload_n hx hb dX7_ahead_116 rfl (lv_at hl 0 rfl) ?_
                refine k_get (D := (dC, dI)) (ci := 7) (v := .ref (r 0)) (C := RX7) (T := TX7) (N := 92) hx hb hts hinX7 hown hK hP 0 rfl rfl 0 (by decide) w_5 rfl rfl dX7_ahead_117 ?_
                refine lv_iload_n hx hb dX7_ahead_120 rfl (lv_at hl 1 rfl) ?_
                refine lv_iconst (v := 1) hx hb dX7_ahead_121 (by decide +kernel) ?_
                refine lv_isub hx hb dX7_ahead_122 ?_
                refine lv_topi (fun y_122 ey_122 => ?_)
                have f_122_5 : iR y_122 0 1598 := iR_sub ey_122 f_102_1 (iR_c (n := 1) (by decide +kernel) (by decide +kernel)) (by decide +kernel)
                refine va_iald hx hb hK hP 1 0 rfl rfl (iR_vp f_122_5 (by decide +kernel)) dX7_ahead_123 ?_
                have f_123_6 : iR (f0 y_122.toNatClampNeg) 0 255 := hf0 _
                refine k_ci (wc := []) (wr := [(h, .inr (7, oM r (upd (upd (upd (upd i 3 0) 4 j5_L1) 5 j5_L1) 12 (-1)) j)), ((r 0), .inl (cI, 1800, .inl f0))]) (fun hPc hDc hFc => va_runS (As := [.int (f0 y_122.toNatClampNeg)]) (rest := []) ⟨hx, hb, hml, hown, hts⟩ (s_X7_isDigit_v0 l dC dI cI cJ cZ cM (f0 y_122.toNatClampNeg) H.size) (va_cwS 1 hts gX7_ahead_X7_isDigit rfl rfl rfl (by decide +kernel) ⟨(Nat.le_of_ble_eq_true rfl), (Nat.le_of_ble_eq_true rfl)⟩) (k_pS hPc hDc hK hN hC hS hFc) rfl rfl hl.1 rfl (lv_room (Nat.le_of_ble_eq_true rfl)) dX7_ahead_124 ⟨(Nat.le_of_ble_eq_true rfl), (Nat.le_of_ble_eq_true rfl)⟩) hP hD hS hA [] [0, 1] rfl rfl rfl rfl (by decide) (fun _ => rfl) 0 0 rfl rfl (fun r_124 u_124 H locs hw hP hD hS => ?_)
                obtain g_124_0 := hw
                have hP : va_P (dC, dI) vwCl [(h, .inr (7, oM r (upd (upd (upd (upd i 3 0) 4 j5_L1) 5 j5_L1) 12 (-1)) j)), ((r 0), .inl (cI, 1800, .inl f0))] H := hP
                have hD : va_D A [(h, .inr (7, oM r (upd (upd (upd (upd i 3 0) 4 j5_L1) 5 j5_L1) 12 (-1)) j)), ((r 0), .inl (cI, 1800, .inl f0))] := hD
                refine lv_if_eq (tgt := 135) hx hb dX7_ahead_127 (by decide) (fun c_127 => ?_) (fun c_127 => ?_)
                · have c_127 : r_124 = 0 := c_127
                  have f_135_7 : iR r_124 0 0 := iR_eqL c_127 g_124_0 (iR_c (n := 0) (by decide +kernel) (by decide +kernel)) (by decide +kernel)
                  exact J_135 (-1) (iR_c (n := (-1)) (by decide +kernel) (by decide +kernel)) H locs ls hP hD hS (lv_sub hl [0, 1, 2, 3] rfl)
                · have c_127 : ¬ r_124 = 0 := c_127
                  have f_130_7 : iR r_124 1 1 := iR_neL c_127 g_124_0 (iR_c (n := 0) (by decide +kernel) (by decide +kernel)) (by decide +kernel)
                  exact J_130   H locs ls hP hD hS (lv_sub hl [0, 1, 2, 3] rfl)
          refine lv_if_ne (tgt := 98) hx hb dX7_ahead_91 (by decide) (fun c_91 => ?_) (fun c_91 => ?_)
          · have c_91 : ¬ r_76 = 0 := c_91
            have f_98_4 : iR r_76 1 1 := iR_neL c_91 g_76_0 (iR_c (n := 0) (by decide +kernel) (by decide +kernel)) (by decide +kernel)
            exact J_98   H locs ls hP hD hS (lv_sub hl [2, 3, 1, 0] rfl)
          · have c_91 : r_76 = 0 := c_91
            have f_94_4 : iR r_76 0 0 := iR_eqL c_91 g_76_0 (iR_c (n := 0) (by decide +kernel) (by decide +kernel)) (by decide +kernel)
            refine lv_iload_n hx hb dX7_ahead_94 rfl (lv_at hl 0 rfl) ?_
            refine lv_if_eq (tgt := 135) hx hb dX7_ahead_95 (by decide) (fun c_95 => ?_) (fun c_95 => ?_)
            · have c_95 : r_86 = 0 := c_95
              have f_135_5 : iR r_86 0 0 := iR_eqL c_95 g_86_0 (iR_c (n := 0) (by decide +kernel) (by decide +kernel)) (by decide +kernel)
              exact J_135 (-1) (iR_c (n := (-1)) (by decide +kernel) (by decide +kernel)) H locs ls hP hD hS (lv_sub hl [2, 3, 1, 0] rfl)
            · have c_95 : ¬ r_86 = 0 := c_95
              have f_98_5 : iR r_86 1 1 := iR_neL c_95 g_86_0 (iR_c (n := 0) (by decide +kernel) (by decide +kernel)) (by decide +kernel)
              exact J_98   H locs ls hP hD hS (lv_sub hl [2, 3, 1, 0] rfl)
        · have c_66 : (i 2) ≤ j5_L1 := i_nlt c_66
          exact k_rv B hP hD hS dX7_ahead_69 ((fun k9 => match k9 with | 0 => 0 | 1 => j5_L1 | 2 => j5_L1 | 3 => (i 6) | 4 => -1 | _ => 0), (fun k9 => match k9 with | 0 => (j 7) | _ => 0), (fun _ => (fun _ => 0)), (fun _ => (fun _ => 0)), (fun _ => 0)) [0, 1] rfl rfl (Nat.le_of_ble_eq_true rfl) (Nat.le_of_ble_eq_true rfl) ⟨(iR_c (n := 0) (by decide +kernel) (by decide +kernel)), hj5_L1, hj5_L1, (iR_c (n := (-1)) (by decide +kernel) (by decide +kernel))⟩
      refine lv_icmp_ge (tgt := 41) hx hb dX7_ahead_10 (by decide) (fun c_10 => ?_) (fun c_10 => ?_)
      · have c_10 : (i 2) ≤ j5_L1 := c_10
        exact J_41   H locs ls hP hD hS (lv_sub hl [0, 1] rfl)
      · have c_10 : j5_L1 < (i 2) := i_nle c_10
        have f_13_2 : iR j5_L1 0 1599 := iR_ltL c_10 hj5_L1 f_7_1 (by decide +kernel)
        have f_13_3 : iR (i 2) 1 1600 := iR_ltR c_10 hj5_L1 f_7_1 (by decide +kernel)
        refine lv_aload_n hx hb dX7_ahead_13 rfl (lv_at hl 0 rfl) ?_
        refine k_get (D := (dC, dI)) (ci := 7) (v := .ref (r 0)) (C := RX7) (T := TX7) (N := 92) hx hb hts hinX7 hown hK hP 0 rfl rfl 0 (by decide) w_5 rfl rfl dX7_ahead_14 ?_
        refine lv_iload_n hx hb dX7_ahead_17 rfl (lv_at hl 1 rfl) ?_
        refine va_iald hx hb hK hP 1 0 rfl rfl (iR_vp f_13_2 (by decide +kernel)) dX7_ahead_18 ?_
        have f_18_4 : iR (f0 j5_L1.toNatClampNeg) 0 255 := hf0 _
        refine lv_bipush (v := 32) hx hb dX7_ahead_19 (by decide +kernel) ?_
        have J_35 : ∀  (k35_0 : iR (f0 j5_L1.toNatClampNeg) 10 32) (H : Heap) (locs : List Loc) (ls : Array Slot), va_P (dC, dI) vwCl [(h, .inr (7, oM r i j)), ((r 0), .inl (cI, 1800, .inl f0))] H → va_D A [(h, .inr (7, oM r i j)), ((r 0), .inl (cI, 1800, .inl f0))] → va_S A s.heap H locs → lv_has ls 6 [(0, .ref h), (1, .int j5_L1)] → W p l e ({ frames := 2, cells := 0, slots := 0, locals := 62 }) s m args below meth c H locs 0 0 (MQ below (va_Qv (fun (u9 : SU) => (iR (u9.1 0) 0 3) ∧ (iR (u9.1 1) 0 1600) ∧ (iR (u9.1 2) 0 1600) ∧ (iR (u9.1 4) (-1) 1599)) (fun u => k_B (dC, dI) vwCl (tyy cI cJ cZ cM) A ((fun (u9 : SU) => [(h, .inr (7, oM r (upd (upd (upd (upd (upd i 3 (u9.1 0)) 4 (u9.1 1)) 5 (u9.1 2)) 6 (u9.1 3)) 12 (u9.1 4)) (vp_updL j 7 (u9.2.1 0)))), ((r 0), .inl (cI, 1800, .inl f0))]) u)) A) args s 0 0 A) (F0 m 35 ls []) := by
          intro  k35_0 H locs ls hP hD hS hl
          obtain ⟨y_35, ey_35⟩ : ∃ y : Int32, y = j5_L1 + 1 := ⟨_, rfl⟩
          refine lv_iinc (v := y_35) (lv' := [(1, .int y_35), (0, .ref h)]) hx hb dX7_ahead_35 hl (k := 1) rfl ey_35.symm (by decide) rfl (fun ls hl => ?_)
          have f_35_1 : iR y_35 1 1600 := iR_add ey_35 f_13_2 (iR_c (n := 1) (by decide +kernel) (by decide +kernel)) (by decide +kernel)
          refine lv_goto (tgt := 5) hx hb dX7_ahead_38 (by decide) ?_
          exact ih_5 y_35 (iR_w f_35_1 (by decide +kernel)) (m_up (B := 1600) hm_5 ey_35 f_13_2 (by decide +kernel)) H locs ls hP hD hS (lv_sub hl [1, 0] rfl)
        refine lv_icmp_eq (tgt := 35) hx hb dX7_ahead_21 (by decide) (fun c_21 => ?_) (fun c_21 => ?_)
        · have c_21 : (f0 j5_L1.toNatClampNeg) = 32 := c_21
          have f_35_5 : iR (f0 j5_L1.toNatClampNeg) 32 32 := iR_eqL c_21 f_18_4 (iR_c (n := 32) (by decide +kernel) (by decide +kernel)) (by decide +kernel)
          exact J_35  (iR_w f_35_5 (by decide +kernel)) H locs ls hP hD hS (lv_sub hl [0, 1] rfl)
        · have c_21 : ¬ (f0 j5_L1.toNatClampNeg) = 32 := c_21
          refine lv_aload_n hx hb dX7_ahead_24 rfl (lv_at hl 0 rfl) ?_
          refine k_get (D := (dC, dI)) (ci := 7) (v := .ref (r 0)) (C := RX7) (T := TX7) (N := 92) hx hb hts hinX7 hown hK hP 0 rfl rfl 0 (by decide) w_5 rfl rfl dX7_ahead_25 ?_
          refine lv_iload_n hx hb dX7_ahead_28 rfl (lv_at hl 1 rfl) ?_
          refine va_iald hx hb hK hP 1 0 rfl rfl (iR_vp f_13_2 (by decide +kernel)) dX7_ahead_29 ?_
          refine lv_bipush (v := 10) hx hb dX7_ahead_30 (by decide +kernel) ?_
          refine lv_icmp_ne (tgt := 41) hx hb dX7_ahead_32 (by decide) (fun c_32 => ?_) (fun c_32 => ?_)
          · have c_32 : ¬ (f0 j5_L1.toNatClampNeg) = 10 := c_32
            exact J_41   H locs ls hP hD hS (lv_sub hl [0, 1] rfl)
          · have c_32 : (f0 j5_L1.toNatClampNeg) = 10 := c_32
            have f_35_5 : iR (f0 j5_L1.toNatClampNeg) 10 10 := iR_eqL c_32 f_18_4 (iR_c (n := 10) (by decide +kernel) (by decide +kernel)) (by decide +kernel)
            exact J_35  (iR_w f_35_5 (by decide +kernel)) H locs ls hP hD hS (lv_sub hl [0, 1] rfl)
  refine lv_istore_n (lv' := [(1, .int (i 5)), (0, .ref h)]) hx hb dX7_ahead_4 rfl hl (by decide) rfl (fun ls hl => ?_)
  exact J_5 _ (i 5) f_1_1 (Nat.lt_succ_self _) H locs ls hP hD hS (lv_sub hl [1, 0] rfl)
set_option maxHeartbeats 8000000 in
set_option maxRecDepth 100000 in
theorem s_X7_fresh_v0 (l : Launch) (dC : Nat → ClassId) (dI : Nat → Nat → Nat) (cI cJ cZ cM : ClassId) (h : Nat) (r : Nat → Nat) (i : Nat → Int32) (j : Nat → Int64) (f0 : Nat → Int32) (f14 : Nat → Int32) (f18 : Nat → Int32) (g34 : Nat → Int64) (g35 : Nat → Int64) (hI : mR i) (hf0 : aR f0 0 255) (hf14 : aR f14 0 10) (hf18 : aR f18 0 12) : k_Ml l yX7_fresh wsX7_fresh ({ frames := 3, cells := 0, slots := 0, locals := 87 }) (dC, dI) vwCl (tyy cI cJ cZ cM) [(h, .inr (7, oM r i j)), ((r 0), .inl (cI, 1800, .inl f0)), ((r 14), .inl (cI, 2, .inl f14)), ((r 18), .inl (cI, 2, .inl f18)), ((r 34), .inl (cJ, 20, .inr (.inl g34))), ((r 35), .inl (cJ, 24, .inr (.inl g35)))] [.ref h] 0 0 (fun (u9 : SU) => [(h, .inr (7, oM r (upd (upd (upd (upd (upd (upd (upd i 3 (u9.1 0)) 4 (u9.1 1)) 5 (u9.1 2)) 6 (u9.1 3)) 8 (u9.1 4)) 9 (u9.1 5)) 12 (u9.1 6)) (vp_updL j 7 (u9.2.1 0)))), ((r 0), .inl (cI, 1800, .inl f0)), ((r 14), .inl (cI, 2, .inl f14)), ((r 18), .inl (cI, 2, .inl f18)), ((r 34), .inl (cJ, 20, .inr (.inl g34))), ((r 35), .inl (cJ, 24, .inr (.inl g35)))]) (fun (r9 : Int64) (u9 : SU) => (iR (u9.1 0) 0 3) ∧ (iR (u9.1 1) 0 1600) ∧ (iR (u9.1 2) 0 1600) ∧ (iR (u9.1 4) 0 6)) := by
  refine fun sz => k_enter (cc := cX7_fresh) (maxL := 3) (ret := some (.long)) (Qc := fun A => va_Ql (fun (r9 : Int64) (u9 : SU) => (iR (u9.1 0) 0 3) ∧ (iR (u9.1 1) 0 1600) ∧ (iR (u9.1 2) 0 1600) ∧ (iR (u9.1 4) 0 6)) (fun u => k_B (dC, dI) vwCl (tyy cI cJ cZ cM) A ((fun (u9 : SU) => [(h, .inr (7, oM r (upd (upd (upd (upd (upd (upd (upd i 3 (u9.1 0)) 4 (u9.1 1)) 5 (u9.1 2)) 6 (u9.1 3)) 8 (u9.1 4)) 9 (u9.1 5)) 12 (u9.1 6)) (vp_updL j 7 (u9.2.1 0)))), ((r 0), .inl (cI, 1800, .inl f0)), ((r 14), .inl (cI, 2, .inl f14)), ((r 18), .inl (cI, 2, .inl f18)), ((r 34), .inl (cJ, 20, .inr (.inl g34))), ((r 35), .inl (cJ, 24, .inr (.inl g35)))]) u)) A) sz (by decide +kernel) rfl (Nat.le_of_ble_eq_true rfl) (fun p e s m args below meth c A ls H locs B hP hD hS hl => ?_)
  obtain ⟨hx, hb, hml, hown, hts, hr, hlk, hnm, hK, hA, hN, hC⟩ := id B
  have hown : s.vm.findClass RX7 = some m.cls := hown
  have hl : lv_has ls 3 [(0, .ref h)] := hl
  have w_0 : (Cond.fieldLink RX7 36 "WishSeaModel" "faultKind" "I").before args s = true := hts _ (List.mem_of_getElem? (i := 1) rfl)
  have w_1 : (Cond.fieldLink RX7 20 "WishSeaModel" "sign" "I").before args s = true := hts _ (List.mem_of_getElem? (i := 2) rfl)
  have w_2 : (Cond.fieldLink RX7 32 "WishSeaModel" "word" "J").before args s = true := hts _ (List.mem_of_getElem? (i := 3) rfl)
  have w_3 : (Cond.fieldLink RX7 23 "WishSeaModel" "signAt" "I").before args s = true := hts _ (List.mem_of_getElem? (i := 4) rfl)
  have hinX7 : ∀ w ∈ u_ws RX7 TX7 92, w ∈ wsX7_fresh := fun _ h => List.mem_cons_of_mem _ (List.mem_append_right _ h)
  refine lv_aload_n hx hb dX7_fresh_0 rfl (lv_at hl 0 rfl) ?_
  refine k_cv (wc := [(h, .inr (7, oM r i j))]) (wr := [((r 0), .inl (cI, 1800, .inl f0)), ((r 14), .inl (cI, 2, .inl f14)), ((r 18), .inl (cI, 2, .inl f18)), ((r 34), .inl (cJ, 20, .inr (.inl g34))), ((r 35), .inl (cJ, 24, .inr (.inl g35)))]) (fun hPc hDc hFc => va_runV (As := []) (rest := []) ⟨hx, hb, hml, hown, hts⟩ (s_X7_lex_v5 l dC dI cI cJ cZ cM h r i j hI H.size) (cwV 0 hts gX7_fresh_X7_lex rfl rfl rfl (by decide +kernel) ⟨(Nat.le_of_ble_eq_true rfl), (Nat.le_of_ble_eq_true rfl)⟩) (k_pV hPc hDc hK hN hC hS hFc hP (q0 := 0) (ci := 7) rfl rfl) rfl rfl hl.1 rfl (lv_room (Nat.le_of_ble_eq_true rfl)) dX7_fresh_1 ⟨(Nat.le_of_ble_eq_true rfl), (Nat.le_of_ble_eq_true rfl)⟩) hP hD hS hA [0] [1, 2, 3, 4, 5] rfl rfl rfl rfl (by decide) (fun _ => rfl) 0 0 rfl rfl (fun u_1 H locs hw hP hD hS => ?_)
  obtain g_1_0 := hw
  have hP : va_P (dC, dI) vwCl [((r 0), .inl (cI, 1800, .inl f0)), ((r 14), .inl (cI, 2, .inl f14)), ((r 18), .inl (cI, 2, .inl f18)), ((r 34), .inl (cJ, 20, .inr (.inl g34))), ((r 35), .inl (cJ, 24, .inr (.inl g35))), (h, .inr (7, oM r (upd (upd i 8 (u_1.1 0)) 9 (u_1.1 1)) j))] H := hP
  have hD : va_D A [((r 0), .inl (cI, 1800, .inl f0)), ((r 14), .inl (cI, 2, .inl f14)), ((r 18), .inl (cI, 2, .inl f18)), ((r 34), .inl (cJ, 20, .inr (.inl g34))), ((r 35), .inl (cJ, 24, .inr (.inl g35))), (h, .inr (7, oM r (upd (upd i 8 (u_1.1 0)) 9 (u_1.1 1)) j))] := hD
  refine lv_aload_n hx hb dX7_fresh_4 rfl (lv_at hl 0 rfl) ?_
  refine k_get (D := (dC, dI)) (ci := 7) (v := .int (u_1.1 0)) (C := RX7) (T := TX7) (N := 92) hx hb hts hinX7 hown hK hP 5 rfl rfl 8 (by decide) w_0 rfl rfl dX7_fresh_5 ?_
  refine lv_if_le (tgt := 13) hx hb dX7_fresh_8 (by decide) (fun c_8 => ?_) (fun c_8 => ?_)
  · have c_8 : (u_1.1 0) ≤ 0 := c_8
    have f_13_1 : iR (u_1.1 0) 0 0 := iR_leL c_8 g_1_0 (iR_c (n := 0) (by decide +kernel) (by decide +kernel)) (by decide +kernel)
    refine lv_aload_n hx hb dX7_fresh_13 rfl (lv_at hl 0 rfl) ?_
    have f_14_2 : iR (i 3) 0 3 := hI 3
    refine k_get (D := (dC, dI)) (ci := 7) (v := .int (i 3)) (C := RX7) (T := TX7) (N := 92) hx hb hts hinX7 hown hK hP 5 rfl rfl 3 (by decide) w_1 rfl rfl dX7_fresh_14 ?_
    refine lv_iconst (v := 1) hx hb dX7_fresh_17 (by decide +kernel) ?_
    have J_41 : ∀ (j41_M0_8 : Int32) (j41_M0_9 : Int32) (hj41_M0_8 : iR j41_M0_8 0 6) (H : Heap) (locs : List Loc) (ls : Array Slot), va_P (dC, dI) vwCl [(h, .inr (7, oM r (upd (upd i 8 j41_M0_8) 9 j41_M0_9) j)), ((r 0), .inl (cI, 1800, .inl f0)), ((r 14), .inl (cI, 2, .inl f14)), ((r 18), .inl (cI, 2, .inl f18)), ((r 34), .inl (cJ, 20, .inr (.inl g34))), ((r 35), .inl (cJ, 24, .inr (.inl g35)))] H → va_D A [(h, .inr (7, oM r (upd (upd i 8 j41_M0_8) 9 j41_M0_9) j)), ((r 0), .inl (cI, 1800, .inl f0)), ((r 14), .inl (cI, 2, .inl f14)), ((r 18), .inl (cI, 2, .inl f18)), ((r 34), .inl (cJ, 20, .inr (.inl g34))), ((r 35), .inl (cJ, 24, .inr (.inl g35)))] → va_S A s.heap H locs → lv_has ls 3 [(0, .ref h)] → W p l e ({ frames := 3, cells := 0, slots := 0, locals := 87 }) s m args below meth c H locs 0 0 (MQ below (va_Ql (fun (r9 : Int64) (u9 : SU) => (iR (u9.1 0) 0 3) ∧ (iR (u9.1 1) 0 1600) ∧ (iR (u9.1 2) 0 1600) ∧ (iR (u9.1 4) 0 6)) (fun u => k_B (dC, dI) vwCl (tyy cI cJ cZ cM) A ((fun (u9 : SU) => [(h, .inr (7, oM r (upd (upd (upd (upd (upd (upd (upd i 3 (u9.1 0)) 4 (u9.1 1)) 5 (u9.1 2)) 6 (u9.1 3)) 8 (u9.1 4)) 9 (u9.1 5)) 12 (u9.1 6)) (vp_updL j 7 (u9.2.1 0)))), ((r 0), .inl (cI, 1800, .inl f0)), ((r 14), .inl (cI, 2, .inl f14)), ((r 18), .inl (cI, 2, .inl f18)), ((r 34), .inl (cJ, 20, .inr (.inl g34))), ((r 35), .inl (cJ, 24, .inr (.inl g35)))]) u)) A) args s 0 0 A) (F0 m 41 ls []) := by
      intro j41_M0_8 j41_M0_9 hj41_M0_8 H locs ls hP hD hS hl
      refine lv_iconst (v := 0) hx hb dX7_fresh_41 (by decide +kernel) ?_
      refine lv_istore_n (lv' := [(1, .int 0), (0, .ref h)]) hx hb dX7_fresh_42 rfl hl (by decide) rfl (fun ls hl => ?_)
      refine lv_iload_n hx hb dX7_fresh_43 rfl (lv_at hl 0 rfl) ?_
      refine lv_iconst (v := 1) hx hb dX7_fresh_44 (by decide +kernel) ?_
      have J_83p42 : ∀  (k83p42_0 : iR j41_M0_8 1 6) (q83p42_0 : ¬ j41_M0_8 = 0) (H : Heap) (locs : List Loc) (ls : Array Slot), va_P (dC, dI) vwCl [(h, .inr (7, oM r (upd (upd i 8 j41_M0_8) 9 j41_M0_9) j)), ((r 0), .inl (cI, 1800, .inl f0)), ((r 14), .inl (cI, 2, .inl f14)), ((r 18), .inl (cI, 2, .inl f18)), ((r 34), .inl (cJ, 20, .inr (.inl g34))), ((r 35), .inl (cJ, 24, .inr (.inl g35)))] H → va_D A [(h, .inr (7, oM r (upd (upd i 8 j41_M0_8) 9 j41_M0_9) j)), ((r 0), .inl (cI, 1800, .inl f0)), ((r 14), .inl (cI, 2, .inl f14)), ((r 18), .inl (cI, 2, .inl f18)), ((r 34), .inl (cJ, 20, .inr (.inl g34))), ((r 35), .inl (cJ, 24, .inr (.inl g35)))] → va_S A s.heap H locs → lv_has ls 3 [(0, .ref h)] → W p l e ({ frames := 3, cells := 0, slots := 0, locals := 87 }) s m args below meth c H locs 0 0 (MQ below (va_Ql (fun (r9 : Int64) (u9 : SU) => (iR (u9.1 0) 0 3) ∧ (iR (u9.1 1) 0 1600) ∧ (iR (u9.1 2) 0 1600) ∧ (iR (u9.1 4) 0 6)) (fun u => k_B (dC, dI) vwCl (tyy cI cJ cZ cM) A ((fun (u9 : SU) => [(h, .inr (7, oM r (upd (upd (upd (upd (upd (upd (upd i 3 (u9.1 0)) 4 (u9.1 1)) 5 (u9.1 2)) 6 (u9.1 3)) 8 (u9.1 4)) 9 (u9.1 5)) 12 (u9.1 6)) (vp_updL j 7 (u9.2.1 0)))), ((r 0), .inl (cI, 1800, .inl f0)), ((r 14), .inl (cI, 2, .inl f14)), ((r 18), .inl (cI, 2, .inl f18)), ((r 34), .inl (cJ, 20, .inr (.inl g34))), ((r 35), .inl (cJ, 24, .inr (.inl g35)))]) u)) A) args s 0 0 A) (F0 m 83 ls []) := by
        intro  k83p42_0 q83p42_0 H locs ls hP hD hS hl
        refine lv_aload_n hx hb dX7_fresh_83 rfl (lv_at hl 0 rfl) ?_
        refine k_get (D := (dC, dI)) (ci := 7) (v := .long (j 7)) (C := RX7) (T := TX7) (N := 92) hx hb hts hinX7 hown hK hP 0 rfl rfl 7 (by decide) w_2 rfl rfl dX7_fresh_84 ?_
        refine lv_lstore_n (lv' := [(1, .long (j 7)), (0, .ref h)]) hx hb dX7_fresh_87 rfl hl (by decide) rfl (fun ls hl => ?_)
        refine lv_aload_n hx hb dX7_fresh_88 rfl (lv_at hl 1 rfl) ?_
        refine k_get (D := (dC, dI)) (ci := 7) (v := .int j41_M0_8) (C := RX7) (T := TX7) (N := 92) hx hb hts hinX7 hown hK hP 0 rfl rfl 8 (by decide) w_0 rfl rfl dX7_fresh_89 ?_
        have J_99p42 : ∀   (H : Heap) (locs : List Loc) (ls : Array Slot), va_P (dC, dI) vwCl [(h, .inr (7, oM r (upd (upd i 8 j41_M0_8) 9 j41_M0_9) j)), ((r 0), .inl (cI, 1800, .inl f0)), ((r 14), .inl (cI, 2, .inl f14)), ((r 18), .inl (cI, 2, .inl f18)), ((r 34), .inl (cJ, 20, .inr (.inl g34))), ((r 35), .inl (cJ, 24, .inr (.inl g35)))] H → va_D A [(h, .inr (7, oM r (upd (upd i 8 j41_M0_8) 9 j41_M0_9) j)), ((r 0), .inl (cI, 1800, .inl f0)), ((r 14), .inl (cI, 2, .inl f14)), ((r 18), .inl (cI, 2, .inl f18)), ((r 34), .inl (cJ, 20, .inr (.inl g34))), ((r 35), .inl (cJ, 24, .inr (.inl g35)))] → va_S A s.heap H locs → lv_has ls 3 [(1, .long (j 7))] → W p l e ({ frames := 3, cells := 0, slots := 0, locals := 87 }) s m args below meth c H locs 0 0 (MQ below (va_Ql (fun (r9 : Int64) (u9 : SU) => (iR (u9.1 0) 0 3) ∧ (iR (u9.1 1) 0 1600) ∧ (iR (u9.1 2) 0 1600) ∧ (iR (u9.1 4) 0 6)) (fun u => k_B (dC, dI) vwCl (tyy cI cJ cZ cM) A ((fun (u9 : SU) => [(h, .inr (7, oM r (upd (upd (upd (upd (upd (upd (upd i 3 (u9.1 0)) 4 (u9.1 1)) 5 (u9.1 2)) 6 (u9.1 3)) 8 (u9.1 4)) 9 (u9.1 5)) 12 (u9.1 6)) (vp_updL j 7 (u9.2.1 0)))), ((r 0), .inl (cI, 1800, .inl f0)), ((r 14), .inl (cI, 2, .inl f14)), ((r 18), .inl (cI, 2, .inl f18)), ((r 34), .inl (cJ, 20, .inr (.inl g34))), ((r 35), .inl (cJ, 24, .inr (.inl g35)))]) u)) A) args s 0 0 A) (F0 m 99 ls []) := by
          intro   H locs ls hP hD hS hl
          refine lv_lload_n hx hb dX7_fresh_99 rfl (lv_at hl 0 rfl) ?_
          exact k_rl B hP hD hS dX7_fresh_100 ((fun k9 => match k9 with | 0 => (i 3) | 1 => (i 4) | 2 => (i 5) | 3 => (i 6) | 4 => j41_M0_8 | 5 => j41_M0_9 | 6 => (i 12) | _ => 0), (fun k9 => match k9 with | 0 => (j 7) | _ => 0), (fun _ => (fun _ => 0)), (fun _ => (fun _ => 0)), (fun _ => 0)) [0, 1, 2, 3, 4, 5] rfl rfl (Nat.le_of_ble_eq_true rfl) (Nat.le_of_ble_eq_true rfl) ⟨f_14_2, (hI 4), (hI 5), (iR_w k83p42_0 (by decide +kernel))⟩
        refine lv_if_ne (tgt := 99) hx hb dX7_fresh_92 (by decide) (fun c_92p42 => ?_) (fun c_92p42 => ?_)
        · have c_92p42 : ¬ j41_M0_8 = 0 := c_92p42
          exact J_99p42   H locs ls hP hD hS (lv_sub hl [0] rfl)
        · exact iR_cl (iR_eqL (a' := 1) (b' := 0) c_92p42 k83p42_0 (iR_c (n := 0) (by decide +kernel) (by decide +kernel)) (by decide +kernel)) (by decide +kernel)
      refine lv_icmp_gt (tgt := 83) hx hb dX7_fresh_45 (by decide) (fun q9 => absurd q9 (by decide +kernel)) (fun _ => ?_)
      refine lv_aload_n hx hb dX7_fresh_48 rfl (lv_at hl 1 rfl) ?_
      refine k_get (D := (dC, dI)) (ci := 7) (v := .int j41_M0_8) (C := RX7) (T := TX7) (N := 92) hx hb hts hinX7 hown hK hP 0 rfl rfl 8 (by decide) w_0 rfl rfl dX7_fresh_49 ?_
      refine lv_if_ne (tgt := 83) hx hb dX7_fresh_52 (by decide) (fun c_52p42 => ?_) (fun c_52p42 => ?_)
      · have c_52p42 : ¬ j41_M0_8 = 0 := c_52p42
        have f_83p42_1 : iR j41_M0_8 1 6 := iR_neL c_52p42 hj41_M0_8 (iR_c (n := 0) (by decide +kernel) (by decide +kernel)) (by decide +kernel)
        exact J_83p42  f_83p42_1 c_52p42 H locs ls hP hD hS (lv_sub hl [1] rfl)
      · have c_52p42 : j41_M0_8 = 0 := c_52p42
        have f_55p42_1 : iR j41_M0_8 0 0 := iR_eqL c_52p42 hj41_M0_8 (iR_c (n := 0) (by decide +kernel) (by decide +kernel)) (by decide +kernel)
        refine lv_aload_n hx hb dX7_fresh_55 rfl (lv_at hl 1 rfl) ?_
        refine lv_iload_n hx hb dX7_fresh_56 rfl (lv_at hl 0 rfl) ?_
        refine lv_aload_n hx hb dX7_fresh_57 rfl (lv_at hl 1 rfl) ?_
        refine k_get (D := (dC, dI)) (ci := 7) (v := .long (j 7)) (C := RX7) (T := TX7) (N := 92) hx hb hts hinX7 hown hK hP 0 rfl rfl 7 (by decide) w_2 rfl rfl dX7_fresh_58 ?_
        refine k_ci (wc := [(h, .inr (7, oM r (upd (upd i 8 j41_M0_8) 9 j41_M0_9) j)), ((r 14), .inl (cI, 2, .inl f14)), ((r 34), .inl (cJ, 20, .inr (.inl g34)))]) (wr := [((r 0), .inl (cI, 1800, .inl f0)), ((r 18), .inl (cI, 2, .inl f18)), ((r 35), .inl (cJ, 24, .inr (.inl g35)))]) (fun hPc hDc hFc => va_runV (As := [.int 0, .long (j 7)]) (rest := []) ⟨hx, hb, hml, hown, hts⟩ (s_X7_named_v4 l dC dI cI cJ cZ cM h r (upd (upd i 8 j41_M0_8) 9 j41_M0_9) j (j 7) f14 g34 (mR_upd 9 (mR_upd 8 hI (show iR _ (loI 8) (hiI 8) from (iR_w f_55p42_1 (by decide +kernel)))) (show iR _ (loI 9) (hiI 9) from (iR_top _))) hf14 H.size) (cwV 2 hts gX7_fresh_X7_named rfl rfl rfl (by decide +kernel) ⟨(Nat.le_of_ble_eq_true rfl), (Nat.le_of_ble_eq_true rfl)⟩) (k_pV hPc hDc hK hN hC hS hFc hP (q0 := 0) (ci := 7) rfl rfl) rfl rfl hl.1 rfl (lv_room (Nat.le_of_ble_eq_true rfl)) dX7_fresh_61 ⟨(Nat.le_of_ble_eq_true rfl), (Nat.le_of_ble_eq_true rfl)⟩) hP hD hS hA [0, 2, 4] [1, 3, 5] rfl rfl rfl rfl (by decide) (fun _ => rfl) 0 0 rfl rfl (fun r_61p42 u_61p42 H locs hw hP hD hS => ?_)
        obtain g_61p42_0 := hw
        have hP : va_P (dC, dI) vwCl [((r 0), .inl (cI, 1800, .inl f0)), ((r 18), .inl (cI, 2, .inl f18)), ((r 35), .inl (cJ, 24, .inr (.inl g35))), (h, .inr (7, oM r (upd (upd i 8 j41_M0_8) 9 j41_M0_9) j)), ((r 14), .inl (cI, 2, .inl f14)), ((r 34), .inl (cJ, 20, .inr (.inl g34)))] H := hP
        have hD : va_D A [((r 0), .inl (cI, 1800, .inl f0)), ((r 18), .inl (cI, 2, .inl f18)), ((r 35), .inl (cJ, 24, .inr (.inl g35))), (h, .inr (7, oM r (upd (upd i 8 j41_M0_8) 9 j41_M0_9) j)), ((r 14), .inl (cI, 2, .inl f14)), ((r 34), .inl (cJ, 20, .inr (.inl g34)))] := hD
        refine lv_iconst (v := (-1)) hx hb dX7_fresh_64 (by decide +kernel) ?_
        have J_77p42 : ∀ (j77p42_M0_8 : Int32) (j77p42_M0_9 : Int32) (hj77p42_M0_8 : iR j77p42_M0_8 0 6) (H : Heap) (locs : List Loc) (ls : Array Slot), va_P (dC, dI) vwCl [(h, .inr (7, oM r (upd (upd i 8 j77p42_M0_8) 9 j77p42_M0_9) j)), ((r 0), .inl (cI, 1800, .inl f0)), ((r 14), .inl (cI, 2, .inl f14)), ((r 18), .inl (cI, 2, .inl f18)), ((r 34), .inl (cJ, 20, .inr (.inl g34))), ((r 35), .inl (cJ, 24, .inr (.inl g35)))] H → va_D A [(h, .inr (7, oM r (upd (upd i 8 j77p42_M0_8) 9 j77p42_M0_9) j)), ((r 0), .inl (cI, 1800, .inl f0)), ((r 14), .inl (cI, 2, .inl f14)), ((r 18), .inl (cI, 2, .inl f18)), ((r 34), .inl (cJ, 20, .inr (.inl g34))), ((r 35), .inl (cJ, 24, .inr (.inl g35)))] → va_S A s.heap H locs → lv_has ls 3 [(0, .ref h), (1, .int 0)] → W p l e ({ frames := 3, cells := 0, slots := 0, locals := 87 }) s m args below meth c H locs 0 0 (MQ below (va_Ql (fun (r9 : Int64) (u9 : SU) => (iR (u9.1 0) 0 3) ∧ (iR (u9.1 1) 0 1600) ∧ (iR (u9.1 2) 0 1600) ∧ (iR (u9.1 4) 0 6)) (fun u => k_B (dC, dI) vwCl (tyy cI cJ cZ cM) A ((fun (u9 : SU) => [(h, .inr (7, oM r (upd (upd (upd (upd (upd (upd (upd i 3 (u9.1 0)) 4 (u9.1 1)) 5 (u9.1 2)) 6 (u9.1 3)) 8 (u9.1 4)) 9 (u9.1 5)) 12 (u9.1 6)) (vp_updL j 7 (u9.2.1 0)))), ((r 0), .inl (cI, 1800, .inl f0)), ((r 14), .inl (cI, 2, .inl f14)), ((r 18), .inl (cI, 2, .inl f18)), ((r 34), .inl (cJ, 20, .inr (.inl g34))), ((r 35), .inl (cJ, 24, .inr (.inl g35)))]) u)) A) args s 0 0 A) (F0 m 77 ls []) := by
          intro j77p42_M0_8 j77p42_M0_9 hj77p42_M0_8 H locs ls hP hD hS hl
          refine lv_iinc (v := 1) (lv' := [(1, .int 1), (0, .ref h)]) hx hb dX7_fresh_77 hl (k := 1) rfl (by decide +kernel) (by decide) rfl (fun ls hl => ?_)
          refine lv_goto (tgt := 43) hx hb dX7_fresh_80 (by decide) ?_
          refine lv_iload_n hx hb dX7_fresh_43 rfl (lv_at hl 0 rfl) ?_
          refine lv_iconst (v := 1) hx hb dX7_fresh_44 (by decide +kernel) ?_
          have J_83p42p80 : ∀  (k83p42p80_0 : iR j77p42_M0_8 1 6) (q83p42p80_0 : ¬ j77p42_M0_8 = 0) (H : Heap) (locs : List Loc) (ls : Array Slot), va_P (dC, dI) vwCl [(h, .inr (7, oM r (upd (upd i 8 j77p42_M0_8) 9 j77p42_M0_9) j)), ((r 0), .inl (cI, 1800, .inl f0)), ((r 14), .inl (cI, 2, .inl f14)), ((r 18), .inl (cI, 2, .inl f18)), ((r 34), .inl (cJ, 20, .inr (.inl g34))), ((r 35), .inl (cJ, 24, .inr (.inl g35)))] H → va_D A [(h, .inr (7, oM r (upd (upd i 8 j77p42_M0_8) 9 j77p42_M0_9) j)), ((r 0), .inl (cI, 1800, .inl f0)), ((r 14), .inl (cI, 2, .inl f14)), ((r 18), .inl (cI, 2, .inl f18)), ((r 34), .inl (cJ, 20, .inr (.inl g34))), ((r 35), .inl (cJ, 24, .inr (.inl g35)))] → va_S A s.heap H locs → lv_has ls 3 [(0, .ref h)] → W p l e ({ frames := 3, cells := 0, slots := 0, locals := 87 }) s m args below meth c H locs 0 0 (MQ below (va_Ql (fun (r9 : Int64) (u9 : SU) => (iR (u9.1 0) 0 3) ∧ (iR (u9.1 1) 0 1600) ∧ (iR (u9.1 2) 0 1600) ∧ (iR (u9.1 4) 0 6)) (fun u => k_B (dC, dI) vwCl (tyy cI cJ cZ cM) A ((fun (u9 : SU) => [(h, .inr (7, oM r (upd (upd (upd (upd (upd (upd (upd i 3 (u9.1 0)) 4 (u9.1 1)) 5 (u9.1 2)) 6 (u9.1 3)) 8 (u9.1 4)) 9 (u9.1 5)) 12 (u9.1 6)) (vp_updL j 7 (u9.2.1 0)))), ((r 0), .inl (cI, 1800, .inl f0)), ((r 14), .inl (cI, 2, .inl f14)), ((r 18), .inl (cI, 2, .inl f18)), ((r 34), .inl (cJ, 20, .inr (.inl g34))), ((r 35), .inl (cJ, 24, .inr (.inl g35)))]) u)) A) args s 0 0 A) (F0 m 83 ls []) := by
            intro  k83p42p80_0 q83p42p80_0 H locs ls hP hD hS hl
            refine lv_aload_n hx hb dX7_fresh_83 rfl (lv_at hl 0 rfl) ?_
            refine k_get (D := (dC, dI)) (ci := 7) (v := .long (j 7)) (C := RX7) (T := TX7) (N := 92) hx hb hts hinX7 hown hK hP 0 rfl rfl 7 (by decide) w_2 rfl rfl dX7_fresh_84 ?_
            refine lv_lstore_n (lv' := [(1, .long (j 7)), (0, .ref h)]) hx hb dX7_fresh_87 rfl hl (by decide) rfl (fun ls hl => ?_)
            refine lv_aload_n hx hb dX7_fresh_88 rfl (lv_at hl 1 rfl) ?_
            refine k_get (D := (dC, dI)) (ci := 7) (v := .int j77p42_M0_8) (C := RX7) (T := TX7) (N := 92) hx hb hts hinX7 hown hK hP 0 rfl rfl 8 (by decide) w_0 rfl rfl dX7_fresh_89 ?_
            have J_99p42p80 : ∀   (H : Heap) (locs : List Loc) (ls : Array Slot), va_P (dC, dI) vwCl [(h, .inr (7, oM r (upd (upd i 8 j77p42_M0_8) 9 j77p42_M0_9) j)), ((r 0), .inl (cI, 1800, .inl f0)), ((r 14), .inl (cI, 2, .inl f14)), ((r 18), .inl (cI, 2, .inl f18)), ((r 34), .inl (cJ, 20, .inr (.inl g34))), ((r 35), .inl (cJ, 24, .inr (.inl g35)))] H → va_D A [(h, .inr (7, oM r (upd (upd i 8 j77p42_M0_8) 9 j77p42_M0_9) j)), ((r 0), .inl (cI, 1800, .inl f0)), ((r 14), .inl (cI, 2, .inl f14)), ((r 18), .inl (cI, 2, .inl f18)), ((r 34), .inl (cJ, 20, .inr (.inl g34))), ((r 35), .inl (cJ, 24, .inr (.inl g35)))] → va_S A s.heap H locs → lv_has ls 3 [(1, .long (j 7))] → W p l e ({ frames := 3, cells := 0, slots := 0, locals := 87 }) s m args below meth c H locs 0 0 (MQ below (va_Ql (fun (r9 : Int64) (u9 : SU) => (iR (u9.1 0) 0 3) ∧ (iR (u9.1 1) 0 1600) ∧ (iR (u9.1 2) 0 1600) ∧ (iR (u9.1 4) 0 6)) (fun u => k_B (dC, dI) vwCl (tyy cI cJ cZ cM) A ((fun (u9 : SU) => [(h, .inr (7, oM r (upd (upd (upd (upd (upd (upd (upd i 3 (u9.1 0)) 4 (u9.1 1)) 5 (u9.1 2)) 6 (u9.1 3)) 8 (u9.1 4)) 9 (u9.1 5)) 12 (u9.1 6)) (vp_updL j 7 (u9.2.1 0)))), ((r 0), .inl (cI, 1800, .inl f0)), ((r 14), .inl (cI, 2, .inl f14)), ((r 18), .inl (cI, 2, .inl f18)), ((r 34), .inl (cJ, 20, .inr (.inl g34))), ((r 35), .inl (cJ, 24, .inr (.inl g35)))]) u)) A) args s 0 0 A) (F0 m 99 ls []) := by
              intro   H locs ls hP hD hS hl
              refine lv_lload_n hx hb dX7_fresh_99 rfl (lv_at hl 0 rfl) ?_
              exact k_rl B hP hD hS dX7_fresh_100 ((fun k9 => match k9 with | 0 => (i 3) | 1 => (i 4) | 2 => (i 5) | 3 => (i 6) | 4 => j77p42_M0_8 | 5 => j77p42_M0_9 | 6 => (i 12) | _ => 0), (fun k9 => match k9 with | 0 => (j 7) | _ => 0), (fun _ => (fun _ => 0)), (fun _ => (fun _ => 0)), (fun _ => 0)) [0, 1, 2, 3, 4, 5] rfl rfl (Nat.le_of_ble_eq_true rfl) (Nat.le_of_ble_eq_true rfl) ⟨f_14_2, (hI 4), (hI 5), (iR_w k83p42p80_0 (by decide +kernel))⟩
            refine lv_if_ne (tgt := 99) hx hb dX7_fresh_92 (by decide) (fun c_92p42p80 => ?_) (fun c_92p42p80 => ?_)
            · have c_92p42p80 : ¬ j77p42_M0_8 = 0 := c_92p42p80
              exact J_99p42p80   H locs ls hP hD hS (lv_sub hl [0] rfl)
            · exact iR_cl (iR_eqL (a' := 1) (b' := 0) c_92p42p80 k83p42p80_0 (iR_c (n := 0) (by decide +kernel) (by decide +kernel)) (by decide +kernel)) (by decide +kernel)
          refine lv_icmp_gt (tgt := 83) hx hb dX7_fresh_45 (by decide) (fun q9 => absurd q9 (by decide +kernel)) (fun _ => ?_)
          refine lv_aload_n hx hb dX7_fresh_48 rfl (lv_at hl 1 rfl) ?_
          refine k_get (D := (dC, dI)) (ci := 7) (v := .int j77p42_M0_8) (C := RX7) (T := TX7) (N := 92) hx hb hts hinX7 hown hK hP 0 rfl rfl 8 (by decide) w_0 rfl rfl dX7_fresh_49 ?_
          refine lv_if_ne (tgt := 83) hx hb dX7_fresh_52 (by decide) (fun c_52p42p80 => ?_) (fun c_52p42p80 => ?_)
          · have c_52p42p80 : ¬ j77p42_M0_8 = 0 := c_52p42p80
            have f_83p42p80_1 : iR j77p42_M0_8 1 6 := iR_neL c_52p42p80 hj77p42_M0_8 (iR_c (n := 0) (by decide +kernel) (by decide +kernel)) (by decide +kernel)
            exact J_83p42p80  f_83p42p80_1 c_52p42p80 H locs ls hP hD hS (lv_sub hl [1] rfl)
          · have c_52p42p80 : j77p42_M0_8 = 0 := c_52p42p80
            have f_55p42p80_1 : iR j77p42_M0_8 0 0 := iR_eqL c_52p42p80 hj77p42_M0_8 (iR_c (n := 0) (by decide +kernel) (by decide +kernel)) (by decide +kernel)
            refine lv_aload_n hx hb dX7_fresh_55 rfl (lv_at hl 1 rfl) ?_
            refine lv_iload_n hx hb dX7_fresh_56 rfl (lv_at hl 0 rfl) ?_
            refine lv_aload_n hx hb dX7_fresh_57 rfl (lv_at hl 1 rfl) ?_
            refine k_get (D := (dC, dI)) (ci := 7) (v := .long (j 7)) (C := RX7) (T := TX7) (N := 92) hx hb hts hinX7 hown hK hP 0 rfl rfl 7 (by decide) w_2 rfl rfl dX7_fresh_58 ?_
            refine k_ci (wc := [(h, .inr (7, oM r (upd (upd i 8 j77p42_M0_8) 9 j77p42_M0_9) j)), ((r 18), .inl (cI, 2, .inl f18)), ((r 35), .inl (cJ, 24, .inr (.inl g35)))]) (wr := [((r 0), .inl (cI, 1800, .inl f0)), ((r 14), .inl (cI, 2, .inl f14)), ((r 34), .inl (cJ, 20, .inr (.inl g34)))]) (fun hPc hDc hFc => va_runV (As := [.int 1, .long (j 7)]) (rest := []) ⟨hx, hb, hml, hown, hts⟩ (s_X7_named_v5 l dC dI cI cJ cZ cM h r (upd (upd i 8 j77p42_M0_8) 9 j77p42_M0_9) j (j 7) f18 g35 (mR_upd 9 (mR_upd 8 hI (show iR _ (loI 8) (hiI 8) from (iR_w f_55p42p80_1 (by decide +kernel)))) (show iR _ (loI 9) (hiI 9) from (iR_top _))) hf18 H.size) (cwV 2 hts gX7_fresh_X7_named rfl rfl rfl (by decide +kernel) ⟨(Nat.le_of_ble_eq_true rfl), (Nat.le_of_ble_eq_true rfl)⟩) (k_pV hPc hDc hK hN hC hS hFc hP (q0 := 0) (ci := 7) rfl rfl) rfl rfl hl.1 rfl (lv_room (Nat.le_of_ble_eq_true rfl)) dX7_fresh_61 ⟨(Nat.le_of_ble_eq_true rfl), (Nat.le_of_ble_eq_true rfl)⟩) hP hD hS hA [0, 3, 5] [1, 2, 4] rfl rfl rfl rfl (by decide) (fun _ => rfl) 0 0 rfl rfl (fun r_61p42p80 u_61p42p80 H locs hw hP hD hS => ?_)
            obtain g_61p42p80_0 := hw
            have hP : va_P (dC, dI) vwCl [((r 0), .inl (cI, 1800, .inl f0)), ((r 14), .inl (cI, 2, .inl f14)), ((r 34), .inl (cJ, 20, .inr (.inl g34))), (h, .inr (7, oM r (upd (upd i 8 j77p42_M0_8) 9 j77p42_M0_9) j)), ((r 18), .inl (cI, 2, .inl f18)), ((r 35), .inl (cJ, 24, .inr (.inl g35)))] H := hP
            have hD : va_D A [((r 0), .inl (cI, 1800, .inl f0)), ((r 14), .inl (cI, 2, .inl f14)), ((r 34), .inl (cJ, 20, .inr (.inl g34))), (h, .inr (7, oM r (upd (upd i 8 j77p42_M0_8) 9 j77p42_M0_9) j)), ((r 18), .inl (cI, 2, .inl f18)), ((r 35), .inl (cJ, 24, .inr (.inl g35)))] := hD
            refine lv_iconst (v := (-1)) hx hb dX7_fresh_64 (by decide +kernel) ?_
            have J_77p42p80 : ∀ (j77p42p80_M0_8 : Int32) (j77p42p80_M0_9 : Int32) (hj77p42p80_M0_8 : iR j77p42p80_M0_8 0 6) (H : Heap) (locs : List Loc) (ls : Array Slot), va_P (dC, dI) vwCl [(h, .inr (7, oM r (upd (upd i 8 j77p42p80_M0_8) 9 j77p42p80_M0_9) j)), ((r 0), .inl (cI, 1800, .inl f0)), ((r 14), .inl (cI, 2, .inl f14)), ((r 18), .inl (cI, 2, .inl f18)), ((r 34), .inl (cJ, 20, .inr (.inl g34))), ((r 35), .inl (cJ, 24, .inr (.inl g35)))] H → va_D A [(h, .inr (7, oM r (upd (upd i 8 j77p42p80_M0_8) 9 j77p42p80_M0_9) j)), ((r 0), .inl (cI, 1800, .inl f0)), ((r 14), .inl (cI, 2, .inl f14)), ((r 18), .inl (cI, 2, .inl f18)), ((r 34), .inl (cJ, 20, .inr (.inl g34))), ((r 35), .inl (cJ, 24, .inr (.inl g35)))] → va_S A s.heap H locs → lv_has ls 3 [(0, .ref h), (1, .int 1)] → W p l e ({ frames := 3, cells := 0, slots := 0, locals := 87 }) s m args below meth c H locs 0 0 (MQ below (va_Ql (fun (r9 : Int64) (u9 : SU) => (iR (u9.1 0) 0 3) ∧ (iR (u9.1 1) 0 1600) ∧ (iR (u9.1 2) 0 1600) ∧ (iR (u9.1 4) 0 6)) (fun u => k_B (dC, dI) vwCl (tyy cI cJ cZ cM) A ((fun (u9 : SU) => [(h, .inr (7, oM r (upd (upd (upd (upd (upd (upd (upd i 3 (u9.1 0)) 4 (u9.1 1)) 5 (u9.1 2)) 6 (u9.1 3)) 8 (u9.1 4)) 9 (u9.1 5)) 12 (u9.1 6)) (vp_updL j 7 (u9.2.1 0)))), ((r 0), .inl (cI, 1800, .inl f0)), ((r 14), .inl (cI, 2, .inl f14)), ((r 18), .inl (cI, 2, .inl f18)), ((r 34), .inl (cJ, 20, .inr (.inl g34))), ((r 35), .inl (cJ, 24, .inr (.inl g35)))]) u)) A) args s 0 0 A) (F0 m 77 ls []) := by
              intro j77p42p80_M0_8 j77p42p80_M0_9 hj77p42p80_M0_8 H locs ls hP hD hS hl
              refine lv_iinc (v := 2) (lv' := [(1, .int 2), (0, .ref h)]) hx hb dX7_fresh_77 hl (k := 1) rfl (by decide +kernel) (by decide) rfl (fun ls hl => ?_)
              refine lv_goto (tgt := 43) hx hb dX7_fresh_80 (by decide) ?_
              refine lv_iload_n hx hb dX7_fresh_43 rfl (lv_at hl 0 rfl) ?_
              refine lv_iconst (v := 1) hx hb dX7_fresh_44 (by decide +kernel) ?_
              have J_83p42p80p80 : ∀   (H : Heap) (locs : List Loc) (ls : Array Slot), va_P (dC, dI) vwCl [(h, .inr (7, oM r (upd (upd i 8 j77p42p80_M0_8) 9 j77p42p80_M0_9) j)), ((r 0), .inl (cI, 1800, .inl f0)), ((r 14), .inl (cI, 2, .inl f14)), ((r 18), .inl (cI, 2, .inl f18)), ((r 34), .inl (cJ, 20, .inr (.inl g34))), ((r 35), .inl (cJ, 24, .inr (.inl g35)))] H → va_D A [(h, .inr (7, oM r (upd (upd i 8 j77p42p80_M0_8) 9 j77p42p80_M0_9) j)), ((r 0), .inl (cI, 1800, .inl f0)), ((r 14), .inl (cI, 2, .inl f14)), ((r 18), .inl (cI, 2, .inl f18)), ((r 34), .inl (cJ, 20, .inr (.inl g34))), ((r 35), .inl (cJ, 24, .inr (.inl g35)))] → va_S A s.heap H locs → lv_has ls 3 [(0, .ref h)] → W p l e ({ frames := 3, cells := 0, slots := 0, locals := 87 }) s m args below meth c H locs 0 0 (MQ below (va_Ql (fun (r9 : Int64) (u9 : SU) => (iR (u9.1 0) 0 3) ∧ (iR (u9.1 1) 0 1600) ∧ (iR (u9.1 2) 0 1600) ∧ (iR (u9.1 4) 0 6)) (fun u => k_B (dC, dI) vwCl (tyy cI cJ cZ cM) A ((fun (u9 : SU) => [(h, .inr (7, oM r (upd (upd (upd (upd (upd (upd (upd i 3 (u9.1 0)) 4 (u9.1 1)) 5 (u9.1 2)) 6 (u9.1 3)) 8 (u9.1 4)) 9 (u9.1 5)) 12 (u9.1 6)) (vp_updL j 7 (u9.2.1 0)))), ((r 0), .inl (cI, 1800, .inl f0)), ((r 14), .inl (cI, 2, .inl f14)), ((r 18), .inl (cI, 2, .inl f18)), ((r 34), .inl (cJ, 20, .inr (.inl g34))), ((r 35), .inl (cJ, 24, .inr (.inl g35)))]) u)) A) args s 0 0 A) (F0 m 83 ls []) := by
                intro   H locs ls hP hD hS hl
                refine lv_aload_n hx hb dX7_fresh_83 rfl (lv_at hl 0 rfl) ?_
                refine k_get (D := (dC, dI)) (ci := 7) (v := .long (j 7)) (C := RX7) (T := TX7) (N := 92) hx hb hts hinX7 hown hK hP 0 rfl rfl 7 (by decide) w_2 rfl rfl dX7_fresh_84 ?_
                refine lv_lstore_n (lv' := [(1, .long (j 7)), (0, .ref h)]) hx hb dX7_fresh_87 rfl hl (by decide) rfl (fun ls hl => ?_)
                refine lv_aload_n hx hb dX7_fresh_88 rfl (lv_at hl 1 rfl) ?_
                refine k_get (D := (dC, dI)) (ci := 7) (v := .int j77p42p80_M0_8) (C := RX7) (T := TX7) (N := 92) hx hb hts hinX7 hown hK hP 0 rfl rfl 8 (by decide) w_0 rfl rfl dX7_fresh_89 ?_
                have J_99p42p80p80 : ∀ (j99p42p80p80_M0_3 : Int32) (j99p42p80p80_M0_4 : Int32) (j99p42p80p80_M0_5 : Int32) (j99p42p80p80_M0_6 : Int32) (j99p42p80p80_M0_7 : Int64) (j99p42p80p80_M0_12 : Int32) (hj99p42p80p80_M0_3 : iR j99p42p80p80_M0_3 0 3) (hj99p42p80p80_M0_4 : iR j99p42p80p80_M0_4 0 1600) (hj99p42p80p80_M0_5 : iR j99p42p80p80_M0_5 0 1600) (H : Heap) (locs : List Loc) (ls : Array Slot), va_P (dC, dI) vwCl [(h, .inr (7, oM r (upd (upd (upd (upd (upd (upd (upd i 3 j99p42p80p80_M0_3) 4 j99p42p80p80_M0_4) 5 j99p42p80p80_M0_5) 6 j99p42p80p80_M0_6) 8 j77p42p80_M0_8) 9 j77p42p80_M0_9) 12 j99p42p80p80_M0_12) (vp_updL j 7 j99p42p80p80_M0_7))), ((r 0), .inl (cI, 1800, .inl f0)), ((r 14), .inl (cI, 2, .inl f14)), ((r 18), .inl (cI, 2, .inl f18)), ((r 34), .inl (cJ, 20, .inr (.inl g34))), ((r 35), .inl (cJ, 24, .inr (.inl g35)))] H → va_D A [(h, .inr (7, oM r (upd (upd (upd (upd (upd (upd (upd i 3 j99p42p80p80_M0_3) 4 j99p42p80p80_M0_4) 5 j99p42p80p80_M0_5) 6 j99p42p80p80_M0_6) 8 j77p42p80_M0_8) 9 j77p42p80_M0_9) 12 j99p42p80p80_M0_12) (vp_updL j 7 j99p42p80p80_M0_7))), ((r 0), .inl (cI, 1800, .inl f0)), ((r 14), .inl (cI, 2, .inl f14)), ((r 18), .inl (cI, 2, .inl f18)), ((r 34), .inl (cJ, 20, .inr (.inl g34))), ((r 35), .inl (cJ, 24, .inr (.inl g35)))] → va_S A s.heap H locs → lv_has ls 3 [(1, .long (j 7))] → W p l e ({ frames := 3, cells := 0, slots := 0, locals := 87 }) s m args below meth c H locs 0 0 (MQ below (va_Ql (fun (r9 : Int64) (u9 : SU) => (iR (u9.1 0) 0 3) ∧ (iR (u9.1 1) 0 1600) ∧ (iR (u9.1 2) 0 1600) ∧ (iR (u9.1 4) 0 6)) (fun u => k_B (dC, dI) vwCl (tyy cI cJ cZ cM) A ((fun (u9 : SU) => [(h, .inr (7, oM r (upd (upd (upd (upd (upd (upd (upd i 3 (u9.1 0)) 4 (u9.1 1)) 5 (u9.1 2)) 6 (u9.1 3)) 8 (u9.1 4)) 9 (u9.1 5)) 12 (u9.1 6)) (vp_updL j 7 (u9.2.1 0)))), ((r 0), .inl (cI, 1800, .inl f0)), ((r 14), .inl (cI, 2, .inl f14)), ((r 18), .inl (cI, 2, .inl f18)), ((r 34), .inl (cJ, 20, .inr (.inl g34))), ((r 35), .inl (cJ, 24, .inr (.inl g35)))]) u)) A) args s 0 0 A) (F0 m 99 ls []) := by
                  intro j99p42p80p80_M0_3 j99p42p80p80_M0_4 j99p42p80p80_M0_5 j99p42p80p80_M0_6 j99p42p80p80_M0_7 j99p42p80p80_M0_12 hj99p42p80p80_M0_3 hj99p42p80p80_M0_4 hj99p42p80p80_M0_5 H locs ls hP hD hS hl
                  refine lv_lload_n hx hb dX7_fresh_99 rfl (lv_at hl 0 rfl) ?_
                  exact k_rl B hP hD hS dX7_fresh_100 ((fun k9 => match k9 with | 0 => j99p42p80p80_M0_3 | 1 => j99p42p80p80_M0_4 | 2 => j99p42p80p80_M0_5 | 3 => j99p42p80p80_M0_6 | 4 => j77p42p80_M0_8 | 5 => j77p42p80_M0_9 | 6 => j99p42p80p80_M0_12 | _ => 0), (fun k9 => match k9 with | 0 => j99p42p80p80_M0_7 | _ => 0), (fun _ => (fun _ => 0)), (fun _ => (fun _ => 0)), (fun _ => 0)) [0, 1, 2, 3, 4, 5] rfl rfl (Nat.le_of_ble_eq_true rfl) (Nat.le_of_ble_eq_true rfl) ⟨hj99p42p80p80_M0_3, hj99p42p80p80_M0_4, hj99p42p80p80_M0_5, hj77p42p80_M0_8⟩
                refine lv_if_ne (tgt := 99) hx hb dX7_fresh_92 (by decide) (fun c_92p42p80p80 => ?_) (fun c_92p42p80p80 => ?_)
                · have c_92p42p80p80 : ¬ j77p42p80_M0_8 = 0 := c_92p42p80p80
                  have f_99p42p80p80_1 : iR j77p42p80_M0_8 1 6 := iR_neL c_92p42p80p80 hj77p42p80_M0_8 (iR_c (n := 0) (by decide +kernel) (by decide +kernel)) (by decide +kernel)
                  exact J_99p42p80p80 (i 3) (i 4) (i 5) (i 6) (j 7) (i 12) f_14_2 (show iR (i 4) 0 1600 from hI 4) (show iR (i 5) 0 1600 from hI 5) H locs ls hP hD hS (lv_sub hl [0] rfl)
                · have c_92p42p80p80 : j77p42p80_M0_8 = 0 := c_92p42p80p80
                  have f_95p42p80p80_1 : iR j77p42p80_M0_8 0 0 := iR_eqL c_92p42p80p80 hj77p42p80_M0_8 (iR_c (n := 0) (by decide +kernel) (by decide +kernel)) (by decide +kernel)
                  refine lv_aload_n hx hb dX7_fresh_95 rfl (lv_at hl 1 rfl) ?_
                  refine k_cv (wc := [(h, .inr (7, oM r (upd (upd i 8 j77p42p80_M0_8) 9 j77p42p80_M0_9) j)), ((r 0), .inl (cI, 1800, .inl f0))]) (wr := [((r 14), .inl (cI, 2, .inl f14)), ((r 18), .inl (cI, 2, .inl f18)), ((r 34), .inl (cJ, 20, .inr (.inl g34))), ((r 35), .inl (cJ, 24, .inr (.inl g35)))]) (fun hPc hDc hFc => va_runV (As := []) (rest := []) ⟨hx, hb, hml, hown, hts⟩ (s_X7_ahead_v4 l dC dI cI cJ cZ cM h r (upd (upd i 8 j77p42p80_M0_8) 9 j77p42p80_M0_9) j f0 (mR_upd 9 (mR_upd 8 hI (show iR _ (loI 8) (hiI 8) from (iR_w f_95p42p80p80_1 (by decide +kernel)))) (show iR _ (loI 9) (hiI 9) from (iR_top _))) hf0 H.size) (cwV 0 hts gX7_fresh_X7_ahead rfl rfl rfl (by decide +kernel) ⟨(Nat.le_of_ble_eq_true rfl), (Nat.le_of_ble_eq_true rfl)⟩) (k_pV hPc hDc hK hN hC hS hFc hP (q0 := 0) (ci := 7) rfl rfl) rfl rfl hl.1 rfl (lv_room (Nat.le_of_ble_eq_true rfl)) dX7_fresh_96 ⟨(Nat.le_of_ble_eq_true rfl), (Nat.le_of_ble_eq_true rfl)⟩) hP hD hS hA [0, 1] [2, 3, 4, 5] rfl rfl rfl rfl (by decide) (fun _ => rfl) 0 0 rfl rfl (fun u_96p42p80p80 H locs hw hP hD hS => ?_)
                  obtain ⟨g_96p42p80p80_0, g_96p42p80p80_1, g_96p42p80p80_2, g_96p42p80p80_3⟩ := hw
                  have hP : va_P (dC, dI) vwCl [((r 14), .inl (cI, 2, .inl f14)), ((r 18), .inl (cI, 2, .inl f18)), ((r 34), .inl (cJ, 20, .inr (.inl g34))), ((r 35), .inl (cJ, 24, .inr (.inl g35))), (h, .inr (7, oM r (upd (upd (upd (upd (upd (upd (upd i 3 (u_96p42p80p80.1 0)) 4 (u_96p42p80p80.1 1)) 5 (u_96p42p80p80.1 2)) 6 (u_96p42p80p80.1 3)) 8 j77p42p80_M0_8) 9 j77p42p80_M0_9) 12 (u_96p42p80p80.1 4)) (vp_updL j 7 (u_96p42p80p80.2.1 0)))), ((r 0), .inl (cI, 1800, .inl f0))] H := hP
                  have hD : va_D A [((r 14), .inl (cI, 2, .inl f14)), ((r 18), .inl (cI, 2, .inl f18)), ((r 34), .inl (cJ, 20, .inr (.inl g34))), ((r 35), .inl (cJ, 24, .inr (.inl g35))), (h, .inr (7, oM r (upd (upd (upd (upd (upd (upd (upd i 3 (u_96p42p80p80.1 0)) 4 (u_96p42p80p80.1 1)) 5 (u_96p42p80p80.1 2)) 6 (u_96p42p80p80.1 3)) 8 j77p42p80_M0_8) 9 j77p42p80_M0_9) 12 (u_96p42p80p80.1 4)) (vp_updL j 7 (u_96p42p80p80.2.1 0)))), ((r 0), .inl (cI, 1800, .inl f0))] := hD
                  exact J_99p42p80p80 (u_96p42p80p80.1 0) (u_96p42p80p80.1 1) (u_96p42p80p80.1 2) (u_96p42p80p80.1 3) (u_96p42p80p80.2.1 0) (u_96p42p80p80.1 4) g_96p42p80p80_0 g_96p42p80p80_1 g_96p42p80p80_2 H locs ls (hP.sub [4, 5, 0, 1, 2, 3] rfl) (hD.sub [4, 5, 0, 1, 2, 3] (by decide +kernel) rfl) hS (lv_sub hl [0] rfl)
              refine lv_icmp_gt (tgt := 83) hx hb dX7_fresh_45 (by decide) (fun _ => ?_) (fun q9 => absurd q9 (by decide +kernel))
              exact J_83p42p80p80   H locs ls hP hD hS (lv_sub hl [1] rfl)
            refine lv_icmp_eq (tgt := 77) hx hb dX7_fresh_65 (by decide) (fun c_65p42p80 => ?_) (fun c_65p42p80 => ?_)
            · have c_65p42p80 : r_61p42p80 = (-1) := c_65p42p80
              have f_77p42p80_2 : iR r_61p42p80 (-1) (-1) := iR_eqL c_65p42p80 g_61p42p80_0 (iR_c (n := (-1)) (by decide +kernel) (by decide +kernel)) (by decide +kernel)
              exact J_77p42p80 j77p42_M0_8 j77p42_M0_9 (iR_w f_55p42p80_1 (by decide +kernel)) H locs ls (hP.sub [3, 0, 1, 4, 2, 5] rfl) (hD.sub [3, 0, 1, 4, 2, 5] (by decide +kernel) rfl) hS (lv_sub hl [1, 0] rfl)
            · have c_65p42p80 : ¬ r_61p42p80 = (-1) := c_65p42p80
              have f_68p42p80_2 : iR r_61p42p80 0 11 := iR_neL c_65p42p80 g_61p42p80_0 (iR_c (n := (-1)) (by decide +kernel) (by decide +kernel)) (by decide +kernel)
              refine lv_aload_n hx hb dX7_fresh_68 rfl (lv_at hl 1 rfl) ?_
              refine lv_iconst (v := 2) hx hb dX7_fresh_69 (by decide +kernel) ?_
              refine lv_aload_n hx hb dX7_fresh_70 rfl (lv_at hl 1 rfl) ?_
              have f_71p42p80_3 : iR (i 4) 0 1600 := hI 4
              refine k_get (D := (dC, dI)) (ci := 7) (v := .int (i 4)) (C := RX7) (T := TX7) (N := 92) hx hb hts hinX7 hown hK hP 3 rfl rfl 4 (by decide) w_3 rfl rfl dX7_fresh_71 ?_
              refine k_cv (wc := [(h, .inr (7, oM r (upd (upd i 8 j77p42_M0_8) 9 j77p42_M0_9) j))]) (wr := [((r 0), .inl (cI, 1800, .inl f0)), ((r 14), .inl (cI, 2, .inl f14)), ((r 34), .inl (cJ, 20, .inr (.inl g34))), ((r 18), .inl (cI, 2, .inl f18)), ((r 35), .inl (cJ, 24, .inr (.inl g35)))]) (fun hPc hDc hFc => va_runV (As := [.int 2, .int (i 4)]) (rest := []) ⟨hx, hb, hml, hown, hts⟩ (s_X7_blame_v6 l dC dI cI cJ cZ cM h r (upd (upd i 8 j77p42_M0_8) 9 j77p42_M0_9) j 2 (i 4) (iR_c (n := 2) (by decide +kernel) (by decide +kernel)) (mR_upd 9 (mR_upd 8 hI (show iR _ (loI 8) (hiI 8) from (iR_w f_55p42p80_1 (by decide +kernel)))) (show iR _ (loI 9) (hiI 9) from (iR_top _))) H.size) (cwV 2 hts gX7_fresh_X7_blame rfl rfl rfl (by decide +kernel) ⟨(Nat.le_of_ble_eq_true rfl), (Nat.le_of_ble_eq_true rfl)⟩) (k_pV hPc hDc hK hN hC hS hFc hP (q0 := 3) (ci := 7) rfl rfl) rfl rfl hl.1 rfl (lv_room (Nat.le_of_ble_eq_true rfl)) dX7_fresh_74 ⟨(Nat.le_of_ble_eq_true rfl), (Nat.le_of_ble_eq_true rfl)⟩) hP hD hS hA [3] [0, 1, 2, 4, 5] rfl rfl rfl rfl (by decide) (fun _ => rfl) 0 0 rfl rfl (fun u_74p42p80 H locs hw hP hD hS => ?_)
              obtain g_74p42p80_0 := hw
              have hP : va_P (dC, dI) vwCl [((r 0), .inl (cI, 1800, .inl f0)), ((r 14), .inl (cI, 2, .inl f14)), ((r 34), .inl (cJ, 20, .inr (.inl g34))), ((r 18), .inl (cI, 2, .inl f18)), ((r 35), .inl (cJ, 24, .inr (.inl g35))), (h, .inr (7, oM r (upd (upd i 8 (u_74p42p80.1 0)) 9 (u_74p42p80.1 1)) j))] H := hP
              have hD : va_D A [((r 0), .inl (cI, 1800, .inl f0)), ((r 14), .inl (cI, 2, .inl f14)), ((r 34), .inl (cJ, 20, .inr (.inl g34))), ((r 18), .inl (cI, 2, .inl f18)), ((r 35), .inl (cJ, 24, .inr (.inl g35))), (h, .inr (7, oM r (upd (upd i 8 (u_74p42p80.1 0)) 9 (u_74p42p80.1 1)) j))] := hD
              exact J_77p42p80 (u_74p42p80.1 0) (u_74p42p80.1 1) (iR_w g_74p42p80_0 (by decide +kernel)) H locs ls (hP.sub [5, 0, 1, 3, 2, 4] rfl) (hD.sub [5, 0, 1, 3, 2, 4] (by decide +kernel) rfl) hS (lv_sub hl [1, 0] rfl)
        refine lv_icmp_eq (tgt := 77) hx hb dX7_fresh_65 (by decide) (fun c_65p42 => ?_) (fun c_65p42 => ?_)
        · have c_65p42 : r_61p42 = (-1) := c_65p42
          have f_77p42_2 : iR r_61p42 (-1) (-1) := iR_eqL c_65p42 g_61p42_0 (iR_c (n := (-1)) (by decide +kernel) (by decide +kernel)) (by decide +kernel)
          exact J_77p42 j41_M0_8 j41_M0_9 (iR_w f_55p42_1 (by decide +kernel)) H locs ls (hP.sub [3, 0, 4, 1, 5, 2] rfl) (hD.sub [3, 0, 4, 1, 5, 2] (by decide +kernel) rfl) hS (lv_sub hl [1, 0] rfl)
        · have c_65p42 : ¬ r_61p42 = (-1) := c_65p42
          have f_68p42_2 : iR r_61p42 0 9 := iR_neL c_65p42 g_61p42_0 (iR_c (n := (-1)) (by decide +kernel) (by decide +kernel)) (by decide +kernel)
          refine lv_aload_n hx hb dX7_fresh_68 rfl (lv_at hl 1 rfl) ?_
          refine lv_iconst (v := 2) hx hb dX7_fresh_69 (by decide +kernel) ?_
          refine lv_aload_n hx hb dX7_fresh_70 rfl (lv_at hl 1 rfl) ?_
          have f_71p42_3 : iR (i 4) 0 1600 := hI 4
          refine k_get (D := (dC, dI)) (ci := 7) (v := .int (i 4)) (C := RX7) (T := TX7) (N := 92) hx hb hts hinX7 hown hK hP 3 rfl rfl 4 (by decide) w_3 rfl rfl dX7_fresh_71 ?_
          refine k_cv (wc := [(h, .inr (7, oM r (upd (upd i 8 j41_M0_8) 9 j41_M0_9) j))]) (wr := [((r 0), .inl (cI, 1800, .inl f0)), ((r 18), .inl (cI, 2, .inl f18)), ((r 35), .inl (cJ, 24, .inr (.inl g35))), ((r 14), .inl (cI, 2, .inl f14)), ((r 34), .inl (cJ, 20, .inr (.inl g34)))]) (fun hPc hDc hFc => va_runV (As := [.int 2, .int (i 4)]) (rest := []) ⟨hx, hb, hml, hown, hts⟩ (s_X7_blame_v6 l dC dI cI cJ cZ cM h r (upd (upd i 8 j41_M0_8) 9 j41_M0_9) j 2 (i 4) (iR_c (n := 2) (by decide +kernel) (by decide +kernel)) (mR_upd 9 (mR_upd 8 hI (show iR _ (loI 8) (hiI 8) from (iR_w f_55p42_1 (by decide +kernel)))) (show iR _ (loI 9) (hiI 9) from (iR_top _))) H.size) (cwV 2 hts gX7_fresh_X7_blame rfl rfl rfl (by decide +kernel) ⟨(Nat.le_of_ble_eq_true rfl), (Nat.le_of_ble_eq_true rfl)⟩) (k_pV hPc hDc hK hN hC hS hFc hP (q0 := 3) (ci := 7) rfl rfl) rfl rfl hl.1 rfl (lv_room (Nat.le_of_ble_eq_true rfl)) dX7_fresh_74 ⟨(Nat.le_of_ble_eq_true rfl), (Nat.le_of_ble_eq_true rfl)⟩) hP hD hS hA [3] [0, 1, 2, 4, 5] rfl rfl rfl rfl (by decide) (fun _ => rfl) 0 0 rfl rfl (fun u_74p42 H locs hw hP hD hS => ?_)
          obtain g_74p42_0 := hw
          have hP : va_P (dC, dI) vwCl [((r 0), .inl (cI, 1800, .inl f0)), ((r 18), .inl (cI, 2, .inl f18)), ((r 35), .inl (cJ, 24, .inr (.inl g35))), ((r 14), .inl (cI, 2, .inl f14)), ((r 34), .inl (cJ, 20, .inr (.inl g34))), (h, .inr (7, oM r (upd (upd i 8 (u_74p42.1 0)) 9 (u_74p42.1 1)) j))] H := hP
          have hD : va_D A [((r 0), .inl (cI, 1800, .inl f0)), ((r 18), .inl (cI, 2, .inl f18)), ((r 35), .inl (cJ, 24, .inr (.inl g35))), ((r 14), .inl (cI, 2, .inl f14)), ((r 34), .inl (cJ, 20, .inr (.inl g34))), (h, .inr (7, oM r (upd (upd i 8 (u_74p42.1 0)) 9 (u_74p42.1 1)) j))] := hD
          exact J_77p42 (u_74p42.1 0) (u_74p42.1 1) (iR_w g_74p42_0 (by decide +kernel)) H locs ls (hP.sub [5, 0, 3, 1, 4, 2] rfl) (hD.sub [5, 0, 3, 1, 4, 2] (by decide +kernel) rfl) hS (lv_sub hl [1, 0] rfl)
    have J_32 : ∀   (H : Heap) (locs : List Loc) (ls : Array Slot), va_P (dC, dI) vwCl [(h, .inr (7, oM r (upd (upd i 8 (u_1.1 0)) 9 (u_1.1 1)) j)), ((r 0), .inl (cI, 1800, .inl f0)), ((r 14), .inl (cI, 2, .inl f14)), ((r 18), .inl (cI, 2, .inl f18)), ((r 34), .inl (cJ, 20, .inr (.inl g34))), ((r 35), .inl (cJ, 24, .inr (.inl g35)))] H → va_D A [(h, .inr (7, oM r (upd (upd i 8 (u_1.1 0)) 9 (u_1.1 1)) j)), ((r 0), .inl (cI, 1800, .inl f0)), ((r 14), .inl (cI, 2, .inl f14)), ((r 18), .inl (cI, 2, .inl f18)), ((r 34), .inl (cJ, 20, .inr (.inl g34))), ((r 35), .inl (cJ, 24, .inr (.inl g35)))] → va_S A s.heap H locs → lv_has ls 3 [(0, .ref h)] → W p l e ({ frames := 3, cells := 0, slots := 0, locals := 87 }) s m args below meth c H locs 0 0 (MQ below (va_Ql (fun (r9 : Int64) (u9 : SU) => (iR (u9.1 0) 0 3) ∧ (iR (u9.1 1) 0 1600) ∧ (iR (u9.1 2) 0 1600) ∧ (iR (u9.1 4) 0 6)) (fun u => k_B (dC, dI) vwCl (tyy cI cJ cZ cM) A ((fun (u9 : SU) => [(h, .inr (7, oM r (upd (upd (upd (upd (upd (upd (upd i 3 (u9.1 0)) 4 (u9.1 1)) 5 (u9.1 2)) 6 (u9.1 3)) 8 (u9.1 4)) 9 (u9.1 5)) 12 (u9.1 6)) (vp_updL j 7 (u9.2.1 0)))), ((r 0), .inl (cI, 1800, .inl f0)), ((r 14), .inl (cI, 2, .inl f14)), ((r 18), .inl (cI, 2, .inl f18)), ((r 34), .inl (cJ, 20, .inr (.inl g34))), ((r 35), .inl (cJ, 24, .inr (.inl g35)))]) u)) A) args s 0 0 A) (F0 m 32 ls []) := by
      intro   H locs ls hP hD hS hl
      refine lv_aload_n hx hb dX7_fresh_32 rfl (lv_at hl 0 rfl) ?_
      refine lv_iconst (v := 1) hx hb dX7_fresh_33 (by decide +kernel) ?_
      refine lv_aload_n hx hb dX7_fresh_34 rfl (lv_at hl 0 rfl) ?_
      have f_35_1 : iR (i 4) 0 1600 := hI 4
      refine k_get (D := (dC, dI)) (ci := 7) (v := .int (i 4)) (C := RX7) (T := TX7) (N := 92) hx hb hts hinX7 hown hK hP 0 rfl rfl 4 (by decide) w_3 rfl rfl dX7_fresh_35 ?_
      refine k_cv (wc := [(h, .inr (7, oM r (upd (upd i 8 (u_1.1 0)) 9 (u_1.1 1)) j))]) (wr := [((r 0), .inl (cI, 1800, .inl f0)), ((r 14), .inl (cI, 2, .inl f14)), ((r 18), .inl (cI, 2, .inl f18)), ((r 34), .inl (cJ, 20, .inr (.inl g34))), ((r 35), .inl (cJ, 24, .inr (.inl g35)))]) (fun hPc hDc hFc => va_runV (As := [.int 1, .int (i 4)]) (rest := []) ⟨hx, hb, hml, hown, hts⟩ (s_X7_blame_v6 l dC dI cI cJ cZ cM h r (upd (upd i 8 (u_1.1 0)) 9 (u_1.1 1)) j 1 (i 4) (iR_c (n := 1) (by decide +kernel) (by decide +kernel)) (mR_upd 9 (mR_upd 8 hI (show iR _ (loI 8) (hiI 8) from (iR_w f_13_1 (by decide +kernel)))) (show iR _ (loI 9) (hiI 9) from (iR_top _))) H.size) (cwV 2 hts gX7_fresh_X7_blame rfl rfl rfl (by decide +kernel) ⟨(Nat.le_of_ble_eq_true rfl), (Nat.le_of_ble_eq_true rfl)⟩) (k_pV hPc hDc hK hN hC hS hFc hP (q0 := 0) (ci := 7) rfl rfl) rfl rfl hl.1 rfl (lv_room (Nat.le_of_ble_eq_true rfl)) dX7_fresh_38 ⟨(Nat.le_of_ble_eq_true rfl), (Nat.le_of_ble_eq_true rfl)⟩) hP hD hS hA [0] [1, 2, 3, 4, 5] rfl rfl rfl rfl (by decide) (fun _ => rfl) 0 0 rfl rfl (fun u_38 H locs hw hP hD hS => ?_)
      obtain g_38_0 := hw
      have hP : va_P (dC, dI) vwCl [((r 0), .inl (cI, 1800, .inl f0)), ((r 14), .inl (cI, 2, .inl f14)), ((r 18), .inl (cI, 2, .inl f18)), ((r 34), .inl (cJ, 20, .inr (.inl g34))), ((r 35), .inl (cJ, 24, .inr (.inl g35))), (h, .inr (7, oM r (upd (upd i 8 (u_38.1 0)) 9 (u_38.1 1)) j))] H := hP
      have hD : va_D A [((r 0), .inl (cI, 1800, .inl f0)), ((r 14), .inl (cI, 2, .inl f14)), ((r 18), .inl (cI, 2, .inl f18)), ((r 34), .inl (cJ, 20, .inr (.inl g34))), ((r 35), .inl (cJ, 24, .inr (.inl g35))), (h, .inr (7, oM r (upd (upd i 8 (u_38.1 0)) 9 (u_38.1 1)) j))] := hD
      exact J_41 (u_38.1 0) (u_38.1 1) (iR_w g_38_0 (by decide +kernel)) H locs ls (hP.sub [5, 0, 1, 2, 3, 4] rfl) (hD.sub [5, 0, 1, 2, 3, 4] (by decide +kernel) rfl) hS (lv_sub hl [0] rfl)
    refine lv_icmp_ne (tgt := 32) hx hb dX7_fresh_18 (by decide) (fun c_18 => ?_) (fun c_18 => ?_)
    · have c_18 : ¬ (i 3) = 1 := c_18
      exact J_32   H locs ls (hP.sub [5, 0, 1, 2, 3, 4] rfl) (hD.sub [5, 0, 1, 2, 3, 4] (by decide +kernel) rfl) hS (lv_sub hl [0] rfl)
    · have c_18 : (i 3) = 1 := c_18
      have f_21_3 : iR (i 3) 1 1 := iR_eqL c_18 f_14_2 (iR_c (n := 1) (by decide +kernel) (by decide +kernel)) (by decide +kernel)
      refine lv_aload_n hx hb dX7_fresh_21 rfl (lv_at hl 0 rfl) ?_
      refine lv_aload_n hx hb dX7_fresh_22 rfl (lv_at hl 0 rfl) ?_
      refine k_get (D := (dC, dI)) (ci := 7) (v := .long (j 7)) (C := RX7) (T := TX7) (N := 92) hx hb hts hinX7 hown hK hP 5 rfl rfl 7 (by decide) w_2 rfl rfl dX7_fresh_23 ?_
      refine k_ci (wc := []) (wr := [((r 0), .inl (cI, 1800, .inl f0)), ((r 14), .inl (cI, 2, .inl f14)), ((r 18), .inl (cI, 2, .inl f18)), ((r 34), .inl (cJ, 20, .inr (.inl g34))), ((r 35), .inl (cJ, 24, .inr (.inl g35))), (h, .inr (7, oM r (upd (upd i 8 (u_1.1 0)) 9 (u_1.1 1)) j))]) (fun hPc hDc hFc => va_runV (As := [.long (j 7)]) (rest := []) ⟨hx, hb, hml, hown, hts⟩ (s_X7_isOwn_v5 l dC dI cI cJ cZ cM h (j 7) H.size) (cwV 1 hts gX7_fresh_X7_isOwn rfl rfl rfl (by decide +kernel) ⟨(Nat.le_of_ble_eq_true rfl), (Nat.le_of_ble_eq_true rfl)⟩) (k_pV hPc hDc hK hN hC hS hFc hP (q0 := 5) (ci := 7) rfl rfl) rfl rfl hl.1 rfl (lv_room (Nat.le_of_ble_eq_true rfl)) dX7_fresh_26 ⟨(Nat.le_of_ble_eq_true rfl), (Nat.le_of_ble_eq_true rfl)⟩) hP hD hS hA [] [0, 1, 2, 3, 4, 5] rfl rfl rfl rfl (by decide) (fun _ => rfl) 0 0 rfl rfl (fun r_26 u_26 H locs hw hP hD hS => ?_)
      obtain g_26_0 := hw
      have hP : va_P (dC, dI) vwCl [((r 0), .inl (cI, 1800, .inl f0)), ((r 14), .inl (cI, 2, .inl f14)), ((r 18), .inl (cI, 2, .inl f18)), ((r 34), .inl (cJ, 20, .inr (.inl g34))), ((r 35), .inl (cJ, 24, .inr (.inl g35))), (h, .inr (7, oM r (upd (upd i 8 (u_1.1 0)) 9 (u_1.1 1)) j))] H := hP
      have hD : va_D A [((r 0), .inl (cI, 1800, .inl f0)), ((r 14), .inl (cI, 2, .inl f14)), ((r 18), .inl (cI, 2, .inl f18)), ((r 34), .inl (cJ, 20, .inr (.inl g34))), ((r 35), .inl (cJ, 24, .inr (.inl g35))), (h, .inr (7, oM r (upd (upd i 8 (u_1.1 0)) 9 (u_1.1 1)) j))] := hD
      refine lv_if_eq (tgt := 41) hx hb dX7_fresh_29 (by decide) (fun c_29 => ?_) (fun c_29 => ?_)
      · have c_29 : r_26 = 0 := c_29
        have f_41_4 : iR r_26 0 0 := iR_eqL c_29 g_26_0 (iR_c (n := 0) (by decide +kernel) (by decide +kernel)) (by decide +kernel)
        exact J_41 (u_1.1 0) (u_1.1 1) (iR_w f_13_1 (by decide +kernel)) H locs ls (hP.sub [5, 0, 1, 2, 3, 4] rfl) (hD.sub [5, 0, 1, 2, 3, 4] (by decide +kernel) rfl) hS (lv_sub hl [0] rfl)
      · have c_29 : ¬ r_26 = 0 := c_29
        have f_32_4 : iR r_26 1 1 := iR_neL c_29 g_26_0 (iR_c (n := 0) (by decide +kernel) (by decide +kernel)) (by decide +kernel)
        exact J_32   H locs ls (hP.sub [5, 0, 1, 2, 3, 4] rfl) (hD.sub [5, 0, 1, 2, 3, 4] (by decide +kernel) rfl) hS (lv_sub hl [0] rfl)
  · have c_8 : 0 < (u_1.1 0) := i_nle c_8
    have f_11_1 : iR (u_1.1 0) 1 6 := iR_ltR c_8 (iR_c (n := 0) (by decide +kernel) (by decide +kernel)) g_1_0 (by decide +kernel)
    refine lv_lconst (v := 0) hx hb dX7_fresh_11 (by decide +kernel) ?_
    exact k_rl B hP hD hS dX7_fresh_12 ((fun k9 => match k9 with | 0 => (i 3) | 1 => (i 4) | 2 => (i 5) | 3 => (i 6) | 4 => (u_1.1 0) | 5 => (u_1.1 1) | 6 => (i 12) | _ => 0), (fun k9 => match k9 with | 0 => (j 7) | _ => 0), (fun _ => (fun _ => 0)), (fun _ => (fun _ => 0)), (fun _ => 0)) [5, 0, 1, 2, 3, 4] rfl rfl (Nat.le_of_ble_eq_true rfl) (Nat.le_of_ble_eq_true rfl) ⟨(hI 3), (hI 4), (hI 5), (iR_w f_11_1 (by decide +kernel))⟩
set_option maxHeartbeats 8000000 in
set_option maxRecDepth 100000 in
theorem s_X7_worthOf_v1 (l : Launch) (dC : Nat → ClassId) (dI : Nat → Nat → Nat) (cI cJ cZ cM : ClassId) (h : Nat) (r : Nat → Nat) (i : Nat → Int32) (j : Nat → Int64) (x1 : Int32) (f14 : Nat → Int32) (f15 : Nat → Int32) (hI : mR i) (hf14 : aR f14 0 10) : k_Mi l yX7_worthOf wsX7_worthOf ({ frames := 2, cells := 0, slots := 0, locals := 61 }) (dC, dI) vwCl (tyy cI cJ cZ cM) [(h, .inr (7, oM r i j)), ((r 14), .inl (cI, 2, .inl f14)), ((r 15), .inl (cI, 20, .inl f15))] [.ref h, .int x1] 0 0 (fun (u9 : Unit) => [(h, .inr (7, oM r i j)), ((r 14), .inl (cI, 2, .inl f14)), ((r 15), .inl (cI, 20, .inl f15))]) (fun (r9 : Int32) (u9 : Unit) => True) := by
  refine fun sz => k_enter (cc := cX7_worthOf) (maxL := 4) (ret := some (.int)) (Qc := fun A => va_Qi (fun (r9 : Int32) (u9 : Unit) => True) (fun u => k_B (dC, dI) vwCl (tyy cI cJ cZ cM) A ((fun (u9 : Unit) => [(h, .inr (7, oM r i j)), ((r 14), .inl (cI, 2, .inl f14)), ((r 15), .inl (cI, 20, .inl f15))]) u)) A) sz (by decide +kernel) rfl (Nat.le_of_ble_eq_true rfl) (fun p e s m args below meth c A ls H locs B hP hD hS hl => ?_)
  obtain ⟨hx, hb, hml, hown, hts, hr, hlk, hnm, hK, hA, hN, hC⟩ := id B
  have hown : s.vm.findClass RX7 = some m.cls := hown
  have hl : lv_has ls 4 [(0, .ref h), (1, .int x1)] := hl
  have w_0 : (Cond.fieldLink RX7 54 "WishSeaModel" "things" "[I").before args s = true := hts _ (List.mem_of_getElem? (i := 1) rfl)
  have w_1 : (Cond.fieldLink RX7 51 "WishSeaModel" "bank" "I").before args s = true := hts _ (List.mem_of_getElem? (i := 2) rfl)
  have w_2 : (Cond.fieldLink RX7 57 "WishSeaModel" "thingWorth" "[I").before args s = true := hts _ (List.mem_of_getElem? (i := 3) rfl)
  have hinX7 : ∀ w ∈ u_ws RX7 TX7 92, w ∈ wsX7_worthOf := fun _ h => List.mem_cons_of_mem _ (List.mem_append_right _ h)
  refine lv_iconst (v := 0) hx hb dX7_worthOf_0 (by decide +kernel) ?_
  refine lv_istore_n (lv' := [(2, .int 0), (0, .ref h), (1, .int x1)]) hx hb dX7_worthOf_1 rfl hl (by decide) rfl (fun ls hl => ?_)
  refine lv_iconst (v := 0) hx hb dX7_worthOf_2 (by decide +kernel) ?_
  have J_4 : ∀ (n_4 : Nat) (j4_L2 : Int32) (j4_L3 : Int32) (hj4_L3 : iR j4_L3 0 10) (hm_4 : (10 - j4_L3.toInt).toNat < n_4) (H : Heap) (locs : List Loc) (ls : Array Slot), va_P (dC, dI) vwCl [(h, .inr (7, oM r i j)), ((r 14), .inl (cI, 2, .inl f14)), ((r 15), .inl (cI, 20, .inl f15))] H → va_D A [(h, .inr (7, oM r i j)), ((r 14), .inl (cI, 2, .inl f14)), ((r 15), .inl (cI, 20, .inl f15))] → va_S A s.heap H locs → lv_has ls 4 [(0, .ref h), (1, .int x1), (2, .int j4_L2), (3, .int j4_L3)] → W p l e ({ frames := 2, cells := 0, slots := 0, locals := 61 }) s m args below meth c H locs 0 0 (MQ below (va_Qi (fun (r9 : Int32) (u9 : Unit) => True) (fun u => k_B (dC, dI) vwCl (tyy cI cJ cZ cM) A ((fun (u9 : Unit) => [(h, .inr (7, oM r i j)), ((r 14), .inl (cI, 2, .inl f14)), ((r 15), .inl (cI, 20, .inl f15))]) u)) A) args s 0 0 A) (F0 m 4 ls []) := by
    intro n_4
    induction n_4 with
    | zero => intro j4_L2 j4_L3 hj4_L3 hm_4; exact absurd hm_4 (Nat.not_lt_zero _)
    | succ n_4 ih_4 =>
      intro j4_L2 j4_L3 hj4_L3 hm_4 H locs ls hP hD hS hl
      refine lv_iload_n hx hb dX7_worthOf_4 rfl (lv_at hl 3 rfl) ?_
      refine lv_aload_n hx hb dX7_worthOf_5 rfl (lv_at hl 0 rfl) ?_
      refine k_get (D := (dC, dI)) (ci := 7) (v := .ref (r 14)) (C := RX7) (T := TX7) (N := 92) hx hb hts hinX7 hown hK hP 0 rfl rfl 14 (by decide) w_0 rfl rfl dX7_worthOf_6 ?_
      refine lv_aload_n hx hb dX7_worthOf_9 rfl (lv_at hl 0 rfl) ?_
      have f_10_1 : iR (i 13) 0 1 := hI 13
      refine k_get (D := (dC, dI)) (ci := 7) (v := .int (i 13)) (C := RX7) (T := TX7) (N := 92) hx hb hts hinX7 hown hK hP 0 rfl rfl 13 (by decide) w_1 rfl rfl dX7_worthOf_10 ?_
      refine va_iald hx hb hK hP 1 0 rfl rfl (iR_vp f_10_1 (by decide +kernel)) dX7_worthOf_13 ?_
      have f_13_2 : iR (f14 (i 13).toNatClampNeg) 0 10 := hf14 _
      refine lv_icmp_ge (tgt := 52) hx hb dX7_worthOf_14 (by decide) (fun c_14 => ?_) (fun c_14 => ?_)
      · have c_14 : (f14 (i 13).toNatClampNeg) ≤ j4_L3 := c_14
        refine lv_iload_n hx hb dX7_worthOf_52 rfl (lv_at hl 2 rfl) ?_
        exact k_ri B hP hD hS dX7_worthOf_53 () [0, 1, 2] rfl rfl rfl (Nat.le_of_ble_eq_true rfl) (Nat.le_of_ble_eq_true rfl) trivial
      · have c_14 : j4_L3 < (f14 (i 13).toNatClampNeg) := i_nle c_14
        have f_17_3 : iR j4_L3 0 9 := iR_ltL c_14 hj4_L3 f_13_2 (by decide +kernel)
        have f_17_4 : iR (f14 (i 13).toNatClampNeg) 1 10 := iR_ltR c_14 hj4_L3 f_13_2 (by decide +kernel)
        refine lv_iload_n hx hb dX7_worthOf_17 rfl (lv_at hl 2 rfl) ?_
        refine lv_iload_n hx hb dX7_worthOf_18 rfl (lv_at hl 1 rfl) ?_
        refine lv_iload_n hx hb dX7_worthOf_19 rfl (lv_at hl 3 rfl) ?_
        refine k_ci (wc := []) (wr := [(h, .inr (7, oM r i j)), ((r 14), .inl (cI, 2, .inl f14)), ((r 15), .inl (cI, 20, .inl f15))]) (fun hPc hDc hFc => va_runS (As := [.int x1, .int j4_L3]) (rest := [.int j4_L2]) ⟨hx, hb, hml, hown, hts⟩ (s_X7_holds_v0 l dC dI cI cJ cZ cM x1 j4_L3 H.size) (va_cwS 2 hts gX7_worthOf_X7_holds rfl rfl rfl (by decide +kernel) ⟨(Nat.le_of_ble_eq_true rfl), (Nat.le_of_ble_eq_true rfl)⟩) (k_pS hPc hDc hK hN hC hS hFc) rfl rfl hl.1 rfl (lv_room (Nat.le_of_ble_eq_true rfl)) dX7_worthOf_20 ⟨(Nat.le_of_ble_eq_true rfl), (Nat.le_of_ble_eq_true rfl)⟩) hP hD hS hA [] [0, 1, 2] rfl rfl rfl rfl (by decide) (fun _ => rfl) 0 0 rfl rfl (fun r_20 u_20 H locs hw hP hD hS => ?_)
        obtain g_20_0 := hw
        have hP : va_P (dC, dI) vwCl [(h, .inr (7, oM r i j)), ((r 14), .inl (cI, 2, .inl f14)), ((r 15), .inl (cI, 20, .inl f15))] H := hP
        have hD : va_D A [(h, .inr (7, oM r i j)), ((r 14), .inl (cI, 2, .inl f14)), ((r 15), .inl (cI, 20, .inl f15))] := hD
        have J_44 : ∀ (j44_S0 : Int32)  (H : Heap) (locs : List Loc) (ls : Array Slot), va_P (dC, dI) vwCl [(h, .inr (7, oM r i j)), ((r 14), .inl (cI, 2, .inl f14)), ((r 15), .inl (cI, 20, .inl f15))] H → va_D A [(h, .inr (7, oM r i j)), ((r 14), .inl (cI, 2, .inl f14)), ((r 15), .inl (cI, 20, .inl f15))] → va_S A s.heap H locs → lv_has ls 4 [(0, .ref h), (1, .int x1), (3, .int j4_L3)] → W p l e ({ frames := 2, cells := 0, slots := 0, locals := 61 }) s m args below meth c H locs 0 0 (MQ below (va_Qi (fun (r9 : Int32) (u9 : Unit) => True) (fun u => k_B (dC, dI) vwCl (tyy cI cJ cZ cM) A ((fun (u9 : Unit) => [(h, .inr (7, oM r i j)), ((r 14), .inl (cI, 2, .inl f14)), ((r 15), .inl (cI, 20, .inl f15))]) u)) A) args s 0 0 A) (F0 m 44 ls [.int j44_S0, .int j4_L2]) := by
          intro j44_S0  H locs ls hP hD hS hl
          refine lv_iadd hx hb dX7_worthOf_44 ?_
          refine lv_topi (fun y_44 ey_44 => ?_)
          refine lv_istore_n (lv' := [(2, .int y_44), (0, .ref h), (1, .int x1), (3, .int j4_L3)]) hx hb dX7_worthOf_45 rfl hl (by decide) rfl (fun ls hl => ?_)
          obtain ⟨y_46, ey_46⟩ : ∃ y : Int32, y = j4_L3 + 1 := ⟨_, rfl⟩
          refine lv_iinc (v := y_46) (lv' := [(3, .int y_46), (2, .int y_44), (0, .ref h), (1, .int x1)]) hx hb dX7_worthOf_46 hl (k := 3) rfl ey_46.symm (by decide) rfl (fun ls hl => ?_)
          have f_46_1 : iR y_46 1 10 := iR_add ey_46 f_17_3 (iR_c (n := 1) (by decide +kernel) (by decide +kernel)) (by decide +kernel)
          refine lv_goto (tgt := 4) hx hb dX7_worthOf_49 (by decide) ?_
          exact ih_4 y_44 y_46 (iR_w f_46_1 (by decide +kernel)) (m_up (B := 10) hm_4 ey_46 f_17_3 (by decide +kernel)) H locs ls hP hD hS (lv_sub hl [2, 3, 1, 0] rfl)
        refine lv_if_eq (tgt := 43) hx hb dX7_worthOf_23 (by decide) (fun c_23 => ?_) (fun c_23 => ?_)
        · have c_23 : r_20 = 0 := c_23
          have f_43_5 : iR r_20 0 0 := iR_eqL c_23 g_20_0 (iR_c (n := 0) (by decide +kernel) (by decide +kernel)) (by decide +kernel)
          refine lv_iconst (v := 0) hx hb dX7_worthOf_43 (by decide +kernel) ?_
          exact J_44 0  H locs ls hP hD hS (lv_sub hl [0, 1, 3] rfl)
        · have c_23 : ¬ r_20 = 0 := c_23
          have f_26_5 : iR r_20 1 1 := iR_neL c_23 g_20_0 (iR_c (n := 0) (by decide +kernel) (by decide +kernel)) (by decide +kernel)
          refine lv_aload_n hx hb dX7_worthOf_26 rfl (lv_at hl 0 rfl) ?_
          refine k_get (D := (dC, dI)) (ci := 7) (v := .ref (r 15)) (C := RX7) (T := TX7) (N := 92) hx hb hts hinX7 hown hK hP 0 rfl rfl 15 (by decide) w_2 rfl rfl dX7_worthOf_27 ?_
          refine lv_bipush (v := 10) hx hb dX7_worthOf_30 (by decide +kernel) ?_
          refine lv_aload_n hx hb dX7_worthOf_32 rfl (lv_at hl 0 rfl) ?_
          refine k_get (D := (dC, dI)) (ci := 7) (v := .int (i 13)) (C := RX7) (T := TX7) (N := 92) hx hb hts hinX7 hown hK hP 0 rfl rfl 13 (by decide) w_1 rfl rfl dX7_worthOf_33 ?_
          refine lv_imul hx hb dX7_worthOf_36 ?_
          refine lv_topi (fun y_36 ey_36 => ?_)
          have f_36_6 : iR y_36 0 10 := iR_mul ey_36 (iR_c (n := 10) (by decide +kernel) (by decide +kernel)) f_10_1 (by decide +kernel)
          refine lv_iload_n hx hb dX7_worthOf_37 rfl (lv_at hl 3 rfl) ?_
          refine lv_iadd hx hb dX7_worthOf_38 ?_
          refine lv_topi (fun y_38 ey_38 => ?_)
          have f_38_7 : iR y_38 0 19 := iR_add ey_38 f_36_6 f_17_3 (by decide +kernel)
          refine va_iald hx hb hK hP 2 0 rfl rfl (iR_vp f_38_7 (by decide +kernel)) dX7_worthOf_39 ?_
          refine lv_goto (tgt := 44) hx hb dX7_worthOf_40 (by decide) ?_
          exact J_44 (f15 y_38.toNatClampNeg)  H locs ls hP hD hS (lv_sub hl [0, 1, 3] rfl)
  refine lv_istore_n (lv' := [(3, .int 0), (2, .int 0), (0, .ref h), (1, .int x1)]) hx hb dX7_worthOf_3 rfl hl (by decide) rfl (fun ls hl => ?_)
  exact J_4 _ 0 0 (iR_c (n := 0) (by decide +kernel) (by decide +kernel)) (Nat.lt_succ_self _) H locs ls hP hD hS (lv_sub hl [2, 3, 1, 0] rfl)
