set_option maxHeartbeats 8000000 in
set_option maxRecDepth 100000 in
theorem s_X7_canBear_v0 (l : Launch) (dC : Nat → ClassId) (dI : Nat → Nat → Nat) (cI cJ cZ cM : ClassId) (h : Nat) (r : Nat → Nat) (i : Nat → Int32) (j : Nat → Int64) (x1 : Int32) (f78 : Nat → Int32) (f79 : Nat → Int32) (hI : mR i) : k_Mi l yX7_canBear wsX7_canBear ({ frames := 1, cells := 0, slots := 0, locals := 40 }) (dC, dI) vwCl (tyy cI cJ cZ cM) [(h, .inr (7, oM r i j)), ((r 78), .inl (cI, 20, .inl f78)), ((r 79), .inl (cI, 20, .inl f79))] [.ref h, .int x1] 0 0 (fun (u9 : Unit) => [(h, .inr (7, oM r i j)), ((r 78), .inl (cI, 20, .inl f78)), ((r 79), .inl (cI, 20, .inl f79))]) (fun (r9 : Int32) (u9 : Unit) => (iR r9 0 1)) := by
  refine fun sz => k_enter (cc := cX7_canBear) (maxL := 3) (ret := some (.boolean)) (Qc := fun A => va_Qi (fun (r9 : Int32) (u9 : Unit) => (iR r9 0 1)) (fun u => k_B (dC, dI) vwCl (tyy cI cJ cZ cM) A ((fun (u9 : Unit) => [(h, .inr (7, oM r i j)), ((r 78), .inl (cI, 20, .inl f78)), ((r 79), .inl (cI, 20, .inl f79))]) u)) A) sz (by decide +kernel) rfl (Nat.le_of_ble_eq_true rfl) (fun p e s m args below meth c A ls H locs B hP hD hS hl => ?_)
  obtain ⟨hx, hb, hml, hown, hts, hr, hlk, hnm, hK, hA, hN, hC⟩ := id B
  have hown : s.vm.findClass RX7 = some m.cls := hown
  have hl : lv_has ls 3 [(0, .ref h), (1, .int x1)] := hl
  have w_0 : (Cond.fieldLink RX7 246 "WishSeaModel" "fallMany" "I").before args s = true := hts _ (List.mem_of_getElem? (i := 1) rfl)
  have w_1 : (Cond.fieldLink RX7 249 "WishSeaModel" "fallDark" "[I").before args s = true := hts _ (List.mem_of_getElem? (i := 2) rfl)
  have w_2 : (Cond.fieldLink RX7 252 "WishSeaModel" "fallIs" "[I").before args s = true := hts _ (List.mem_of_getElem? (i := 3) rfl)
  have hinX7 : ∀ w ∈ u_ws RX7 TX7 92, w ∈ wsX7_canBear := fun _ h => List.mem_cons_of_mem _ (List.mem_append_right _ h)
  refine lv_iconst (v := 0) hx hb dX7_canBear_0 (by decide +kernel) ?_
  have J_2 : ∀ (n_2 : Nat) (j2_L2 : Int32) (hj2_L2 : iR j2_L2 0 20) (hm_2 : (20 - j2_L2.toInt).toNat < n_2) (H : Heap) (locs : List Loc) (ls : Array Slot), va_P (dC, dI) vwCl [(h, .inr (7, oM r i j)), ((r 78), .inl (cI, 20, .inl f78)), ((r 79), .inl (cI, 20, .inl f79))] H → va_D A [(h, .inr (7, oM r i j)), ((r 78), .inl (cI, 20, .inl f78)), ((r 79), .inl (cI, 20, .inl f79))] → va_S A s.heap H locs → lv_has ls 3 [(0, .ref h), (1, .int x1), (2, .int j2_L2)] → W p l e ({ frames := 1, cells := 0, slots := 0, locals := 40 }) s m args below meth c H locs 0 0 (MQ below (va_Qi (fun (r9 : Int32) (u9 : Unit) => (iR r9 0 1)) (fun u => k_B (dC, dI) vwCl (tyy cI cJ cZ cM) A ((fun (u9 : Unit) => [(h, .inr (7, oM r i j)), ((r 78), .inl (cI, 20, .inl f78)), ((r 79), .inl (cI, 20, .inl f79))]) u)) A) args s 0 0 A) (F0 m 2 ls []) := by
    intro n_2
    induction n_2 with
    | zero => intro j2_L2 hj2_L2 hm_2; exact absurd hm_2 (Nat.not_lt_zero _)
    | succ n_2 ih_2 =>
      intro j2_L2 hj2_L2 hm_2 H locs ls hP hD hS hl
      refine lv_iload_n hx hb dX7_canBear_2 rfl (lv_at hl 2 rfl) ?_
      refine lv_aload_n hx hb dX7_canBear_3 rfl (lv_at hl 0 rfl) ?_
      have f_4_1 : iR (i 77) 0 20 := hI 77
      refine k_get (D := (dC, dI)) (ci := 7) (v := .int (i 77)) (C := RX7) (T := TX7) (N := 92) hx hb hts hinX7 hown hK hP 0 rfl rfl 77 (by decide) w_0 rfl rfl dX7_canBear_4 ?_
      refine lv_icmp_ge (tgt := 42) hx hb dX7_canBear_7 (by decide) (fun c_7 => ?_) (fun c_7 => ?_)
      · have c_7 : (i 77) ≤ j2_L2 := c_7
        refine lv_iconst (v := 1) hx hb dX7_canBear_42 (by decide +kernel) ?_
        exact k_ri B hP hD hS dX7_canBear_43 () [0, 1, 2] rfl rfl rfl (Nat.le_of_ble_eq_true rfl) (Nat.le_of_ble_eq_true rfl) (show iR 1 0 1 from (iR_c (n := 1) (a := 0) (b := 1) (by decide +kernel) (by decide +kernel)))
      · have c_7 : j2_L2 < (i 77) := i_nle c_7
        have f_10_2 : iR j2_L2 0 19 := iR_ltL c_7 hj2_L2 f_4_1 (by decide +kernel)
        have f_10_3 : iR (i 77) 1 20 := iR_ltR c_7 hj2_L2 f_4_1 (by decide +kernel)
        refine lv_aload_n hx hb dX7_canBear_10 rfl (lv_at hl 0 rfl) ?_
        refine k_get (D := (dC, dI)) (ci := 7) (v := .ref (r 78)) (C := RX7) (T := TX7) (N := 92) hx hb hts hinX7 hown hK hP 0 rfl rfl 78 (by decide) w_1 rfl rfl dX7_canBear_11 ?_
        refine lv_iload_n hx hb dX7_canBear_14 rfl (lv_at hl 2 rfl) ?_
        refine va_iald hx hb hK hP 1 0 rfl rfl (iR_vp f_10_2 (by decide +kernel)) dX7_canBear_15 ?_
        refine lv_iload_n hx hb dX7_canBear_16 rfl (lv_at hl 1 rfl) ?_
        have J_25 : ∀ (j25_S0 : Int32) (hj25_S0 : iR j25_S0 0 1) (H : Heap) (locs : List Loc) (ls : Array Slot), va_P (dC, dI) vwCl [(h, .inr (7, oM r i j)), ((r 78), .inl (cI, 20, .inl f78)), ((r 79), .inl (cI, 20, .inl f79))] H → va_D A [(h, .inr (7, oM r i j)), ((r 78), .inl (cI, 20, .inl f78)), ((r 79), .inl (cI, 20, .inl f79))] → va_S A s.heap H locs → lv_has ls 3 [(0, .ref h), (1, .int x1), (2, .int j2_L2)] → W p l e ({ frames := 1, cells := 0, slots := 0, locals := 40 }) s m args below meth c H locs 0 0 (MQ below (va_Qi (fun (r9 : Int32) (u9 : Unit) => (iR r9 0 1)) (fun u => k_B (dC, dI) vwCl (tyy cI cJ cZ cM) A ((fun (u9 : Unit) => [(h, .inr (7, oM r i j)), ((r 78), .inl (cI, 20, .inl f78)), ((r 79), .inl (cI, 20, .inl f79))]) u)) A) args s 0 0 A) (F0 m 25 ls [.int j25_S0]) := by
          intro j25_S0 hj25_S0 H locs ls hP hD hS hl
          refine lv_aload_n hx hb dX7_canBear_25 rfl (lv_at hl 0 rfl) ?_
          refine k_get (D := (dC, dI)) (ci := 7) (v := .ref (r 79)) (C := RX7) (T := TX7) (N := 92) hx hb hts hinX7 hown hK hP 0 rfl rfl 79 (by decide) w_2 rfl rfl dX7_canBear_26 ?_
          refine lv_iload_n hx hb dX7_canBear_29 rfl (lv_at hl 2 rfl) ?_
          refine va_iald hx hb hK hP 2 0 rfl rfl (iR_vp f_10_2 (by decide +kernel)) dX7_canBear_30 ?_
          refine lv_icmp_eq (tgt := 36) hx hb dX7_canBear_31 (by decide) (fun c_31 => ?_) (fun c_31 => ?_)
          · have c_31 : j25_S0 = (f79 j2_L2.toNatClampNeg) := c_31
            have f_36_1 : iR (f79 j2_L2.toNatClampNeg) 0 1 := iR_eqR c_31 hj25_S0 (iR_top _) (by decide +kernel)
            obtain ⟨y_36, ey_36⟩ : ∃ y : Int32, y = j2_L2 + 1 := ⟨_, rfl⟩
            refine lv_iinc (v := y_36) (lv' := [(2, .int y_36), (0, .ref h), (1, .int x1)]) hx hb dX7_canBear_36 hl (k := 2) rfl ey_36.symm (by decide) rfl (fun ls hl => ?_)
            have f_36_2 : iR y_36 1 20 := iR_add ey_36 f_10_2 (iR_c (n := 1) (a := 1) (b := 1) (by decide +kernel) (by decide +kernel)) (by decide +kernel)
            refine lv_goto (tgt := 2) hx hb dX7_canBear_39 (by decide) ?_
            exact ih_2 y_36 (iR_w f_36_2 (by decide +kernel)) (m_up (B := 20) hm_2 ey_36 f_10_2 (by decide +kernel)) H locs ls hP hD hS (lv_sub hl [1, 2, 0] rfl)
          · have c_31 : ¬ j25_S0 = (f79 j2_L2.toNatClampNeg) := c_31
            refine lv_iconst (v := 0) hx hb dX7_canBear_34 (by decide +kernel) ?_
            exact k_ri B hP hD hS dX7_canBear_35 () [0, 1, 2] rfl rfl rfl (Nat.le_of_ble_eq_true rfl) (Nat.le_of_ble_eq_true rfl) (show iR 0 0 1 from (iR_c (n := 0) (a := 0) (b := 1) (by decide +kernel) (by decide +kernel)))
        refine lv_icmp_le (tgt := 24) hx hb dX7_canBear_17 (by decide) (fun c_17 => ?_) (fun c_17 => ?_)
        · have c_17 : (f78 j2_L2.toNatClampNeg) ≤ x1 := c_17
          refine lv_iconst (v := 0) hx hb dX7_canBear_24 (by decide +kernel) ?_
          exact J_25 0 (iR_c (n := 0) (a := 0) (b := 1) (by decide +kernel) (by decide +kernel)) H locs ls hP hD hS (lv_sub hl [0, 1, 2] rfl)
        · have c_17 : x1 < (f78 j2_L2.toNatClampNeg) := i_nle c_17
          have f_20_4 : iR x1 (-2147483648) 2147483646 := iR_ltL c_17 (iR_top _) (iR_top _) (by decide +kernel)
          have f_20_5 : iR (f78 j2_L2.toNatClampNeg) (-2147483647) 2147483647 := iR_ltR c_17 (iR_top _) (iR_top _) (by decide +kernel)
          refine lv_iconst (v := 1) hx hb dX7_canBear_20 (by decide +kernel) ?_
          refine lv_goto (tgt := 25) hx hb dX7_canBear_21 (by decide) ?_
          exact J_25 1 (iR_c (n := 1) (a := 0) (b := 1) (by decide +kernel) (by decide +kernel)) H locs ls hP hD hS (lv_sub hl [0, 1, 2] rfl)
  refine lv_istore_n (lv' := [(2, .int 0), (0, .ref h), (1, .int x1)]) hx hb dX7_canBear_1 rfl hl (by decide) rfl (fun ls hl => ?_)
  exact J_2 _ 0 (iR_c (n := 0) (a := 0) (b := 20) (by decide +kernel) (by decide +kernel)) (Nat.lt_succ_self _) H locs ls hP hD hS (lv_sub hl [1, 2, 0] rfl)
set_option maxHeartbeats 8000000 in
set_option maxRecDepth 100000 in
theorem s_X7_bears_v0 (l : Launch) (dC : Nat → ClassId) (dI : Nat → Nat → Nat) (cI cJ cZ cM : ClassId) (h : Nat) (r : Nat → Nat) (i : Nat → Int32) (j : Nat → Int64) (x1 : Int32) (f78 : Nat → Int32) (f79 : Nat → Int32) (hI : mR i) : k_Mi l yX7_bears wsX7_bears ({ frames := 2, cells := 0, slots := 0, locals := 62 }) (dC, dI) vwCl (tyy cI cJ cZ cM) [(h, .inr (7, oM r i j)), ((r 78), .inl (cI, 20, .inl f78)), ((r 79), .inl (cI, 20, .inl f79))] [.ref h, .int x1] 0 0 (fun (u9 : Unit) => [(h, .inr (7, oM r i j)), ((r 78), .inl (cI, 20, .inl f78)), ((r 79), .inl (cI, 20, .inl f79))]) (fun (r9 : Int32) (u9 : Unit) => True) := by
  refine fun sz => k_enter (cc := cX7_bears) (maxL := 6) (ret := some (.int)) (Qc := fun A => va_Qi (fun (r9 : Int32) (u9 : Unit) => True) (fun u => k_B (dC, dI) vwCl (tyy cI cJ cZ cM) A ((fun (u9 : Unit) => [(h, .inr (7, oM r i j)), ((r 78), .inl (cI, 20, .inl f78)), ((r 79), .inl (cI, 20, .inl f79))]) u)) A) sz (by decide +kernel) rfl (Nat.le_of_ble_eq_true rfl) (fun p e s m args below meth c A ls H locs B hP hD hS hl => ?_)
  obtain ⟨hx, hb, hml, hown, hts, hr, hlk, hnm, hK, hA, hN, hC⟩ := id B
  have hown : s.vm.findClass RX7 = some m.cls := hown
  have hl : lv_has ls 6 [(0, .ref h), (1, .int x1)] := hl
  refine lv_iload_n hx hb dX7_bears_0 rfl (lv_at hl 1 rfl) ?_
  refine lv_iconst (v := 0) hx hb dX7_bears_1 (by decide +kernel) ?_
  refine lv_iconst (v := 2) hx hb dX7_bears_2 (by decide +kernel) ?_
  refine k_ci (wc := []) (wr := [(h, .inr (7, oM r i j)), ((r 78), .inl (cI, 20, .inl f78)), ((r 79), .inl (cI, 20, .inl f79))]) (fun hPc hDc hFc => va_runS (As := [.int x1, .int 0, .int 2]) (rest := []) ⟨hx, hb, hml, hown, hts⟩ (s_X7_is_v0 l dC dI cI cJ cZ cM x1 0 2 H.size) (va_cwS 3 hts gX7_bears_X7_is rfl rfl rfl (by decide +kernel) ⟨(Nat.le_of_ble_eq_true rfl), (Nat.le_of_ble_eq_true rfl)⟩) (k_pS hPc hDc hK hN hC hS hFc) rfl rfl hl.1 rfl (lv_room (Nat.le_of_ble_eq_true rfl)) dX7_bears_3 ⟨(Nat.le_of_ble_eq_true rfl), (Nat.le_of_ble_eq_true rfl)⟩) hP hD hS hA [] [0, 1, 2] rfl rfl rfl rfl (by decide) (fun _ => rfl) 0 0 rfl rfl (fun r_3 u_3 H locs hw hP hD hS => ?_)
  obtain ⟨g_3_0, g_3_1⟩ := hw
  have hP : va_P (dC, dI) vwCl [(h, .inr (7, oM r i j)), ((r 78), .inl (cI, 20, .inl f78)), ((r 79), .inl (cI, 20, .inl f79))] H := hP
  have hD : va_D A [(h, .inr (7, oM r i j)), ((r 78), .inl (cI, 20, .inl f78)), ((r 79), .inl (cI, 20, .inl f79))] := hD
  have g_3_1 : (r_3 = 0) ∨ ((0 ≤ x1) ∧ (x1 ≤ 2)) := g_3_1
  refine lv_if_ne (tgt := 11) hx hb dX7_bears_6 (by decide) (fun c_6 => ?_) (fun c_6 => ?_)
  · have c_6 : ¬ r_3 = 0 := c_6
    have f_11_1 : iR r_3 1 1 := iR_neL c_6 g_3_0 (iR_c (n := 0) (a := 0) (b := 0) (by decide +kernel) (by decide +kernel)) (by decide +kernel)
    obtain ⟨d_6_1_0, d_6_1_1⟩ := g_3_1.resolve_left c_6
    have f_11_2 : iR x1 0 2147483647 := iR_leR d_6_1_0 (iR_c (n := 0) (a := 0) (b := 0) (by decide +kernel) (by decide +kernel)) (iR_top _) (by decide +kernel)
    have f_11_3 : iR x1 0 2 := iR_leL d_6_1_1 f_11_2 (iR_c (n := 2) (a := 2) (b := 2) (by decide +kernel) (by decide +kernel)) (by decide +kernel)
    refine lv_iconst (v := 0) hx hb dX7_bears_11 (by decide +kernel) ?_
    refine lv_istore_n (lv' := [(2, .int 0), (0, .ref h), (1, .int x1)]) hx hb dX7_bears_12 rfl hl (by decide) rfl (fun ls hl => ?_)
    refine lv_iconst (v := (-1)) hx hb dX7_bears_13 (by decide +kernel) ?_
    refine lv_istore_n (lv' := [(3, .int (-1)), (2, .int 0), (0, .ref h), (1, .int x1)]) hx hb dX7_bears_14 rfl hl (by decide) rfl (fun ls hl => ?_)
    refine lv_iconst (v := (-1)) hx hb dX7_bears_15 (by decide +kernel) ?_
    refine lv_istore (lv' := [(4, .int (-1)), (3, .int (-1)), (2, .int 0), (0, .ref h), (1, .int x1)]) hx hb dX7_bears_16 hl (by decide) rfl (fun ls hl => ?_)
    refine lv_iconst (v := 1) hx hb dX7_bears_18 (by decide +kernel) ?_
    have J_21 : ∀ (n_21 : Nat) (j21_L2 : Int32) (j21_L3 : Int32) (j21_L4 : Int32) (j21_L5 : Int32) (hj21_L3 : iR j21_L3 (-1) 999) (hj21_L4 : iR j21_L4 (-1) 999) (hj21_L5 : iR j21_L5 1 1000) (hm_21 : (1000 - j21_L5.toInt).toNat < n_21) (H : Heap) (locs : List Loc) (ls : Array Slot), va_P (dC, dI) vwCl [(h, .inr (7, oM r i j)), ((r 78), .inl (cI, 20, .inl f78)), ((r 79), .inl (cI, 20, .inl f79))] H → va_D A [(h, .inr (7, oM r i j)), ((r 78), .inl (cI, 20, .inl f78)), ((r 79), .inl (cI, 20, .inl f79))] → va_S A s.heap H locs → lv_has ls 6 [(0, .ref h), (1, .int x1), (2, .int j21_L2), (3, .int j21_L3), (4, .int j21_L4), (5, .int j21_L5)] → W p l e ({ frames := 2, cells := 0, slots := 0, locals := 62 }) s m args below meth c H locs 0 0 (MQ below (va_Qi (fun (r9 : Int32) (u9 : Unit) => True) (fun u => k_B (dC, dI) vwCl (tyy cI cJ cZ cM) A ((fun (u9 : Unit) => [(h, .inr (7, oM r i j)), ((r 78), .inl (cI, 20, .inl f78)), ((r 79), .inl (cI, 20, .inl f79))]) u)) A) args s 0 0 A) (F0 m 21 ls []) := by
      intro n_21
      induction n_21 with
      | zero => intro j21_L2 j21_L3 j21_L4 j21_L5 hj21_L3 hj21_L4 hj21_L5 hm_21; exact absurd hm_21 (Nat.not_lt_zero _)
      | succ n_21 ih_21 =>
        intro j21_L2 j21_L3 j21_L4 j21_L5 hj21_L3 hj21_L4 hj21_L5 hm_21 H locs ls hP hD hS hl
        refine lv_iload hx hb dX7_bears_21 (lv_at hl 5 rfl) ?_
        refine lv_sipush (v := 999) hx hb dX7_bears_23 (by decide +kernel) ?_
        refine lv_icmp_gt (tgt := 66) hx hb dX7_bears_26 (by decide) (fun c_26 => ?_) (fun c_26 => ?_)
        · have c_26 : 999 < j21_L5 := c_26
          have f_66_1 : iR j21_L5 1000 1000 := iR_ltR c_26 (iR_c (n := 999) (a := 999) (b := 999) (by decide +kernel) (by decide +kernel)) hj21_L5 (by decide +kernel)
          refine lv_iload_n hx hb dX7_bears_66 rfl (lv_at hl 1 rfl) ?_
          refine lv_if_ne (tgt := 74) hx hb dX7_bears_67 (by decide) (fun c_67 => ?_) (fun c_67 => ?_)
          · have c_67 : ¬ x1 = 0 := c_67
            have f_74_2 : iR x1 1 2 := iR_ltR (i_ltne d_6_1_0 (fun q => c_67 q.symm)) (iR_c (n := 0) (a := 0) (b := 0) (by decide +kernel) (by decide +kernel)) f_11_3 (by decide +kernel)
            refine lv_iload_n hx hb dX7_bears_74 rfl (lv_at hl 1 rfl) ?_
            refine lv_iconst (v := 1) hx hb dX7_bears_75 (by decide +kernel) ?_
            refine lv_icmp_ne (tgt := 83) hx hb dX7_bears_76 (by decide) (fun c_76 => ?_) (fun c_76 => ?_)
            · have c_76 : ¬ x1 = 1 := c_76
              have f_83_3 : iR x1 2 2 := iR_neL c_76 f_74_2 (iR_c (n := 1) (a := 1) (b := 1) (by decide +kernel) (by decide +kernel)) (by decide +kernel)
              refine lv_iload hx hb dX7_bears_83 (lv_at hl 4 rfl) ?_
              exact k_ri B hP hD hS dX7_bears_85 () [0, 1, 2] rfl rfl rfl (Nat.le_of_ble_eq_true rfl) (Nat.le_of_ble_eq_true rfl) trivial
            · have c_76 : x1 = 1 := c_76
              have f_79_3 : iR x1 1 1 := iR_eqL c_76 f_74_2 (iR_c (n := 1) (a := 1) (b := 1) (by decide +kernel) (by decide +kernel)) (by decide +kernel)
              refine lv_iload_n hx hb dX7_bears_79 rfl (lv_at hl 3 rfl) ?_
              refine lv_goto (tgt := 85) hx hb dX7_bears_80 (by decide) ?_
              exact k_ri B hP hD hS dX7_bears_85 () [0, 1, 2] rfl rfl rfl (Nat.le_of_ble_eq_true rfl) (Nat.le_of_ble_eq_true rfl) trivial
          · have c_67 : x1 = 0 := c_67
            have f_70_2 : iR x1 0 0 := iR_eqL c_67 f_11_3 (iR_c (n := 0) (a := 0) (b := 0) (by decide +kernel) (by decide +kernel)) (by decide +kernel)
            refine lv_iload_n hx hb dX7_bears_70 rfl (lv_at hl 2 rfl) ?_
            refine lv_goto (tgt := 85) hx hb dX7_bears_71 (by decide) ?_
            exact k_ri B hP hD hS dX7_bears_85 () [0, 1, 2] rfl rfl rfl (Nat.le_of_ble_eq_true rfl) (Nat.le_of_ble_eq_true rfl) trivial
        · have c_26 : j21_L5 ≤ 999 := i_nlt c_26
          have f_29_1 : iR j21_L5 1 999 := iR_leL c_26 hj21_L5 (iR_c (n := 999) (a := 999) (b := 999) (by decide +kernel) (by decide +kernel)) (by decide +kernel)
          refine lv_aload_n hx hb dX7_bears_29 rfl (lv_at hl 0 rfl) ?_
          refine lv_iload hx hb dX7_bears_30 (lv_at hl 5 rfl) ?_
          refine k_ci (wc := [(h, .inr (7, oM r i j)), ((r 78), .inl (cI, 20, .inl f78)), ((r 79), .inl (cI, 20, .inl f79))]) (wr := []) (fun hPc hDc hFc => va_runV (As := [.int j21_L5]) (rest := []) ⟨hx, hb, hml, hown, hts⟩ (s_X7_canBear_v0 l dC dI cI cJ cZ cM h r i j j21_L5 f78 f79 hI H.size) (cwV 1 hts gX7_bears_X7_canBear rfl rfl rfl (by decide +kernel) ⟨(Nat.le_of_ble_eq_true rfl), (Nat.le_of_ble_eq_true rfl)⟩) (k_pV hPc hDc hK hN hC hS hFc hP (q0 := 0) (ci := 7) rfl rfl) rfl rfl hl.1 rfl (lv_room (Nat.le_of_ble_eq_true rfl)) dX7_bears_32 ⟨(Nat.le_of_ble_eq_true rfl), (Nat.le_of_ble_eq_true rfl)⟩) hP hD hS hA [0, 1, 2] [] rfl rfl rfl rfl (by decide) (fun _ => rfl) 0 0 rfl rfl (fun r_32 u_32 H locs hw hP hD hS => ?_)
          have g_32_0 := hw
          have hP : va_P (dC, dI) vwCl [(h, .inr (7, oM r i j)), ((r 78), .inl (cI, 20, .inl f78)), ((r 79), .inl (cI, 20, .inl f79))] H := hP
          have hD : va_D A [(h, .inr (7, oM r i j)), ((r 78), .inl (cI, 20, .inl f78)), ((r 79), .inl (cI, 20, .inl f79))] := hD
          have J_60 : ∀ (j60_L2 : Int32) (j60_L3 : Int32) (j60_L4 : Int32) (hj60_L3 : iR j60_L3 (-1) 999) (hj60_L4 : iR j60_L4 (-1) 999) (H : Heap) (locs : List Loc) (ls : Array Slot), va_P (dC, dI) vwCl [(h, .inr (7, oM r i j)), ((r 78), .inl (cI, 20, .inl f78)), ((r 79), .inl (cI, 20, .inl f79))] H → va_D A [(h, .inr (7, oM r i j)), ((r 78), .inl (cI, 20, .inl f78)), ((r 79), .inl (cI, 20, .inl f79))] → va_S A s.heap H locs → lv_has ls 6 [(0, .ref h), (1, .int x1), (2, .int j60_L2), (3, .int j60_L3), (4, .int j60_L4), (5, .int j21_L5)] → W p l e ({ frames := 2, cells := 0, slots := 0, locals := 62 }) s m args below meth c H locs 0 0 (MQ below (va_Qi (fun (r9 : Int32) (u9 : Unit) => True) (fun u => k_B (dC, dI) vwCl (tyy cI cJ cZ cM) A ((fun (u9 : Unit) => [(h, .inr (7, oM r i j)), ((r 78), .inl (cI, 20, .inl f78)), ((r 79), .inl (cI, 20, .inl f79))]) u)) A) args s 0 0 A) (F0 m 60 ls []) := by
            intro j60_L2 j60_L3 j60_L4 hj60_L3 hj60_L4 H locs ls hP hD hS hl
            obtain ⟨y_60, ey_60⟩ : ∃ y : Int32, y = j21_L5 + 1 := ⟨_, rfl⟩
            refine lv_iinc (v := y_60) (lv' := [(5, .int y_60), (0, .ref h), (1, .int x1), (2, .int j60_L2), (3, .int j60_L3), (4, .int j60_L4)]) hx hb dX7_bears_60 hl (k := 5) rfl ey_60.symm (by decide) rfl (fun ls hl => ?_)
            have f_60_1 : iR y_60 2 1000 := iR_add ey_60 f_29_1 (iR_c (n := 1) (a := 1) (b := 1) (by decide +kernel) (by decide +kernel)) (by decide +kernel)
            refine lv_goto (tgt := 21) hx hb dX7_bears_63 (by decide) ?_
            exact ih_21 j60_L2 j60_L3 j60_L4 y_60 hj60_L3 hj60_L4 (iR_w f_60_1 (by decide +kernel)) (m_up (B := 1000) hm_21 ey_60 f_29_1 (by decide +kernel)) H locs ls hP hD hS (lv_sub hl [1, 2, 3, 4, 5, 0] rfl)
          refine lv_if_ne (tgt := 41) hx hb dX7_bears_35 (by decide) (fun c_35 => ?_) (fun c_35 => ?_)
          · have c_35 : ¬ r_32 = 0 := c_35
            have f_41_2 : iR r_32 1 1 := iR_neL c_35 g_32_0 (iR_c (n := 0) (a := 0) (b := 0) (by decide +kernel) (by decide +kernel)) (by decide +kernel)
            obtain ⟨y_41, ey_41⟩ : ∃ y : Int32, y = j21_L2 + 1 := ⟨_, rfl⟩
            refine lv_iinc (v := y_41) (lv' := [(2, .int y_41), (0, .ref h), (1, .int x1), (3, .int j21_L3), (4, .int j21_L4), (5, .int j21_L5)]) hx hb dX7_bears_41 hl (k := 2) rfl ey_41.symm (by decide) rfl (fun ls hl => ?_)
            refine lv_iload_n hx hb dX7_bears_44 rfl (lv_at hl 3 rfl) ?_
            refine lv_iconst (v := (-1)) hx hb dX7_bears_45 (by decide +kernel) ?_
            have J_55 : ∀ (j55_S0 : Int32) (hj55_S0 : iR j55_S0 0 999) (H : Heap) (locs : List Loc) (ls : Array Slot), va_P (dC, dI) vwCl [(h, .inr (7, oM r i j)), ((r 78), .inl (cI, 20, .inl f78)), ((r 79), .inl (cI, 20, .inl f79))] H → va_D A [(h, .inr (7, oM r i j)), ((r 78), .inl (cI, 20, .inl f78)), ((r 79), .inl (cI, 20, .inl f79))] → va_S A s.heap H locs → lv_has ls 6 [(0, .ref h), (1, .int x1), (2, .int y_41), (5, .int j21_L5)] → W p l e ({ frames := 2, cells := 0, slots := 0, locals := 62 }) s m args below meth c H locs 0 0 (MQ below (va_Qi (fun (r9 : Int32) (u9 : Unit) => True) (fun u => k_B (dC, dI) vwCl (tyy cI cJ cZ cM) A ((fun (u9 : Unit) => [(h, .inr (7, oM r i j)), ((r 78), .inl (cI, 20, .inl f78)), ((r 79), .inl (cI, 20, .inl f79))]) u)) A) args s 0 0 A) (F0 m 55 ls [.int j55_S0]) := by
              intro j55_S0 hj55_S0 H locs ls hP hD hS hl
              refine lv_istore_n (lv' := [(3, .int j55_S0), (0, .ref h), (1, .int x1), (2, .int y_41), (5, .int j21_L5)]) hx hb dX7_bears_55 rfl hl (by decide) rfl (fun ls hl => ?_)
              refine lv_iload hx hb dX7_bears_56 (lv_at hl 4 rfl) ?_
              refine lv_istore (lv' := [(4, .int j21_L5), (3, .int j55_S0), (0, .ref h), (1, .int x1), (2, .int y_41), (5, .int j21_L5)]) hx hb dX7_bears_58 hl (by decide) rfl (fun ls hl => ?_)
              exact J_60 y_41 j55_S0 j21_L5 (iR_w hj55_S0 (by decide +kernel)) (iR_w f_29_1 (by decide +kernel)) H locs ls hP hD hS (lv_sub hl [2, 3, 4, 1, 0, 5] rfl)
            refine lv_icmp_ne (tgt := 54) hx hb dX7_bears_46 (by decide) (fun c_46 => ?_) (fun c_46 => ?_)
            · have c_46 : ¬ j21_L3 = (-1) := c_46
              have f_54_3 : iR j21_L3 0 999 := iR_neL c_46 hj21_L3 (iR_c (n := (-1)) (a := (-1)) (b := (-1)) (by decide +kernel) (by decide +kernel)) (by decide +kernel)
              refine lv_iload_n hx hb dX7_bears_54 rfl (lv_at hl 3 rfl) ?_
              exact J_55 j21_L3 f_54_3 H locs ls hP hD hS (lv_sub hl [1, 2, 0, 5] rfl)
            · have c_46 : j21_L3 = (-1) := c_46
              have f_49_3 : iR j21_L3 (-1) (-1) := iR_eqL c_46 hj21_L3 (iR_c (n := (-1)) (a := (-1)) (b := (-1)) (by decide +kernel) (by decide +kernel)) (by decide +kernel)
              refine lv_iload hx hb dX7_bears_49 (lv_at hl 5 rfl) ?_
              refine lv_goto (tgt := 55) hx hb dX7_bears_51 (by decide) ?_
              exact J_55 j21_L5 (iR_w f_29_1 (by decide +kernel)) H locs ls hP hD hS (lv_sub hl [1, 2, 0, 5] rfl)
          · have c_35 : r_32 = 0 := c_35
            have f_38_2 : iR r_32 0 0 := iR_eqL c_35 g_32_0 (iR_c (n := 0) (a := 0) (b := 0) (by decide +kernel) (by decide +kernel)) (by decide +kernel)
            refine lv_goto (tgt := 60) hx hb dX7_bears_38 (by decide) ?_
            exact J_60 j21_L2 j21_L3 j21_L4 hj21_L3 hj21_L4 H locs ls hP hD hS (lv_sub hl [0, 1, 2, 3, 4, 5] rfl)
    refine lv_istore (lv' := [(5, .int 1), (4, .int (-1)), (3, .int (-1)), (2, .int 0), (0, .ref h), (1, .int x1)]) hx hb dX7_bears_19 hl (by decide) rfl (fun ls hl => ?_)
    exact J_21 _ 0 (-1) (-1) 1 (iR_c (n := (-1)) (a := (-1)) (b := 999) (by decide +kernel) (by decide +kernel)) (iR_c (n := (-1)) (a := (-1)) (b := 999) (by decide +kernel) (by decide +kernel)) (iR_c (n := 1) (a := 1) (b := 1000) (by decide +kernel) (by decide +kernel)) (Nat.lt_succ_self _) H locs ls hP hD hS (lv_sub hl [4, 5, 3, 2, 1, 0] rfl)
  · have c_6 : r_3 = 0 := c_6
    have f_9_1 : iR r_3 0 0 := iR_eqL c_6 g_3_0 (iR_c (n := 0) (a := 0) (b := 0) (by decide +kernel) (by decide +kernel)) (by decide +kernel)
    refine lv_iconst (v := (-1)) hx hb dX7_bears_9 (by decide +kernel) ?_
    exact k_ri B hP hD hS dX7_bears_10 () [0, 1, 2] rfl rfl rfl (Nat.le_of_ble_eq_true rfl) (Nat.le_of_ble_eq_true rfl) trivial
set_option maxHeartbeats 8000000 in
set_option maxRecDepth 100000 in
theorem s_X7_areWishes_v1 (l : Launch) (dC : Nat → ClassId) (dI : Nat → Nat → Nat) (cI cJ cZ cM : ClassId) (h : Nat) (r : Nat → Nat) (i : Nat → Int32) (j : Nat → Int64) (x1 : Int32) (f0 : Nat → Int32) (f18 : Nat → Int32) (hx1 : iR x1 0 1600) (hI : mR i) (hf0 : aR f0 0 255) (hf18 : aR f18 0 12) : k_Mi l yX7_areWishes wsX7_areWishes ({ frames := 2, cells := 0, slots := 0, locals := 61 }) (dC, dI) vwCl (tyy cI cJ cZ cM) [(h, .inr (7, oM r i j)), ((r 0), .inl (cI, 1800, .inl f0)), ((r 18), .inl (cI, 2, .inl f18))] [.ref h, .int x1, .int 0] 0 0 (fun (u9 : Unit) => [(h, .inr (7, oM r i j)), ((r 0), .inl (cI, 1800, .inl f0)), ((r 18), .inl (cI, 2, .inl f18))]) (fun (r9 : Int32) (u9 : Unit) => (iR r9 0 1) ∧ ((r9 = 0) ∨ ((AW f0 (f18 (i 13).toNatClampNeg) x1 0)))) := by
  refine fun sz => k_enter (cc := cX7_areWishes) (maxL := 4) (ret := some (.boolean)) (Qc := fun A => va_Qi (fun (r9 : Int32) (u9 : Unit) => (iR r9 0 1) ∧ ((r9 = 0) ∨ ((AW f0 (f18 (i 13).toNatClampNeg) x1 0)))) (fun u => k_B (dC, dI) vwCl (tyy cI cJ cZ cM) A ((fun (u9 : Unit) => [(h, .inr (7, oM r i j)), ((r 0), .inl (cI, 1800, .inl f0)), ((r 18), .inl (cI, 2, .inl f18))]) u)) A) sz (by decide +kernel) rfl (Nat.le_of_ble_eq_true rfl) (fun p e s m args below meth c A ls H locs B hP hD hS hl => ?_)
  obtain ⟨hx, hb, hml, hown, hts, hr, hlk, hnm, hK, hA, hN, hC⟩ := id B
  have hown : s.vm.findClass RX7 = some m.cls := hown
  have hl : lv_has ls 4 [(0, .ref h), (1, .int x1), (2, .int 0)] := hl
  have w_0 : (Cond.fieldLink RX7 7 "WishSeaModel" "tape" "[I").before args s = true := hts _ (List.mem_of_getElem? (i := 1) rfl)
  have hinX7 : ∀ w ∈ u_ws RX7 TX7 92, w ∈ wsX7_areWishes := fun _ h => List.mem_cons_of_mem _ (List.mem_append_right _ h)
  refine lv_iconst (v := 0) hx hb dX7_areWishes_0 (by decide +kernel) ?_
  have J_2 : ∀ (n_2 : Nat) (j2_L3 : Int32) (hj2_L3 : iR j2_L3 0 1600) (p2_0 : AW f0 (f18 (i 13).toNatClampNeg) j2_L3 0) (hm_2 : (1600 - j2_L3.toInt).toNat < n_2) (H : Heap) (locs : List Loc) (ls : Array Slot), va_P (dC, dI) vwCl [(h, .inr (7, oM r i j)), ((r 0), .inl (cI, 1800, .inl f0)), ((r 18), .inl (cI, 2, .inl f18))] H → va_D A [(h, .inr (7, oM r i j)), ((r 0), .inl (cI, 1800, .inl f0)), ((r 18), .inl (cI, 2, .inl f18))] → va_S A s.heap H locs → lv_has ls 4 [(0, .ref h), (1, .int x1), (2, .int 0), (3, .int j2_L3)] → W p l e ({ frames := 2, cells := 0, slots := 0, locals := 61 }) s m args below meth c H locs 0 0 (MQ below (va_Qi (fun (r9 : Int32) (u9 : Unit) => (iR r9 0 1) ∧ ((r9 = 0) ∨ ((AW f0 (f18 (i 13).toNatClampNeg) x1 0)))) (fun u => k_B (dC, dI) vwCl (tyy cI cJ cZ cM) A ((fun (u9 : Unit) => [(h, .inr (7, oM r i j)), ((r 0), .inl (cI, 1800, .inl f0)), ((r 18), .inl (cI, 2, .inl f18))]) u)) A) args s 0 0 A) (F0 m 2 ls []) := by
    intro n_2
    induction n_2 with
    | zero => intro j2_L3 hj2_L3 p2_0 hm_2; exact absurd hm_2 (Nat.not_lt_zero _)
    | succ n_2 ih_2 =>
      intro j2_L3 hj2_L3 p2_0 hm_2 H locs ls hP hD hS hl
      refine lv_iload_n hx hb dX7_areWishes_2 rfl (lv_at hl 3 rfl) ?_
      refine lv_iload_n hx hb dX7_areWishes_3 rfl (lv_at hl 1 rfl) ?_
      refine lv_icmp_ge (tgt := 44) hx hb dX7_areWishes_4 (by decide) (fun c_4 => ?_) (fun c_4 => ?_)
      · have c_4 : x1 ≤ j2_L3 := c_4
        refine lv_iconst (v := 1) hx hb dX7_areWishes_44 (by decide +kernel) ?_
        exact k_ri B hP hD hS dX7_areWishes_45 () [0, 1, 2] rfl rfl rfl (Nat.le_of_ble_eq_true rfl) (Nat.le_of_ble_eq_true rfl) ⟨(show iR 1 0 1 from (iR_c (n := 1) (a := 0) (b := 1) (by decide +kernel) (by decide +kernel))), (show (1 = 0) ∨ ((AW f0 (f18 (i 13).toNatClampNeg) x1 0)) from (Or.inr (AW_le p2_0 c_4)))⟩
      · have c_4 : j2_L3 < x1 := i_nle c_4
        have f_7_1 : iR j2_L3 0 1599 := iR_ltL c_4 hj2_L3 hx1 (by decide +kernel)
        have f_7_2 : iR x1 1 1600 := iR_ltR c_4 hj2_L3 hx1 (by decide +kernel)
        refine lv_aload_n hx hb dX7_areWishes_7 rfl (lv_at hl 0 rfl) ?_
        refine lv_aload_n hx hb dX7_areWishes_8 rfl (lv_at hl 0 rfl) ?_
        refine k_get (D := (dC, dI)) (ci := 7) (v := .ref (r 0)) (C := RX7) (T := TX7) (N := 92) hx hb hts hinX7 hown hK hP 0 rfl rfl 0 (by decide) w_0 rfl rfl dX7_areWishes_9 ?_
        refine lv_iload_n hx hb dX7_areWishes_12 rfl (lv_at hl 3 rfl) ?_
        refine va_iald hx hb hK hP 1 0 rfl rfl (iR_vp f_7_1 (by decide +kernel)) dX7_areWishes_13 ?_
        have f_13_3 : iR (f0 j2_L3.toNatClampNeg) 0 255 := hf0 _
        refine k_ci (wc := [(h, .inr (7, oM r i j)), ((r 18), .inl (cI, 2, .inl f18))]) (wr := [((r 0), .inl (cI, 1800, .inl f0))]) (fun hPc hDc hFc => va_runV (As := [.int (f0 j2_L3.toNatClampNeg)]) (rest := []) ⟨hx, hb, hml, hown, hts⟩ (s_X7_isWish_v0 l dC dI cI cJ cZ cM h r i j (f0 j2_L3.toNatClampNeg) f18 hI hf18 H.size) (cwV 1 hts gX7_areWishes_X7_isWish rfl rfl rfl (by decide +kernel) ⟨(Nat.le_of_ble_eq_true rfl), (Nat.le_of_ble_eq_true rfl)⟩) (k_pV hPc hDc hK hN hC hS hFc hP (q0 := 0) (ci := 7) rfl rfl) rfl rfl hl.1 rfl (lv_room (Nat.le_of_ble_eq_true rfl)) dX7_areWishes_14 ⟨(Nat.le_of_ble_eq_true rfl), (Nat.le_of_ble_eq_true rfl)⟩) hP hD hS hA [0, 2] [1] rfl rfl rfl rfl (by decide) (fun _ => rfl) 0 0 rfl rfl (fun r_14 u_14 H locs hw hP hD hS => ?_)
        obtain ⟨g_14_0, g_14_1⟩ := hw
        have hP : va_P (dC, dI) vwCl [((r 0), .inl (cI, 1800, .inl f0)), (h, .inr (7, oM r i j)), ((r 18), .inl (cI, 2, .inl f18))] H := hP
        have hD : va_D A [((r 0), .inl (cI, 1800, .inl f0)), (h, .inr (7, oM r i j)), ((r 18), .inl (cI, 2, .inl f18))] := hD
        have g_14_1 : (r_14 = 0) ∨ ((0 ≤ (f0 j2_L3.toNatClampNeg)) ∧ ((f0 j2_L3.toNatClampNeg) < (f18 (i 13).toNatClampNeg))) := g_14_1
        refine lv_if_ne (tgt := 38) hx hb dX7_areWishes_17 (by decide) (fun c_17 => ?_) (fun c_17 => ?_)
        · have c_17 : ¬ r_14 = 0 := c_17
          have f_38_4 : iR r_14 1 1 := iR_neL c_17 g_14_0 (iR_c (n := 0) (a := 0) (b := 0) (by decide +kernel) (by decide +kernel)) (by decide +kernel)
          obtain ⟨d_17_1_0, d_17_1_1⟩ := g_14_1.resolve_left c_17
          have f_38_5 : iR (f0 j2_L3.toNatClampNeg) 0 11 := iR_ltL d_17_1_1 f_13_3 (show iR (f18 (i 13).toNatClampNeg) 0 12 from hf18 _) (by decide +kernel)
          have f_38_6 : iR (f18 (i 13).toNatClampNeg) 1 12 := iR_ltR d_17_1_1 f_13_3 (show iR (f18 (i 13).toNatClampNeg) 0 12 from hf18 _) (by decide +kernel)
          obtain ⟨y_38p17, ey_38p17⟩ : ∃ y : Int32, y = j2_L3 + 1 := ⟨_, rfl⟩
          refine lv_iinc (v := y_38p17) (lv' := [(3, .int y_38p17), (0, .ref h), (1, .int x1), (2, .int 0)]) hx hb dX7_areWishes_38 hl (k := 3) rfl ey_38p17.symm (by decide) rfl (fun ls hl => ?_)
          have f_38p17_7 : iR y_38p17 1 1600 := iR_add ey_38p17 f_7_1 (iR_c (n := 1) (a := 1) (b := 1) (by decide +kernel) (by decide +kernel)) (by decide +kernel)
          refine lv_goto (tgt := 2) hx hb dX7_areWishes_41 (by decide) ?_
          exact ih_2 y_38p17 (iR_w f_38p17_7 (by decide +kernel)) (show AW f0 (f18 (i 13).toNatClampNeg) y_38p17 0 from (AW_step p2_0 ey_38p17 f_7_1 (by decide +kernel) (Or.inl ⟨d_17_1_0, d_17_1_1⟩))) (m_up (B := 1600) hm_2 ey_38p17 f_7_1 (by decide +kernel)) H locs ls (hP.sub [1, 0, 2] rfl) (hD.sub [1, 0, 2] (by decide +kernel) rfl) hS (lv_sub hl [1, 2, 3, 0] rfl)
        · have c_17 : r_14 = 0 := c_17
          have f_20_4 : iR r_14 0 0 := iR_eqL c_17 g_14_0 (iR_c (n := 0) (a := 0) (b := 0) (by decide +kernel) (by decide +kernel)) (by decide +kernel)
          refine lv_iload_n hx hb dX7_areWishes_20 rfl (lv_at hl 2 rfl) ?_
          have J_36 : ∀   (H : Heap) (locs : List Loc) (ls : Array Slot), va_P (dC, dI) vwCl [(h, .inr (7, oM r i j)), ((r 0), .inl (cI, 1800, .inl f0)), ((r 18), .inl (cI, 2, .inl f18))] H → va_D A [(h, .inr (7, oM r i j)), ((r 0), .inl (cI, 1800, .inl f0)), ((r 18), .inl (cI, 2, .inl f18))] → va_S A s.heap H locs → lv_has ls 4 [] → W p l e ({ frames := 2, cells := 0, slots := 0, locals := 61 }) s m args below meth c H locs 0 0 (MQ below (va_Qi (fun (r9 : Int32) (u9 : Unit) => (iR r9 0 1) ∧ ((r9 = 0) ∨ ((AW f0 (f18 (i 13).toNatClampNeg) x1 0)))) (fun u => k_B (dC, dI) vwCl (tyy cI cJ cZ cM) A ((fun (u9 : Unit) => [(h, .inr (7, oM r i j)), ((r 0), .inl (cI, 1800, .inl f0)), ((r 18), .inl (cI, 2, .inl f18))]) u)) A) args s 0 0 A) (F0 m 36 ls []) := by
            intro   H locs ls hP hD hS hl
            refine lv_iconst (v := 0) hx hb dX7_areWishes_36 (by decide +kernel) ?_
            exact k_ri B hP hD hS dX7_areWishes_37 () [0, 1, 2] rfl rfl rfl (Nat.le_of_ble_eq_true rfl) (Nat.le_of_ble_eq_true rfl) ⟨(show iR 0 0 1 from (iR_c (n := 0) (a := 0) (b := 1) (by decide +kernel) (by decide +kernel))), (show (0 = 0) ∨ ((AW f0 (f18 (i 13).toNatClampNeg) x1 0)) from (Or.inl rfl))⟩
          refine lv_if_eq (tgt := 36) hx hb dX7_areWishes_21 (by decide) (fun _ => ?_) (fun q9 => absurd q9 (by decide +kernel))
          exact J_36   H locs ls (hP.sub [1, 0, 2] rfl) (hD.sub [1, 0, 2] (by decide +kernel) rfl) hS (lv_sub hl [] rfl)
  refine lv_istore_n (lv' := [(3, .int 0), (0, .ref h), (1, .int x1), (2, .int 0)]) hx hb dX7_areWishes_1 rfl hl (by decide) rfl (fun ls hl => ?_)
  exact J_2 _ 0 (iR_c (n := 0) (a := 0) (b := 1600) (by decide +kernel) (by decide +kernel)) (show AW f0 (f18 (i 13).toNatClampNeg) 0 0 from AW_0) (Nat.lt_succ_self _) H locs ls hP hD hS (lv_sub hl [1, 2, 3, 0] rfl)
set_option maxHeartbeats 8000000 in
set_option maxRecDepth 100000 in
theorem s_X7_value_v0 (l : Launch) (dC : Nat → ClassId) (dI : Nat → Nat → Nat) (cI cJ cZ cM : ClassId) (h : Nat) (r : Nat → Nat) (i : Nat → Int32) (j : Nat → Int64) (x1 : Int32) (g81 : Nat → Int64) (hI : mR i) : k_Ml l yX7_value wsX7_value ({ frames := 2, cells := 0, slots := 0, locals := 62 }) (dC, dI) vwCl (tyy cI cJ cZ cM) [(h, .inr (7, oM r i j)), ((r 81), .inl (cJ, 13, .inr (.inl g81)))] [.ref h, .int x1] 0 0 (fun (u9 : Unit) => [(h, .inr (7, oM r i j)), ((r 81), .inl (cJ, 13, .inr (.inl g81)))]) (fun (r9 : Int64) (u9 : Unit) => True) := by
  refine fun sz => k_enter (cc := cX7_value) (maxL := 2) (ret := some (.long)) (Qc := fun A => va_Ql (fun (r9 : Int64) (u9 : Unit) => True) (fun u => k_B (dC, dI) vwCl (tyy cI cJ cZ cM) A ((fun (u9 : Unit) => [(h, .inr (7, oM r i j)), ((r 81), .inl (cJ, 13, .inr (.inl g81)))]) u)) A) sz (by decide +kernel) rfl (Nat.le_of_ble_eq_true rfl) (fun p e s m args below meth c A ls H locs B hP hD hS hl => ?_)
  obtain ⟨hx, hb, hml, hown, hts, hr, hlk, hnm, hK, hA, hN, hC⟩ := id B
  have hown : s.vm.findClass RX7 = some m.cls := hown
  have hl : lv_has ls 2 [(0, .ref h), (1, .int x1)] := hl
  have w_0 : (Cond.fieldLink RX7 255 "WishSeaModel" "stopMany" "I").before args s = true := hts _ (List.mem_of_getElem? (i := 1) rfl)
  have w_1 : (Cond.constantLong RX7 629 (-1)).before args s = true := hts _ (List.mem_of_getElem? (i := 3) rfl)
  have w_2 : (Cond.fieldLink RX7 258 "WishSeaModel" "values" "[J").before args s = true := hts _ (List.mem_of_getElem? (i := 2) rfl)
  have hinX7 : ∀ w ∈ u_ws RX7 TX7 92, w ∈ wsX7_value := fun _ h => List.mem_cons_of_mem _ (List.mem_append_right _ h)
  refine lv_iload_n hx hb dX7_value_0 rfl (lv_at hl 1 rfl) ?_
  refine lv_iconst (v := 0) hx hb dX7_value_1 (by decide +kernel) ?_
  refine lv_aload_n hx hb dX7_value_2 rfl (lv_at hl 0 rfl) ?_
  have f_3_1 : iR (i 80) (-1) 12 := hI 80
  refine k_get (D := (dC, dI)) (ci := 7) (v := .int (i 80)) (C := RX7) (T := TX7) (N := 92) hx hb hts hinX7 hown hK hP 0 rfl rfl 80 (by decide) w_0 rfl rfl dX7_value_3 ?_
  refine k_ci (wc := []) (wr := [(h, .inr (7, oM r i j)), ((r 81), .inl (cJ, 13, .inr (.inl g81)))]) (fun hPc hDc hFc => va_runS (As := [.int x1, .int 0, .int (i 80)]) (rest := []) ⟨hx, hb, hml, hown, hts⟩ (s_X7_is_v0 l dC dI cI cJ cZ cM x1 0 (i 80) H.size) (va_cwS 3 hts gX7_value_X7_is rfl rfl rfl (by decide +kernel) ⟨(Nat.le_of_ble_eq_true rfl), (Nat.le_of_ble_eq_true rfl)⟩) (k_pS hPc hDc hK hN hC hS hFc) rfl rfl hl.1 rfl (lv_room (Nat.le_of_ble_eq_true rfl)) dX7_value_6 ⟨(Nat.le_of_ble_eq_true rfl), (Nat.le_of_ble_eq_true rfl)⟩) hP hD hS hA [] [0, 1] rfl rfl rfl rfl (by decide) (fun _ => rfl) 0 0 rfl rfl (fun r_6 u_6 H locs hw hP hD hS => ?_)
  obtain ⟨g_6_0, g_6_1⟩ := hw
  have hP : va_P (dC, dI) vwCl [(h, .inr (7, oM r i j)), ((r 81), .inl (cJ, 13, .inr (.inl g81)))] H := hP
  have hD : va_D A [(h, .inr (7, oM r i j)), ((r 81), .inl (cJ, 13, .inr (.inl g81)))] := hD
  have g_6_1 : (r_6 = 0) ∨ ((0 ≤ x1) ∧ (x1 ≤ (i 80))) := g_6_1
  refine lv_if_eq (tgt := 21) hx hb dX7_value_9 (by decide) (fun c_9 => ?_) (fun c_9 => ?_)
  · have c_9 : r_6 = 0 := c_9
    have f_21_2 : iR r_6 0 0 := iR_eqL c_9 g_6_0 (iR_c (n := 0) (a := 0) (b := 0) (by decide +kernel) (by decide +kernel)) (by decide +kernel)
    refine lv_ldc2 (v := (-1)) hx hb hown w_1 dX7_value_21 ?_
    exact k_rl B hP hD hS dX7_value_24 () [0, 1] rfl rfl (Nat.le_of_ble_eq_true rfl) (Nat.le_of_ble_eq_true rfl) trivial
  · have c_9 : ¬ r_6 = 0 := c_9
    have f_12_2 : iR r_6 1 1 := iR_neL c_9 g_6_0 (iR_c (n := 0) (a := 0) (b := 0) (by decide +kernel) (by decide +kernel)) (by decide +kernel)
    obtain ⟨d_9_1_0, d_9_1_1⟩ := g_6_1.resolve_left c_9
    have f_12_3 : iR x1 0 2147483647 := iR_leR d_9_1_0 (iR_c (n := 0) (a := 0) (b := 0) (by decide +kernel) (by decide +kernel)) (iR_top _) (by decide +kernel)
    have f_12_4 : iR x1 0 12 := iR_leL d_9_1_1 f_12_3 f_3_1 (by decide +kernel)
    have f_12_5 : iR (i 80) 0 12 := iR_leR d_9_1_1 f_12_3 f_3_1 (by decide +kernel)
    refine lv_aload_n hx hb dX7_value_12 rfl (lv_at hl 0 rfl) ?_
    refine k_get (D := (dC, dI)) (ci := 7) (v := .ref (r 81)) (C := RX7) (T := TX7) (N := 92) hx hb hts hinX7 hown hK hP 0 rfl rfl 81 (by decide) w_2 rfl rfl dX7_value_13 ?_
    refine lv_iload_n hx hb dX7_value_16 rfl (lv_at hl 1 rfl) ?_
    refine va_lald hx hb hK hP 1 1 rfl rfl (iR_vp f_12_4 (by decide +kernel)) dX7_value_17 ?_
    refine lv_goto (tgt := 24) hx hb dX7_value_18 (by decide) ?_
    exact k_rl B hP hD hS dX7_value_24 () [0, 1] rfl rfl (Nat.le_of_ble_eq_true rfl) (Nat.le_of_ble_eq_true rfl) trivial
set_option maxHeartbeats 8000000 in
set_option maxRecDepth 100000 in
theorem s_X7_bits_v0 (l : Launch) (dC : Nat → ClassId) (dI : Nat → Nat → Nat) (cI cJ cZ cM : ClassId) (x0 : Int32)  : k_Mi l yX7_bits wsX7_bits ({ frames := 1, cells := 0, slots := 0, locals := 40 }) (dC, dI) vwCl (tyy cI cJ cZ cM) [] [.int x0] 0 0 (fun (u9 : Unit) => []) (fun (r9 : Int32) (u9 : Unit) => True) := by
  refine fun sz => k_enter (cc := cX7_bits) (maxL := 3) (ret := some (.int)) (Qc := fun A => va_Qi (fun (r9 : Int32) (u9 : Unit) => True) (fun u => k_B (dC, dI) vwCl (tyy cI cJ cZ cM) A ((fun (u9 : Unit) => []) u)) A) sz (by decide +kernel) rfl (Nat.le_of_ble_eq_true rfl) (fun p e s m args below meth c A ls H locs B hP hD hS hl => ?_)
  obtain ⟨hx, hb, hml, hown, hts, hr, hlk, hnm, hK, hA, hN, hC⟩ := id B
  have hown : s.vm.findClass RX7 = some m.cls := hown
  have hl : lv_has ls 3 [(0, .int x0)] := hl
  refine lv_iconst (v := 0) hx hb dX7_bits_0 (by decide +kernel) ?_
  refine lv_istore_n (lv' := [(1, .int 0), (0, .int x0)]) hx hb dX7_bits_1 rfl hl (by decide) rfl (fun ls hl => ?_)
  refine lv_iload_n hx hb dX7_bits_2 rfl (lv_at hl 1 rfl) ?_
  have J_4 : ∀ (n_4 : Nat) (j4_L1 : Int32) (j4_L2 : Int32)  (hm_4 : j4_L2.toBitVec.toNat < n_4) (H : Heap) (locs : List Loc) (ls : Array Slot), va_P (dC, dI) vwCl [] H → va_D A [] → va_S A s.heap H locs → lv_has ls 3 [(1, .int j4_L1), (2, .int j4_L2)] → W p l e ({ frames := 1, cells := 0, slots := 0, locals := 40 }) s m args below meth c H locs 0 0 (MQ below (va_Qi (fun (r9 : Int32) (u9 : Unit) => True) (fun u => k_B (dC, dI) vwCl (tyy cI cJ cZ cM) A ((fun (u9 : Unit) => []) u)) A) args s 0 0 A) (F0 m 4 ls []) := by
    intro n_4
    induction n_4 with
    | zero => intro j4_L1 j4_L2  hm_4; exact absurd hm_4 (Nat.not_lt_zero _)
    | succ n_4 ih_4 =>
      intro j4_L1 j4_L2  hm_4 H locs ls hP hD hS hl
      refine lv_iload_n hx hb dX7_bits_4 rfl (lv_at hl 1 rfl) ?_
      refine lv_if_eq (tgt := 20) hx hb dX7_bits_5 (by decide) (fun c_5 => ?_) (fun c_5 => ?_)
      · have c_5 : j4_L2 = 0 := c_5
        have f_20_1 : iR j4_L2 0 0 := iR_eqL c_5 (iR_top _) (iR_c (n := 0) (a := 0) (b := 0) (by decide +kernel) (by decide +kernel)) (by decide +kernel)
        refine lv_iload_n hx hb dX7_bits_20 rfl (lv_at hl 0 rfl) ?_
        exact k_ri B hP hD hS dX7_bits_21 () [] rfl rfl rfl (Nat.le_of_ble_eq_true rfl) (Nat.le_of_ble_eq_true rfl) trivial
      · have c_5 : ¬ j4_L2 = 0 := c_5
        obtain ⟨y_8, ey_8⟩ : ∃ y : Int32, y = j4_L1 + 1 := ⟨_, rfl⟩
        refine lv_iinc (v := y_8) (lv' := [(1, .int y_8), (2, .int j4_L2)]) hx hb dX7_bits_8 hl (k := 0) rfl ey_8.symm (by decide) rfl (fun ls hl => ?_)
        refine lv_iload_n hx hb dX7_bits_11 rfl (lv_at hl 1 rfl) ?_
        refine lv_iload_n hx hb dX7_bits_12 rfl (lv_at hl 1 rfl) ?_
        refine lv_iconst (v := 1) hx hb dX7_bits_13 (by decide +kernel) ?_
        refine lv_isub hx hb dX7_bits_14 ?_
        refine lv_topi (fun y_14 ey_14 => ?_)
        refine lv_iand hx hb dX7_bits_15 ?_
        refine lv_topi (fun y_15 ey_15 => ?_)
        refine lv_istore_n (lv' := [(2, .int y_15), (1, .int y_8)]) hx hb dX7_bits_16 rfl hl (by decide) rfl (fun ls hl => ?_)
        refine lv_goto (tgt := 4) hx hb dX7_bits_17 (by decide) ?_
        exact ih_4 y_8 y_15  (m_bits hm_4 ey_14 ey_15 c_5) H locs ls hP hD hS (lv_sub hl [1, 0] rfl)
  refine lv_istore_n (lv' := [(2, .int x0), (1, .int 0), (0, .int x0)]) hx hb dX7_bits_3 rfl hl (by decide) rfl (fun ls hl => ?_)
  exact J_4 _ 0 x0  (Nat.lt_succ_self _) H locs ls hP hD hS (lv_sub hl [1, 0] rfl)
set_option maxHeartbeats 8000000 in
set_option maxRecDepth 100000 in
theorem s_X7_before_v0 (l : Launch) (dC : Nat → ClassId) (dI : Nat → Nat → Nat) (cI cJ cZ cM : ClassId) (h : Nat) (r : Nat → Nat) (i : Nat → Int32) (j : Nat → Int64) (x1 : Int32) (f14 : Nat → Int32) (f17 : Nat → Int32) (f49 : Nat → Int32) (hI : mR i) (hf14 : aR f14 0 10) (hf17 : aR f17 0 1) (hf49 : aR f49 0 1023) : k_Mi l yX7_before wsX7_before ({ frames := 2, cells := 0, slots := 0, locals := 62 }) (dC, dI) vwCl (tyy cI cJ cZ cM) [(h, .inr (7, oM r i j)), ((r 14), .inl (cI, 2, .inl f14)), ((r 17), .inl (cI, 20, .inl f17)), ((r 49), .inl (cI, 22, .inl f49))] [.ref h, .int x1] 0 0 (fun (u9 : Unit) => [(h, .inr (7, oM r i j)), ((r 14), .inl (cI, 2, .inl f14)), ((r 17), .inl (cI, 20, .inl f17)), ((r 49), .inl (cI, 22, .inl f49))]) (fun (r9 : Int32) (u9 : Unit) => True) := by
  refine fun sz => k_enter (cc := cX7_before) (maxL := 3) (ret := some (.int)) (Qc := fun A => va_Qi (fun (r9 : Int32) (u9 : Unit) => True) (fun u => k_B (dC, dI) vwCl (tyy cI cJ cZ cM) A ((fun (u9 : Unit) => [(h, .inr (7, oM r i j)), ((r 14), .inl (cI, 2, .inl f14)), ((r 17), .inl (cI, 20, .inl f17)), ((r 49), .inl (cI, 22, .inl f49))]) u)) A) sz (by decide +kernel) rfl (Nat.le_of_ble_eq_true rfl) (fun p e s m args below meth c A ls H locs B hP hD hS hl => ?_)
  obtain ⟨hx, hb, hml, hown, hts, hr, hlk, hnm, hK, hA, hN, hC⟩ := id B
  have hown : s.vm.findClass RX7 = some m.cls := hown
  have hl : lv_has ls 3 [(0, .ref h), (1, .int x1)] := hl
  have w_0 : (Cond.fieldLink RX7 162 "WishSeaModel" "hadOf" "[I").before args s = true := hts _ (List.mem_of_getElem? (i := 1) rfl)
  have hinX7 : ∀ w ∈ u_ws RX7 TX7 92, w ∈ wsX7_before := fun _ h => List.mem_cons_of_mem _ (List.mem_append_right _ h)
  refine lv_iload_n hx hb dX7_before_0 rfl (lv_at hl 1 rfl) ?_
  refine lv_iconst (v := 0) hx hb dX7_before_1 (by decide +kernel) ?_
  refine lv_iconst (v := 2) hx hb dX7_before_2 (by decide +kernel) ?_
  refine k_ci (wc := []) (wr := [(h, .inr (7, oM r i j)), ((r 14), .inl (cI, 2, .inl f14)), ((r 17), .inl (cI, 20, .inl f17)), ((r 49), .inl (cI, 22, .inl f49))]) (fun hPc hDc hFc => va_runS (As := [.int x1, .int 0, .int 2]) (rest := []) ⟨hx, hb, hml, hown, hts⟩ (s_X7_is_v0 l dC dI cI cJ cZ cM x1 0 2 H.size) (va_cwS 3 hts gX7_before_X7_is rfl rfl rfl (by decide +kernel) ⟨(Nat.le_of_ble_eq_true rfl), (Nat.le_of_ble_eq_true rfl)⟩) (k_pS hPc hDc hK hN hC hS hFc) rfl rfl hl.1 rfl (lv_room (Nat.le_of_ble_eq_true rfl)) dX7_before_3 ⟨(Nat.le_of_ble_eq_true rfl), (Nat.le_of_ble_eq_true rfl)⟩) hP hD hS hA [] [0, 1, 2, 3] rfl rfl rfl rfl (by decide) (fun _ => rfl) 0 0 rfl rfl (fun r_3 u_3 H locs hw hP hD hS => ?_)
  obtain ⟨g_3_0, g_3_1⟩ := hw
  have hP : va_P (dC, dI) vwCl [(h, .inr (7, oM r i j)), ((r 14), .inl (cI, 2, .inl f14)), ((r 17), .inl (cI, 20, .inl f17)), ((r 49), .inl (cI, 22, .inl f49))] H := hP
  have hD : va_D A [(h, .inr (7, oM r i j)), ((r 14), .inl (cI, 2, .inl f14)), ((r 17), .inl (cI, 20, .inl f17)), ((r 49), .inl (cI, 22, .inl f49))] := hD
  have g_3_1 : (r_3 = 0) ∨ ((0 ≤ x1) ∧ (x1 ≤ 2)) := g_3_1
  refine lv_if_ne (tgt := 11) hx hb dX7_before_6 (by decide) (fun c_6 => ?_) (fun c_6 => ?_)
  · have c_6 : ¬ r_3 = 0 := c_6
    have f_11_1 : iR r_3 1 1 := iR_neL c_6 g_3_0 (iR_c (n := 0) (a := 0) (b := 0) (by decide +kernel) (by decide +kernel)) (by decide +kernel)
    obtain ⟨d_6_1_0, d_6_1_1⟩ := g_3_1.resolve_left c_6
    have f_11_2 : iR x1 0 2147483647 := iR_leR d_6_1_0 (iR_c (n := 0) (a := 0) (b := 0) (by decide +kernel) (by decide +kernel)) (iR_top _) (by decide +kernel)
    have f_11_3 : iR x1 0 2 := iR_leL d_6_1_1 f_11_2 (iR_c (n := 2) (a := 2) (b := 2) (by decide +kernel) (by decide +kernel)) (by decide +kernel)
    refine lv_aload_n hx hb dX7_before_11 rfl (lv_at hl 0 rfl) ?_
    refine k_ci (wc := [(h, .inr (7, oM r i j)), ((r 14), .inl (cI, 2, .inl f14)), ((r 17), .inl (cI, 20, .inl f17))]) (wr := [((r 49), .inl (cI, 22, .inl f49))]) (fun hPc hDc hFc => va_runV (As := []) (rest := []) ⟨hx, hb, hml, hown, hts⟩ (s_X7_briefOnes_v0 l dC dI cI cJ cZ cM h r i j f14 f17 hI hf14 hf17 H.size) (cwV 0 hts gX7_before_X7_briefOnes rfl rfl rfl (by decide +kernel) ⟨(Nat.le_of_ble_eq_true rfl), (Nat.le_of_ble_eq_true rfl)⟩) (k_pV hPc hDc hK hN hC hS hFc hP (q0 := 0) (ci := 7) rfl rfl) rfl rfl hl.1 rfl (lv_room (Nat.le_of_ble_eq_true rfl)) dX7_before_12 ⟨(Nat.le_of_ble_eq_true rfl), (Nat.le_of_ble_eq_true rfl)⟩) hP hD hS hA [0, 1, 2] [3] rfl rfl rfl rfl (by decide) (fun _ => rfl) 0 0 rfl rfl (fun r_12 u_12 H locs hw hP hD hS => ?_)
    have g_12_0 := hw
    have hP : va_P (dC, dI) vwCl [((r 49), .inl (cI, 22, .inl f49)), (h, .inr (7, oM r i j)), ((r 14), .inl (cI, 2, .inl f14)), ((r 17), .inl (cI, 20, .inl f17))] H := hP
    have hD : va_D A [((r 49), .inl (cI, 22, .inl f49)), (h, .inr (7, oM r i j)), ((r 14), .inl (cI, 2, .inl f14)), ((r 17), .inl (cI, 20, .inl f17))] := hD
    refine lv_istore_n (lv' := [(2, .int r_12), (0, .ref h), (1, .int x1)]) hx hb dX7_before_15 rfl hl (by decide) rfl (fun ls hl => ?_)
    refine lv_aload_n hx hb dX7_before_16 rfl (lv_at hl 1 rfl) ?_
    refine k_get (D := (dC, dI)) (ci := 7) (v := .ref (r 49)) (C := RX7) (T := TX7) (N := 92) hx hb hts hinX7 hown hK hP 1 rfl rfl 49 (by decide) w_0 rfl rfl dX7_before_17 ?_
    refine lv_iconst (v := 0) hx hb dX7_before_20 (by decide +kernel) ?_
    refine k_iald (v := (f49 0)) hx hb hK hP 0 0 0 rfl rfl rfl (Nat.le_of_ble_eq_true rfl) (Nat.le_of_ble_eq_true rfl) rfl dX7_before_21 ?_
    have f_21_4 : iR (f49 0) 0 1023 := hf49 _
    refine lv_iload_n hx hb dX7_before_22 rfl (lv_at hl 0 rfl) ?_
    refine lv_iand hx hb dX7_before_23 ?_
    refine lv_topi (fun y_23 ey_23 => ?_)
    have f_23_5 : iR y_23 0 1023 := iR_andR ey_23 g_12_0 (by decide +kernel)
    refine lv_if_eq (tgt := 37) hx hb dX7_before_24 (by decide) (fun c_24 => ?_) (fun c_24 => ?_)
    · have c_24 : y_23 = 0 := c_24
      have f_37_6 : iR y_23 0 0 := iR_eqL c_24 f_23_5 (iR_c (n := 0) (a := 0) (b := 0) (by decide +kernel) (by decide +kernel)) (by decide +kernel)
      refine lv_iload_n hx hb dX7_before_37 rfl (lv_at hl 2 rfl) ?_
      refine lv_if_ne (tgt := 50) hx hb dX7_before_38 (by decide) (fun c_38 => ?_) (fun c_38 => ?_)
      · have c_38 : ¬ x1 = 0 := c_38
        have f_50_7 : iR x1 1 2 := iR_ltR (i_ltne d_6_1_0 (fun q => c_38 q.symm)) (iR_c (n := 0) (a := 0) (b := 0) (by decide +kernel) (by decide +kernel)) f_11_3 (by decide +kernel)
        refine lv_iload_n hx hb dX7_before_50 rfl (lv_at hl 2 rfl) ?_
        refine lv_iconst (v := 1) hx hb dX7_before_51 (by decide +kernel) ?_
        refine lv_icmp_ne (tgt := 64) hx hb dX7_before_52 (by decide) (fun c_52 => ?_) (fun c_52 => ?_)
        · have c_52 : ¬ x1 = 1 := c_52
          have f_64_8 : iR x1 2 2 := iR_neL c_52 f_50_7 (iR_c (n := 1) (a := 1) (b := 1) (by decide +kernel) (by decide +kernel)) (by decide +kernel)
          refine lv_aload_n hx hb dX7_before_64 rfl (lv_at hl 1 rfl) ?_
          refine k_get (D := (dC, dI)) (ci := 7) (v := .ref (r 49)) (C := RX7) (T := TX7) (N := 92) hx hb hts hinX7 hown hK hP 1 rfl rfl 49 (by decide) w_0 rfl rfl dX7_before_65 ?_
          refine lv_iconst (v := 0) hx hb dX7_before_68 (by decide +kernel) ?_
          refine k_iald (v := (f49 0)) hx hb hK hP 0 0 0 rfl rfl rfl (Nat.le_of_ble_eq_true rfl) (Nat.le_of_ble_eq_true rfl) rfl dX7_before_69 ?_
          refine lv_iload_n hx hb dX7_before_70 rfl (lv_at hl 0 rfl) ?_
          refine lv_ior hx hb dX7_before_71 ?_
          refine lv_topi (fun y_71 ey_71 => ?_)
          have f_71_9 : iR y_71 0 1023 := iR_or 10 ey_71 f_21_4 g_12_0 (by decide +kernel)
          exact k_ri B hP hD hS dX7_before_72 () [1, 2, 3, 0] rfl rfl rfl (Nat.le_of_ble_eq_true rfl) (Nat.le_of_ble_eq_true rfl) trivial
        · have c_52 : x1 = 1 := c_52
          have f_55_8 : iR x1 1 1 := iR_eqL c_52 f_50_7 (iR_c (n := 1) (a := 1) (b := 1) (by decide +kernel) (by decide +kernel)) (by decide +kernel)
          refine lv_aload_n hx hb dX7_before_55 rfl (lv_at hl 1 rfl) ?_
          refine k_get (D := (dC, dI)) (ci := 7) (v := .ref (r 49)) (C := RX7) (T := TX7) (N := 92) hx hb hts hinX7 hown hK hP 1 rfl rfl 49 (by decide) w_0 rfl rfl dX7_before_56 ?_
          refine lv_iconst (v := 0) hx hb dX7_before_59 (by decide +kernel) ?_
          refine k_iald (v := (f49 0)) hx hb hK hP 0 0 0 rfl rfl rfl (Nat.le_of_ble_eq_true rfl) (Nat.le_of_ble_eq_true rfl) rfl dX7_before_60 ?_
          refine lv_goto (tgt := 72) hx hb dX7_before_61 (by decide) ?_
          exact k_ri B hP hD hS dX7_before_72 () [1, 2, 3, 0] rfl rfl rfl (Nat.le_of_ble_eq_true rfl) (Nat.le_of_ble_eq_true rfl) trivial
      · have c_38 : x1 = 0 := c_38
        have f_41_7 : iR x1 0 0 := iR_eqL c_38 f_11_3 (iR_c (n := 0) (a := 0) (b := 0) (by decide +kernel) (by decide +kernel)) (by decide +kernel)
        refine lv_iconst (v := 1) hx hb dX7_before_41 (by decide +kernel) ?_
        refine lv_iload_n hx hb dX7_before_42 rfl (lv_at hl 0 rfl) ?_
        refine k_ci (wc := []) (wr := [((r 49), .inl (cI, 22, .inl f49)), (h, .inr (7, oM r i j)), ((r 14), .inl (cI, 2, .inl f14)), ((r 17), .inl (cI, 20, .inl f17))]) (fun hPc hDc hFc => va_runS (As := [.int r_12]) (rest := [.int 1]) ⟨hx, hb, hml, hown, hts⟩ (s_X7_bits_v0 l dC dI cI cJ cZ cM r_12 H.size) (va_cwS 1 hts gX7_before_X7_bits rfl rfl rfl (by decide +kernel) ⟨(Nat.le_of_ble_eq_true rfl), (Nat.le_of_ble_eq_true rfl)⟩) (k_pS hPc hDc hK hN hC hS hFc) rfl rfl hl.1 rfl (lv_room (Nat.le_of_ble_eq_true rfl)) dX7_before_43 ⟨(Nat.le_of_ble_eq_true rfl), (Nat.le_of_ble_eq_true rfl)⟩) hP hD hS hA [] [0, 1, 2, 3] rfl rfl rfl rfl (by decide) (fun _ => rfl) 0 0 rfl rfl (fun r_43 u_43 H locs hw hP hD hS => ?_)
        have hP : va_P (dC, dI) vwCl [((r 49), .inl (cI, 22, .inl f49)), (h, .inr (7, oM r i j)), ((r 14), .inl (cI, 2, .inl f14)), ((r 17), .inl (cI, 20, .inl f17))] H := hP
        have hD : va_D A [((r 49), .inl (cI, 22, .inl f49)), (h, .inr (7, oM r i j)), ((r 14), .inl (cI, 2, .inl f14)), ((r 17), .inl (cI, 20, .inl f17))] := hD
        refine lv_ishl hx hb dX7_before_46 ?_
        refine lv_topi (fun y_46 ey_46 => ?_)
        refine lv_goto (tgt := 72) hx hb dX7_before_47 (by decide) ?_
        exact k_ri B hP hD hS dX7_before_72 () [1, 2, 3, 0] rfl rfl rfl (Nat.le_of_ble_eq_true rfl) (Nat.le_of_ble_eq_true rfl) trivial
    · have c_24 : ¬ y_23 = 0 := c_24
      have f_27_6 : iR y_23 1 1023 := iR_neL c_24 f_23_5 (iR_c (n := 0) (a := 0) (b := 0) (by decide +kernel) (by decide +kernel)) (by decide +kernel)
      refine lv_iload_n hx hb dX7_before_27 rfl (lv_at hl 2 rfl) ?_
      refine lv_if_ne (tgt := 35) hx hb dX7_before_28 (by decide) (fun c_28 => ?_) (fun c_28 => ?_)
      · have c_28 : ¬ x1 = 0 := c_28
        have f_35_7 : iR x1 1 2 := iR_ltR (i_ltne d_6_1_0 (fun q => c_28 q.symm)) (iR_c (n := 0) (a := 0) (b := 0) (by decide +kernel) (by decide +kernel)) f_11_3 (by decide +kernel)
        refine lv_iconst (v := (-1)) hx hb dX7_before_35 (by decide +kernel) ?_
        exact k_ri B hP hD hS dX7_before_36 () [1, 2, 3, 0] rfl rfl rfl (Nat.le_of_ble_eq_true rfl) (Nat.le_of_ble_eq_true rfl) trivial
      · have c_28 : x1 = 0 := c_28
        have f_31_7 : iR x1 0 0 := iR_eqL c_28 f_11_3 (iR_c (n := 0) (a := 0) (b := 0) (by decide +kernel) (by decide +kernel)) (by decide +kernel)
        refine lv_iconst (v := 0) hx hb dX7_before_31 (by decide +kernel) ?_
        refine lv_goto (tgt := 36) hx hb dX7_before_32 (by decide) ?_
        exact k_ri B hP hD hS dX7_before_36 () [1, 2, 3, 0] rfl rfl rfl (Nat.le_of_ble_eq_true rfl) (Nat.le_of_ble_eq_true rfl) trivial
  · have c_6 : r_3 = 0 := c_6
    have f_9_1 : iR r_3 0 0 := iR_eqL c_6 g_3_0 (iR_c (n := 0) (a := 0) (b := 0) (by decide +kernel) (by decide +kernel)) (by decide +kernel)
    refine lv_iconst (v := (-1)) hx hb dX7_before_9 (by decide +kernel) ?_
    exact k_ri B hP hD hS dX7_before_10 () [0, 1, 2, 3] rfl rfl rfl (Nat.le_of_ble_eq_true rfl) (Nat.le_of_ble_eq_true rfl) trivial
set_option maxHeartbeats 8000000 in
set_option maxRecDepth 100000 in
theorem s_X7_writes_v0 (l : Launch) (dC : Nat → ClassId) (dI : Nat → Nat → Nat) (cI cJ cZ cM : ClassId) (h : Nat) (r : Nat → Nat) (i : Nat → Int32) (j : Nat → Int64) (x1 : Int32) (f90 : Nat → Int32) (hm91 : iR (i 91) 0 0) (hI : mR i) : k_Mv l yX7_writes wsX7_writes ({ frames := 1, cells := 0, slots := 0, locals := 40 }) (dC, dI) vwCl (tyy cI cJ cZ cM) [(h, .inr (7, oM r i j)), ((r 90), .inl (cI, 12, .inl f90))] [.ref h, .int x1] 0 0 (fun (u9 : SU) => [(h, .inr (7, oM r (upd i 91 (u9.1 0)) j)), ((r 90), .inl (cI, 12, .inl (u9.2.2.1 0)))]) (fun (u9 : SU) => (iR (u9.1 0) 1 1)) := by
  refine fun sz => k_enter (cc := cX7_writes) (maxL := 2) (ret := none) (Qc := fun A => va_Qv (fun (u9 : SU) => (iR (u9.1 0) 1 1)) (fun u => k_B (dC, dI) vwCl (tyy cI cJ cZ cM) A ((fun (u9 : SU) => [(h, .inr (7, oM r (upd i 91 (u9.1 0)) j)), ((r 90), .inl (cI, 12, .inl (u9.2.2.1 0)))]) u)) A) sz (by decide +kernel) rfl (Nat.le_of_ble_eq_true rfl) (fun p e s m args below meth c A ls H locs B hP hD hS hl => ?_)
  obtain ⟨hx, hb, hml, hown, hts, hr, hlk, hnm, hK, hA, hN, hC⟩ := id B
  have hown : s.vm.findClass RX7 = some m.cls := hown
  have hl : lv_has ls 2 [(0, .ref h), (1, .int x1)] := hl
  have w_0 : (Cond.fieldLink RX7 285 "WishSeaModel" "out" "[I").before args s = true := hts _ (List.mem_of_getElem? (i := 1) rfl)
  have w_1 : (Cond.fieldLink RX7 288 "WishSeaModel" "outs" "I").before args s = true := hts _ (List.mem_of_getElem? (i := 2) rfl)
  have hinX7 : ∀ w ∈ u_ws RX7 TX7 92, w ∈ wsX7_writes := fun _ h => List.mem_cons_of_mem _ (List.mem_append_right _ h)
  refine lv_aload_n hx hb dX7_writes_0 rfl (lv_at hl 0 rfl) ?_
  refine k_get (D := (dC, dI)) (ci := 7) (v := .ref (r 90)) (C := RX7) (T := TX7) (N := 92) hx hb hts hinX7 hown hK hP 0 rfl rfl 90 (by decide) w_0 rfl rfl dX7_writes_1 ?_
  refine lv_aload_n hx hb dX7_writes_4 rfl (lv_at hl 0 rfl) ?_
  refine k_get (D := (dC, dI)) (ci := 7) (v := .int (i 91)) (C := RX7) (T := TX7) (N := 92) hx hb hts hinX7 hown hK hP 0 rfl rfl 91 (by decide) w_1 rfl rfl dX7_writes_5 ?_
  refine lv_iload_n hx hb dX7_writes_8 rfl (lv_at hl 1 rfl) ?_
  refine lv_sipush (v := 255) hx hb dX7_writes_9 (by decide +kernel) ?_
  refine lv_iand hx hb dX7_writes_12 ?_
  refine lv_topi (fun y_12 ey_12 => ?_)
  have f_12_1 : iR y_12 0 255 := iR_andR ey_12 (iR_c (n := 255) (a := 255) (b := 255) (by decide +kernel) (by decide +kernel)) (by decide +kernel)
  refine s_iast (g := (upd f90 (i 91).toNatClampNeg y_12)) (ws' := [(h, .inr (7, oM r i j)), ((r 90), .inl (cI, 12, .inl (upd f90 (i 91).toNatClampNeg y_12)))]) hx hb hK hP hD hS 1 0 rfl rfl (iR_vp hm91 (by decide +kernel)) rfl rfl dX7_writes_13 (fun H locs hP hD hS => ?_)
  refine lv_aload_n hx hb dX7_writes_14 rfl (lv_at hl 0 rfl) ?_
  refine lv_dup hx hb dX7_writes_15 rfl ?_
  refine k_get (D := (dC, dI)) (ci := 7) (v := .int (i 91)) (C := RX7) (T := TX7) (N := 92) hx hb hts hinX7 hown hK hP 0 rfl rfl 91 (by decide) w_1 rfl rfl dX7_writes_16 ?_
  refine lv_iconst (v := 1) hx hb dX7_writes_19 (by decide +kernel) ?_
  refine lv_iadd hx hb dX7_writes_20 ?_
  refine lv_topi (fun y_20 ey_20 => ?_)
  have f_20_2 : iR y_20 1 1 := iR_add ey_20 hm91 (iR_c (n := 1) (a := 1) (b := 1) (by decide +kernel) (by decide +kernel)) (by decide +kernel)
  refine k_put (D := (dC, dI)) (ci := 7) (v := .int y_20) (C := RX7) (T := TX7) (N := 92) (ws' := [(h, .inr (7, oM r (upd i 91 y_20) j)), ((r 90), .inl (cI, 12, .inl (upd f90 (i 91).toNatClampNeg y_12)))]) hx hb hts hinX7 tyX7 tyX7_ok nmX7 hown hK hP hD hS 0 rfl rfl 91 (by decide) w_1 rfl rfl rfl rfl (Nat.le_of_ble_eq_true rfl) rfl dX7_writes_21 (fun H locs hP hD hS => ?_)
  exact k_rv B hP hD hS dX7_writes_24 ((fun k9 => match k9 with | 0 => y_20 | _ => 0), (fun _ => 0), (fun k9 => match k9 with | 0 => (upd f90 (i 91).toNatClampNeg y_12) | _ => (fun _ => 0)), (fun _ => (fun _ => 0)), (fun _ => 0)) [0, 1] rfl rfl (Nat.le_of_ble_eq_true rfl) (Nat.le_of_ble_eq_true rfl) (show iR y_20 1 1 from f_20_2)
set_option maxHeartbeats 8000000 in
set_option maxRecDepth 100000 in
theorem s_X7_writes_v1 (l : Launch) (dC : Nat → ClassId) (dI : Nat → Nat → Nat) (cI cJ cZ cM : ClassId) (h : Nat) (r : Nat → Nat) (i : Nat → Int32) (j : Nat → Int64) (x1 : Int32) (f90 : Nat → Int32) (hm91 : iR (i 91) 1 1) (hI : mR i) : k_Mv l yX7_writes wsX7_writes ({ frames := 1, cells := 0, slots := 0, locals := 40 }) (dC, dI) vwCl (tyy cI cJ cZ cM) [(h, .inr (7, oM r i j)), ((r 90), .inl (cI, 12, .inl f90))] [.ref h, .int x1] 0 0 (fun (u9 : SU) => [(h, .inr (7, oM r (upd i 91 (u9.1 0)) j)), ((r 90), .inl (cI, 12, .inl (u9.2.2.1 0)))]) (fun (u9 : SU) => (iR (u9.1 0) 2 2)) := by
  refine fun sz => k_enter (cc := cX7_writes) (maxL := 2) (ret := none) (Qc := fun A => va_Qv (fun (u9 : SU) => (iR (u9.1 0) 2 2)) (fun u => k_B (dC, dI) vwCl (tyy cI cJ cZ cM) A ((fun (u9 : SU) => [(h, .inr (7, oM r (upd i 91 (u9.1 0)) j)), ((r 90), .inl (cI, 12, .inl (u9.2.2.1 0)))]) u)) A) sz (by decide +kernel) rfl (Nat.le_of_ble_eq_true rfl) (fun p e s m args below meth c A ls H locs B hP hD hS hl => ?_)
  obtain ⟨hx, hb, hml, hown, hts, hr, hlk, hnm, hK, hA, hN, hC⟩ := id B
  have hown : s.vm.findClass RX7 = some m.cls := hown
  have hl : lv_has ls 2 [(0, .ref h), (1, .int x1)] := hl
  have w_0 : (Cond.fieldLink RX7 285 "WishSeaModel" "out" "[I").before args s = true := hts _ (List.mem_of_getElem? (i := 1) rfl)
  have w_1 : (Cond.fieldLink RX7 288 "WishSeaModel" "outs" "I").before args s = true := hts _ (List.mem_of_getElem? (i := 2) rfl)
  have hinX7 : ∀ w ∈ u_ws RX7 TX7 92, w ∈ wsX7_writes := fun _ h => List.mem_cons_of_mem _ (List.mem_append_right _ h)
  refine lv_aload_n hx hb dX7_writes_0 rfl (lv_at hl 0 rfl) ?_
  refine k_get (D := (dC, dI)) (ci := 7) (v := .ref (r 90)) (C := RX7) (T := TX7) (N := 92) hx hb hts hinX7 hown hK hP 0 rfl rfl 90 (by decide) w_0 rfl rfl dX7_writes_1 ?_
  refine lv_aload_n hx hb dX7_writes_4 rfl (lv_at hl 0 rfl) ?_
  refine k_get (D := (dC, dI)) (ci := 7) (v := .int (i 91)) (C := RX7) (T := TX7) (N := 92) hx hb hts hinX7 hown hK hP 0 rfl rfl 91 (by decide) w_1 rfl rfl dX7_writes_5 ?_
  refine lv_iload_n hx hb dX7_writes_8 rfl (lv_at hl 1 rfl) ?_
  refine lv_sipush (v := 255) hx hb dX7_writes_9 (by decide +kernel) ?_
  refine lv_iand hx hb dX7_writes_12 ?_
  refine lv_topi (fun y_12 ey_12 => ?_)
  have f_12_1 : iR y_12 0 255 := iR_andR ey_12 (iR_c (n := 255) (a := 255) (b := 255) (by decide +kernel) (by decide +kernel)) (by decide +kernel)
  refine s_iast (g := (upd f90 (i 91).toNatClampNeg y_12)) (ws' := [(h, .inr (7, oM r i j)), ((r 90), .inl (cI, 12, .inl (upd f90 (i 91).toNatClampNeg y_12)))]) hx hb hK hP hD hS 1 0 rfl rfl (iR_vp hm91 (by decide +kernel)) rfl rfl dX7_writes_13 (fun H locs hP hD hS => ?_)
  refine lv_aload_n hx hb dX7_writes_14 rfl (lv_at hl 0 rfl) ?_
  refine lv_dup hx hb dX7_writes_15 rfl ?_
  refine k_get (D := (dC, dI)) (ci := 7) (v := .int (i 91)) (C := RX7) (T := TX7) (N := 92) hx hb hts hinX7 hown hK hP 0 rfl rfl 91 (by decide) w_1 rfl rfl dX7_writes_16 ?_
  refine lv_iconst (v := 1) hx hb dX7_writes_19 (by decide +kernel) ?_
  refine lv_iadd hx hb dX7_writes_20 ?_
  refine lv_topi (fun y_20 ey_20 => ?_)
  have f_20_2 : iR y_20 2 2 := iR_add ey_20 hm91 (iR_c (n := 1) (a := 1) (b := 1) (by decide +kernel) (by decide +kernel)) (by decide +kernel)
  refine k_put (D := (dC, dI)) (ci := 7) (v := .int y_20) (C := RX7) (T := TX7) (N := 92) (ws' := [(h, .inr (7, oM r (upd i 91 y_20) j)), ((r 90), .inl (cI, 12, .inl (upd f90 (i 91).toNatClampNeg y_12)))]) hx hb hts hinX7 tyX7 tyX7_ok nmX7 hown hK hP hD hS 0 rfl rfl 91 (by decide) w_1 rfl rfl rfl rfl (Nat.le_of_ble_eq_true rfl) rfl dX7_writes_21 (fun H locs hP hD hS => ?_)
  exact k_rv B hP hD hS dX7_writes_24 ((fun k9 => match k9 with | 0 => y_20 | _ => 0), (fun _ => 0), (fun k9 => match k9 with | 0 => (upd f90 (i 91).toNatClampNeg y_12) | _ => (fun _ => 0)), (fun _ => (fun _ => 0)), (fun _ => 0)) [0, 1] rfl rfl (Nat.le_of_ble_eq_true rfl) (Nat.le_of_ble_eq_true rfl) (show iR y_20 2 2 from f_20_2)
set_option maxHeartbeats 8000000 in
set_option maxRecDepth 100000 in
theorem s_X7_writes_v2 (l : Launch) (dC : Nat → ClassId) (dI : Nat → Nat → Nat) (cI cJ cZ cM : ClassId) (h : Nat) (r : Nat → Nat) (i : Nat → Int32) (j : Nat → Int64) (x1 : Int32) (f90 : Nat → Int32) (hm91 : iR (i 91) 2 2) (hI : mR i) : k_Mv l yX7_writes wsX7_writes ({ frames := 1, cells := 0, slots := 0, locals := 40 }) (dC, dI) vwCl (tyy cI cJ cZ cM) [(h, .inr (7, oM r i j)), ((r 90), .inl (cI, 12, .inl f90))] [.ref h, .int x1] 0 0 (fun (u9 : SU) => [(h, .inr (7, oM r (upd i 91 (u9.1 0)) j)), ((r 90), .inl (cI, 12, .inl (u9.2.2.1 0)))]) (fun (u9 : SU) => (iR (u9.1 0) 3 3)) := by
  refine fun sz => k_enter (cc := cX7_writes) (maxL := 2) (ret := none) (Qc := fun A => va_Qv (fun (u9 : SU) => (iR (u9.1 0) 3 3)) (fun u => k_B (dC, dI) vwCl (tyy cI cJ cZ cM) A ((fun (u9 : SU) => [(h, .inr (7, oM r (upd i 91 (u9.1 0)) j)), ((r 90), .inl (cI, 12, .inl (u9.2.2.1 0)))]) u)) A) sz (by decide +kernel) rfl (Nat.le_of_ble_eq_true rfl) (fun p e s m args below meth c A ls H locs B hP hD hS hl => ?_)
  obtain ⟨hx, hb, hml, hown, hts, hr, hlk, hnm, hK, hA, hN, hC⟩ := id B
  have hown : s.vm.findClass RX7 = some m.cls := hown
  have hl : lv_has ls 2 [(0, .ref h), (1, .int x1)] := hl
  have w_0 : (Cond.fieldLink RX7 285 "WishSeaModel" "out" "[I").before args s = true := hts _ (List.mem_of_getElem? (i := 1) rfl)
  have w_1 : (Cond.fieldLink RX7 288 "WishSeaModel" "outs" "I").before args s = true := hts _ (List.mem_of_getElem? (i := 2) rfl)
  have hinX7 : ∀ w ∈ u_ws RX7 TX7 92, w ∈ wsX7_writes := fun _ h => List.mem_cons_of_mem _ (List.mem_append_right _ h)
  refine lv_aload_n hx hb dX7_writes_0 rfl (lv_at hl 0 rfl) ?_
  refine k_get (D := (dC, dI)) (ci := 7) (v := .ref (r 90)) (C := RX7) (T := TX7) (N := 92) hx hb hts hinX7 hown hK hP 0 rfl rfl 90 (by decide) w_0 rfl rfl dX7_writes_1 ?_
  refine lv_aload_n hx hb dX7_writes_4 rfl (lv_at hl 0 rfl) ?_
  refine k_get (D := (dC, dI)) (ci := 7) (v := .int (i 91)) (C := RX7) (T := TX7) (N := 92) hx hb hts hinX7 hown hK hP 0 rfl rfl 91 (by decide) w_1 rfl rfl dX7_writes_5 ?_
  refine lv_iload_n hx hb dX7_writes_8 rfl (lv_at hl 1 rfl) ?_
  refine lv_sipush (v := 255) hx hb dX7_writes_9 (by decide +kernel) ?_
  refine lv_iand hx hb dX7_writes_12 ?_
  refine lv_topi (fun y_12 ey_12 => ?_)
  have f_12_1 : iR y_12 0 255 := iR_andR ey_12 (iR_c (n := 255) (a := 255) (b := 255) (by decide +kernel) (by decide +kernel)) (by decide +kernel)
  refine s_iast (g := (upd f90 (i 91).toNatClampNeg y_12)) (ws' := [(h, .inr (7, oM r i j)), ((r 90), .inl (cI, 12, .inl (upd f90 (i 91).toNatClampNeg y_12)))]) hx hb hK hP hD hS 1 0 rfl rfl (iR_vp hm91 (by decide +kernel)) rfl rfl dX7_writes_13 (fun H locs hP hD hS => ?_)
  refine lv_aload_n hx hb dX7_writes_14 rfl (lv_at hl 0 rfl) ?_
  refine lv_dup hx hb dX7_writes_15 rfl ?_
  refine k_get (D := (dC, dI)) (ci := 7) (v := .int (i 91)) (C := RX7) (T := TX7) (N := 92) hx hb hts hinX7 hown hK hP 0 rfl rfl 91 (by decide) w_1 rfl rfl dX7_writes_16 ?_
  refine lv_iconst (v := 1) hx hb dX7_writes_19 (by decide +kernel) ?_
  refine lv_iadd hx hb dX7_writes_20 ?_
  refine lv_topi (fun y_20 ey_20 => ?_)
  have f_20_2 : iR y_20 3 3 := iR_add ey_20 hm91 (iR_c (n := 1) (a := 1) (b := 1) (by decide +kernel) (by decide +kernel)) (by decide +kernel)
  refine k_put (D := (dC, dI)) (ci := 7) (v := .int y_20) (C := RX7) (T := TX7) (N := 92) (ws' := [(h, .inr (7, oM r (upd i 91 y_20) j)), ((r 90), .inl (cI, 12, .inl (upd f90 (i 91).toNatClampNeg y_12)))]) hx hb hts hinX7 tyX7 tyX7_ok nmX7 hown hK hP hD hS 0 rfl rfl 91 (by decide) w_1 rfl rfl rfl rfl (Nat.le_of_ble_eq_true rfl) rfl dX7_writes_21 (fun H locs hP hD hS => ?_)
  exact k_rv B hP hD hS dX7_writes_24 ((fun k9 => match k9 with | 0 => y_20 | _ => 0), (fun _ => 0), (fun k9 => match k9 with | 0 => (upd f90 (i 91).toNatClampNeg y_12) | _ => (fun _ => 0)), (fun _ => (fun _ => 0)), (fun _ => 0)) [0, 1] rfl rfl (Nat.le_of_ble_eq_true rfl) (Nat.le_of_ble_eq_true rfl) (show iR y_20 3 3 from f_20_2)
set_option maxHeartbeats 8000000 in
set_option maxRecDepth 100000 in
theorem s_X7_writes_v3 (l : Launch) (dC : Nat → ClassId) (dI : Nat → Nat → Nat) (cI cJ cZ cM : ClassId) (h : Nat) (r : Nat → Nat) (i : Nat → Int32) (j : Nat → Int64) (x1 : Int32) (f90 : Nat → Int32) (hm91 : iR (i 91) 3 3) (hI : mR i) : k_Mv l yX7_writes wsX7_writes ({ frames := 1, cells := 0, slots := 0, locals := 40 }) (dC, dI) vwCl (tyy cI cJ cZ cM) [(h, .inr (7, oM r i j)), ((r 90), .inl (cI, 12, .inl f90))] [.ref h, .int x1] 0 0 (fun (u9 : SU) => [(h, .inr (7, oM r (upd i 91 (u9.1 0)) j)), ((r 90), .inl (cI, 12, .inl (u9.2.2.1 0)))]) (fun (u9 : SU) => (iR (u9.1 0) 4 4)) := by
  refine fun sz => k_enter (cc := cX7_writes) (maxL := 2) (ret := none) (Qc := fun A => va_Qv (fun (u9 : SU) => (iR (u9.1 0) 4 4)) (fun u => k_B (dC, dI) vwCl (tyy cI cJ cZ cM) A ((fun (u9 : SU) => [(h, .inr (7, oM r (upd i 91 (u9.1 0)) j)), ((r 90), .inl (cI, 12, .inl (u9.2.2.1 0)))]) u)) A) sz (by decide +kernel) rfl (Nat.le_of_ble_eq_true rfl) (fun p e s m args below meth c A ls H locs B hP hD hS hl => ?_)
  obtain ⟨hx, hb, hml, hown, hts, hr, hlk, hnm, hK, hA, hN, hC⟩ := id B
  have hown : s.vm.findClass RX7 = some m.cls := hown
  have hl : lv_has ls 2 [(0, .ref h), (1, .int x1)] := hl
  have w_0 : (Cond.fieldLink RX7 285 "WishSeaModel" "out" "[I").before args s = true := hts _ (List.mem_of_getElem? (i := 1) rfl)
  have w_1 : (Cond.fieldLink RX7 288 "WishSeaModel" "outs" "I").before args s = true := hts _ (List.mem_of_getElem? (i := 2) rfl)
  have hinX7 : ∀ w ∈ u_ws RX7 TX7 92, w ∈ wsX7_writes := fun _ h => List.mem_cons_of_mem _ (List.mem_append_right _ h)
  refine lv_aload_n hx hb dX7_writes_0 rfl (lv_at hl 0 rfl) ?_
  refine k_get (D := (dC, dI)) (ci := 7) (v := .ref (r 90)) (C := RX7) (T := TX7) (N := 92) hx hb hts hinX7 hown hK hP 0 rfl rfl 90 (by decide) w_0 rfl rfl dX7_writes_1 ?_
  refine lv_aload_n hx hb dX7_writes_4 rfl (lv_at hl 0 rfl) ?_
  refine k_get (D := (dC, dI)) (ci := 7) (v := .int (i 91)) (C := RX7) (T := TX7) (N := 92) hx hb hts hinX7 hown hK hP 0 rfl rfl 91 (by decide) w_1 rfl rfl dX7_writes_5 ?_
  refine lv_iload_n hx hb dX7_writes_8 rfl (lv_at hl 1 rfl) ?_
  refine lv_sipush (v := 255) hx hb dX7_writes_9 (by decide +kernel) ?_
  refine lv_iand hx hb dX7_writes_12 ?_
  refine lv_topi (fun y_12 ey_12 => ?_)
  have f_12_1 : iR y_12 0 255 := iR_andR ey_12 (iR_c (n := 255) (a := 255) (b := 255) (by decide +kernel) (by decide +kernel)) (by decide +kernel)
  refine s_iast (g := (upd f90 (i 91).toNatClampNeg y_12)) (ws' := [(h, .inr (7, oM r i j)), ((r 90), .inl (cI, 12, .inl (upd f90 (i 91).toNatClampNeg y_12)))]) hx hb hK hP hD hS 1 0 rfl rfl (iR_vp hm91 (by decide +kernel)) rfl rfl dX7_writes_13 (fun H locs hP hD hS => ?_)
  refine lv_aload_n hx hb dX7_writes_14 rfl (lv_at hl 0 rfl) ?_
  refine lv_dup hx hb dX7_writes_15 rfl ?_
  refine k_get (D := (dC, dI)) (ci := 7) (v := .int (i 91)) (C := RX7) (T := TX7) (N := 92) hx hb hts hinX7 hown hK hP 0 rfl rfl 91 (by decide) w_1 rfl rfl dX7_writes_16 ?_
  refine lv_iconst (v := 1) hx hb dX7_writes_19 (by decide +kernel) ?_
  refine lv_iadd hx hb dX7_writes_20 ?_
  refine lv_topi (fun y_20 ey_20 => ?_)
  have f_20_2 : iR y_20 4 4 := iR_add ey_20 hm91 (iR_c (n := 1) (a := 1) (b := 1) (by decide +kernel) (by decide +kernel)) (by decide +kernel)
  refine k_put (D := (dC, dI)) (ci := 7) (v := .int y_20) (C := RX7) (T := TX7) (N := 92) (ws' := [(h, .inr (7, oM r (upd i 91 y_20) j)), ((r 90), .inl (cI, 12, .inl (upd f90 (i 91).toNatClampNeg y_12)))]) hx hb hts hinX7 tyX7 tyX7_ok nmX7 hown hK hP hD hS 0 rfl rfl 91 (by decide) w_1 rfl rfl rfl rfl (Nat.le_of_ble_eq_true rfl) rfl dX7_writes_21 (fun H locs hP hD hS => ?_)
  exact k_rv B hP hD hS dX7_writes_24 ((fun k9 => match k9 with | 0 => y_20 | _ => 0), (fun _ => 0), (fun k9 => match k9 with | 0 => (upd f90 (i 91).toNatClampNeg y_12) | _ => (fun _ => 0)), (fun _ => (fun _ => 0)), (fun _ => 0)) [0, 1] rfl rfl (Nat.le_of_ble_eq_true rfl) (Nat.le_of_ble_eq_true rfl) (show iR y_20 4 4 from f_20_2)
set_option maxHeartbeats 8000000 in
set_option maxRecDepth 100000 in
theorem s_X7_writes_v4 (l : Launch) (dC : Nat → ClassId) (dI : Nat → Nat → Nat) (cI cJ cZ cM : ClassId) (h : Nat) (r : Nat → Nat) (i : Nat → Int32) (j : Nat → Int64) (x1 : Int32) (f90 : Nat → Int32) (hm91 : iR (i 91) 4 4) (hI : mR i) : k_Mv l yX7_writes wsX7_writes ({ frames := 1, cells := 0, slots := 0, locals := 40 }) (dC, dI) vwCl (tyy cI cJ cZ cM) [(h, .inr (7, oM r i j)), ((r 90), .inl (cI, 12, .inl f90))] [.ref h, .int x1] 0 0 (fun (u9 : SU) => [(h, .inr (7, oM r (upd i 91 (u9.1 0)) j)), ((r 90), .inl (cI, 12, .inl (u9.2.2.1 0)))]) (fun (u9 : SU) => (iR (u9.1 0) 5 5)) := by
  refine fun sz => k_enter (cc := cX7_writes) (maxL := 2) (ret := none) (Qc := fun A => va_Qv (fun (u9 : SU) => (iR (u9.1 0) 5 5)) (fun u => k_B (dC, dI) vwCl (tyy cI cJ cZ cM) A ((fun (u9 : SU) => [(h, .inr (7, oM r (upd i 91 (u9.1 0)) j)), ((r 90), .inl (cI, 12, .inl (u9.2.2.1 0)))]) u)) A) sz (by decide +kernel) rfl (Nat.le_of_ble_eq_true rfl) (fun p e s m args below meth c A ls H locs B hP hD hS hl => ?_)
  obtain ⟨hx, hb, hml, hown, hts, hr, hlk, hnm, hK, hA, hN, hC⟩ := id B
  have hown : s.vm.findClass RX7 = some m.cls := hown
  have hl : lv_has ls 2 [(0, .ref h), (1, .int x1)] := hl
  have w_0 : (Cond.fieldLink RX7 285 "WishSeaModel" "out" "[I").before args s = true := hts _ (List.mem_of_getElem? (i := 1) rfl)
  have w_1 : (Cond.fieldLink RX7 288 "WishSeaModel" "outs" "I").before args s = true := hts _ (List.mem_of_getElem? (i := 2) rfl)
  have hinX7 : ∀ w ∈ u_ws RX7 TX7 92, w ∈ wsX7_writes := fun _ h => List.mem_cons_of_mem _ (List.mem_append_right _ h)
  refine lv_aload_n hx hb dX7_writes_0 rfl (lv_at hl 0 rfl) ?_
  refine k_get (D := (dC, dI)) (ci := 7) (v := .ref (r 90)) (C := RX7) (T := TX7) (N := 92) hx hb hts hinX7 hown hK hP 0 rfl rfl 90 (by decide) w_0 rfl rfl dX7_writes_1 ?_
  refine lv_aload_n hx hb dX7_writes_4 rfl (lv_at hl 0 rfl) ?_
  refine k_get (D := (dC, dI)) (ci := 7) (v := .int (i 91)) (C := RX7) (T := TX7) (N := 92) hx hb hts hinX7 hown hK hP 0 rfl rfl 91 (by decide) w_1 rfl rfl dX7_writes_5 ?_
  refine lv_iload_n hx hb dX7_writes_8 rfl (lv_at hl 1 rfl) ?_
  refine lv_sipush (v := 255) hx hb dX7_writes_9 (by decide +kernel) ?_
  refine lv_iand hx hb dX7_writes_12 ?_
  refine lv_topi (fun y_12 ey_12 => ?_)
  have f_12_1 : iR y_12 0 255 := iR_andR ey_12 (iR_c (n := 255) (a := 255) (b := 255) (by decide +kernel) (by decide +kernel)) (by decide +kernel)
  refine s_iast (g := (upd f90 (i 91).toNatClampNeg y_12)) (ws' := [(h, .inr (7, oM r i j)), ((r 90), .inl (cI, 12, .inl (upd f90 (i 91).toNatClampNeg y_12)))]) hx hb hK hP hD hS 1 0 rfl rfl (iR_vp hm91 (by decide +kernel)) rfl rfl dX7_writes_13 (fun H locs hP hD hS => ?_)
  refine lv_aload_n hx hb dX7_writes_14 rfl (lv_at hl 0 rfl) ?_
  refine lv_dup hx hb dX7_writes_15 rfl ?_
  refine k_get (D := (dC, dI)) (ci := 7) (v := .int (i 91)) (C := RX7) (T := TX7) (N := 92) hx hb hts hinX7 hown hK hP 0 rfl rfl 91 (by decide) w_1 rfl rfl dX7_writes_16 ?_
  refine lv_iconst (v := 1) hx hb dX7_writes_19 (by decide +kernel) ?_
  refine lv_iadd hx hb dX7_writes_20 ?_
  refine lv_topi (fun y_20 ey_20 => ?_)
  have f_20_2 : iR y_20 5 5 := iR_add ey_20 hm91 (iR_c (n := 1) (a := 1) (b := 1) (by decide +kernel) (by decide +kernel)) (by decide +kernel)
  refine k_put (D := (dC, dI)) (ci := 7) (v := .int y_20) (C := RX7) (T := TX7) (N := 92) (ws' := [(h, .inr (7, oM r (upd i 91 y_20) j)), ((r 90), .inl (cI, 12, .inl (upd f90 (i 91).toNatClampNeg y_12)))]) hx hb hts hinX7 tyX7 tyX7_ok nmX7 hown hK hP hD hS 0 rfl rfl 91 (by decide) w_1 rfl rfl rfl rfl (Nat.le_of_ble_eq_true rfl) rfl dX7_writes_21 (fun H locs hP hD hS => ?_)
  exact k_rv B hP hD hS dX7_writes_24 ((fun k9 => match k9 with | 0 => y_20 | _ => 0), (fun _ => 0), (fun k9 => match k9 with | 0 => (upd f90 (i 91).toNatClampNeg y_12) | _ => (fun _ => 0)), (fun _ => (fun _ => 0)), (fun _ => 0)) [0, 1] rfl rfl (Nat.le_of_ble_eq_true rfl) (Nat.le_of_ble_eq_true rfl) (show iR y_20 5 5 from f_20_2)
set_option maxHeartbeats 8000000 in
set_option maxRecDepth 100000 in
theorem s_X7_writes_v5 (l : Launch) (dC : Nat → ClassId) (dI : Nat → Nat → Nat) (cI cJ cZ cM : ClassId) (h : Nat) (r : Nat → Nat) (i : Nat → Int32) (j : Nat → Int64) (x1 : Int32) (f90 : Nat → Int32) (hm91 : iR (i 91) 5 5) (hI : mR i) : k_Mv l yX7_writes wsX7_writes ({ frames := 1, cells := 0, slots := 0, locals := 40 }) (dC, dI) vwCl (tyy cI cJ cZ cM) [(h, .inr (7, oM r i j)), ((r 90), .inl (cI, 12, .inl f90))] [.ref h, .int x1] 0 0 (fun (u9 : SU) => [(h, .inr (7, oM r (upd i 91 (u9.1 0)) j)), ((r 90), .inl (cI, 12, .inl (u9.2.2.1 0)))]) (fun (u9 : SU) => (iR (u9.1 0) 6 6)) := by
  refine fun sz => k_enter (cc := cX7_writes) (maxL := 2) (ret := none) (Qc := fun A => va_Qv (fun (u9 : SU) => (iR (u9.1 0) 6 6)) (fun u => k_B (dC, dI) vwCl (tyy cI cJ cZ cM) A ((fun (u9 : SU) => [(h, .inr (7, oM r (upd i 91 (u9.1 0)) j)), ((r 90), .inl (cI, 12, .inl (u9.2.2.1 0)))]) u)) A) sz (by decide +kernel) rfl (Nat.le_of_ble_eq_true rfl) (fun p e s m args below meth c A ls H locs B hP hD hS hl => ?_)
  obtain ⟨hx, hb, hml, hown, hts, hr, hlk, hnm, hK, hA, hN, hC⟩ := id B
  have hown : s.vm.findClass RX7 = some m.cls := hown
  have hl : lv_has ls 2 [(0, .ref h), (1, .int x1)] := hl
  have w_0 : (Cond.fieldLink RX7 285 "WishSeaModel" "out" "[I").before args s = true := hts _ (List.mem_of_getElem? (i := 1) rfl)
  have w_1 : (Cond.fieldLink RX7 288 "WishSeaModel" "outs" "I").before args s = true := hts _ (List.mem_of_getElem? (i := 2) rfl)
  have hinX7 : ∀ w ∈ u_ws RX7 TX7 92, w ∈ wsX7_writes := fun _ h => List.mem_cons_of_mem _ (List.mem_append_right _ h)
  refine lv_aload_n hx hb dX7_writes_0 rfl (lv_at hl 0 rfl) ?_
  refine k_get (D := (dC, dI)) (ci := 7) (v := .ref (r 90)) (C := RX7) (T := TX7) (N := 92) hx hb hts hinX7 hown hK hP 0 rfl rfl 90 (by decide) w_0 rfl rfl dX7_writes_1 ?_
  refine lv_aload_n hx hb dX7_writes_4 rfl (lv_at hl 0 rfl) ?_
  refine k_get (D := (dC, dI)) (ci := 7) (v := .int (i 91)) (C := RX7) (T := TX7) (N := 92) hx hb hts hinX7 hown hK hP 0 rfl rfl 91 (by decide) w_1 rfl rfl dX7_writes_5 ?_
  refine lv_iload_n hx hb dX7_writes_8 rfl (lv_at hl 1 rfl) ?_
  refine lv_sipush (v := 255) hx hb dX7_writes_9 (by decide +kernel) ?_
  refine lv_iand hx hb dX7_writes_12 ?_
  refine lv_topi (fun y_12 ey_12 => ?_)
  have f_12_1 : iR y_12 0 255 := iR_andR ey_12 (iR_c (n := 255) (a := 255) (b := 255) (by decide +kernel) (by decide +kernel)) (by decide +kernel)
  refine s_iast (g := (upd f90 (i 91).toNatClampNeg y_12)) (ws' := [(h, .inr (7, oM r i j)), ((r 90), .inl (cI, 12, .inl (upd f90 (i 91).toNatClampNeg y_12)))]) hx hb hK hP hD hS 1 0 rfl rfl (iR_vp hm91 (by decide +kernel)) rfl rfl dX7_writes_13 (fun H locs hP hD hS => ?_)
  refine lv_aload_n hx hb dX7_writes_14 rfl (lv_at hl 0 rfl) ?_
  refine lv_dup hx hb dX7_writes_15 rfl ?_
  refine k_get (D := (dC, dI)) (ci := 7) (v := .int (i 91)) (C := RX7) (T := TX7) (N := 92) hx hb hts hinX7 hown hK hP 0 rfl rfl 91 (by decide) w_1 rfl rfl dX7_writes_16 ?_
  refine lv_iconst (v := 1) hx hb dX7_writes_19 (by decide +kernel) ?_
  refine lv_iadd hx hb dX7_writes_20 ?_
  refine lv_topi (fun y_20 ey_20 => ?_)
  have f_20_2 : iR y_20 6 6 := iR_add ey_20 hm91 (iR_c (n := 1) (a := 1) (b := 1) (by decide +kernel) (by decide +kernel)) (by decide +kernel)
  refine k_put (D := (dC, dI)) (ci := 7) (v := .int y_20) (C := RX7) (T := TX7) (N := 92) (ws' := [(h, .inr (7, oM r (upd i 91 y_20) j)), ((r 90), .inl (cI, 12, .inl (upd f90 (i 91).toNatClampNeg y_12)))]) hx hb hts hinX7 tyX7 tyX7_ok nmX7 hown hK hP hD hS 0 rfl rfl 91 (by decide) w_1 rfl rfl rfl rfl (Nat.le_of_ble_eq_true rfl) rfl dX7_writes_21 (fun H locs hP hD hS => ?_)
  exact k_rv B hP hD hS dX7_writes_24 ((fun k9 => match k9 with | 0 => y_20 | _ => 0), (fun _ => 0), (fun k9 => match k9 with | 0 => (upd f90 (i 91).toNatClampNeg y_12) | _ => (fun _ => 0)), (fun _ => (fun _ => 0)), (fun _ => 0)) [0, 1] rfl rfl (Nat.le_of_ble_eq_true rfl) (Nat.le_of_ble_eq_true rfl) (show iR y_20 6 6 from f_20_2)
set_option maxHeartbeats 8000000 in
set_option maxRecDepth 100000 in
theorem s_X7_writes_v6 (l : Launch) (dC : Nat → ClassId) (dI : Nat → Nat → Nat) (cI cJ cZ cM : ClassId) (h : Nat) (r : Nat → Nat) (i : Nat → Int32) (j : Nat → Int64) (x1 : Int32) (f90 : Nat → Int32) (hm91 : iR (i 91) 6 6) (hI : mR i) : k_Mv l yX7_writes wsX7_writes ({ frames := 1, cells := 0, slots := 0, locals := 40 }) (dC, dI) vwCl (tyy cI cJ cZ cM) [(h, .inr (7, oM r i j)), ((r 90), .inl (cI, 12, .inl f90))] [.ref h, .int x1] 0 0 (fun (u9 : SU) => [(h, .inr (7, oM r (upd i 91 (u9.1 0)) j)), ((r 90), .inl (cI, 12, .inl (u9.2.2.1 0)))]) (fun (u9 : SU) => (iR (u9.1 0) 7 7)) := by
  refine fun sz => k_enter (cc := cX7_writes) (maxL := 2) (ret := none) (Qc := fun A => va_Qv (fun (u9 : SU) => (iR (u9.1 0) 7 7)) (fun u => k_B (dC, dI) vwCl (tyy cI cJ cZ cM) A ((fun (u9 : SU) => [(h, .inr (7, oM r (upd i 91 (u9.1 0)) j)), ((r 90), .inl (cI, 12, .inl (u9.2.2.1 0)))]) u)) A) sz (by decide +kernel) rfl (Nat.le_of_ble_eq_true rfl) (fun p e s m args below meth c A ls H locs B hP hD hS hl => ?_)
  obtain ⟨hx, hb, hml, hown, hts, hr, hlk, hnm, hK, hA, hN, hC⟩ := id B
  have hown : s.vm.findClass RX7 = some m.cls := hown
  have hl : lv_has ls 2 [(0, .ref h), (1, .int x1)] := hl
  have w_0 : (Cond.fieldLink RX7 285 "WishSeaModel" "out" "[I").before args s = true := hts _ (List.mem_of_getElem? (i := 1) rfl)
  have w_1 : (Cond.fieldLink RX7 288 "WishSeaModel" "outs" "I").before args s = true := hts _ (List.mem_of_getElem? (i := 2) rfl)
  have hinX7 : ∀ w ∈ u_ws RX7 TX7 92, w ∈ wsX7_writes := fun _ h => List.mem_cons_of_mem _ (List.mem_append_right _ h)
  refine lv_aload_n hx hb dX7_writes_0 rfl (lv_at hl 0 rfl) ?_
  refine k_get (D := (dC, dI)) (ci := 7) (v := .ref (r 90)) (C := RX7) (T := TX7) (N := 92) hx hb hts hinX7 hown hK hP 0 rfl rfl 90 (by decide) w_0 rfl rfl dX7_writes_1 ?_
  refine lv_aload_n hx hb dX7_writes_4 rfl (lv_at hl 0 rfl) ?_
  refine k_get (D := (dC, dI)) (ci := 7) (v := .int (i 91)) (C := RX7) (T := TX7) (N := 92) hx hb hts hinX7 hown hK hP 0 rfl rfl 91 (by decide) w_1 rfl rfl dX7_writes_5 ?_
  refine lv_iload_n hx hb dX7_writes_8 rfl (lv_at hl 1 rfl) ?_
  refine lv_sipush (v := 255) hx hb dX7_writes_9 (by decide +kernel) ?_
  refine lv_iand hx hb dX7_writes_12 ?_
  refine lv_topi (fun y_12 ey_12 => ?_)
  have f_12_1 : iR y_12 0 255 := iR_andR ey_12 (iR_c (n := 255) (a := 255) (b := 255) (by decide +kernel) (by decide +kernel)) (by decide +kernel)
  refine s_iast (g := (upd f90 (i 91).toNatClampNeg y_12)) (ws' := [(h, .inr (7, oM r i j)), ((r 90), .inl (cI, 12, .inl (upd f90 (i 91).toNatClampNeg y_12)))]) hx hb hK hP hD hS 1 0 rfl rfl (iR_vp hm91 (by decide +kernel)) rfl rfl dX7_writes_13 (fun H locs hP hD hS => ?_)
  refine lv_aload_n hx hb dX7_writes_14 rfl (lv_at hl 0 rfl) ?_
  refine lv_dup hx hb dX7_writes_15 rfl ?_
  refine k_get (D := (dC, dI)) (ci := 7) (v := .int (i 91)) (C := RX7) (T := TX7) (N := 92) hx hb hts hinX7 hown hK hP 0 rfl rfl 91 (by decide) w_1 rfl rfl dX7_writes_16 ?_
  refine lv_iconst (v := 1) hx hb dX7_writes_19 (by decide +kernel) ?_
  refine lv_iadd hx hb dX7_writes_20 ?_
  refine lv_topi (fun y_20 ey_20 => ?_)
  have f_20_2 : iR y_20 7 7 := iR_add ey_20 hm91 (iR_c (n := 1) (a := 1) (b := 1) (by decide +kernel) (by decide +kernel)) (by decide +kernel)
  refine k_put (D := (dC, dI)) (ci := 7) (v := .int y_20) (C := RX7) (T := TX7) (N := 92) (ws' := [(h, .inr (7, oM r (upd i 91 y_20) j)), ((r 90), .inl (cI, 12, .inl (upd f90 (i 91).toNatClampNeg y_12)))]) hx hb hts hinX7 tyX7 tyX7_ok nmX7 hown hK hP hD hS 0 rfl rfl 91 (by decide) w_1 rfl rfl rfl rfl (Nat.le_of_ble_eq_true rfl) rfl dX7_writes_21 (fun H locs hP hD hS => ?_)
  exact k_rv B hP hD hS dX7_writes_24 ((fun k9 => match k9 with | 0 => y_20 | _ => 0), (fun _ => 0), (fun k9 => match k9 with | 0 => (upd f90 (i 91).toNatClampNeg y_12) | _ => (fun _ => 0)), (fun _ => (fun _ => 0)), (fun _ => 0)) [0, 1] rfl rfl (Nat.le_of_ble_eq_true rfl) (Nat.le_of_ble_eq_true rfl) (show iR y_20 7 7 from f_20_2)
set_option maxHeartbeats 8000000 in
set_option maxRecDepth 100000 in
theorem s_X7_writes_v7 (l : Launch) (dC : Nat → ClassId) (dI : Nat → Nat → Nat) (cI cJ cZ cM : ClassId) (h : Nat) (r : Nat → Nat) (i : Nat → Int32) (j : Nat → Int64) (x1 : Int32) (f90 : Nat → Int32) (hm91 : iR (i 91) 7 7) (hI : mR i) : k_Mv l yX7_writes wsX7_writes ({ frames := 1, cells := 0, slots := 0, locals := 40 }) (dC, dI) vwCl (tyy cI cJ cZ cM) [(h, .inr (7, oM r i j)), ((r 90), .inl (cI, 12, .inl f90))] [.ref h, .int x1] 0 0 (fun (u9 : SU) => [(h, .inr (7, oM r (upd i 91 (u9.1 0)) j)), ((r 90), .inl (cI, 12, .inl (u9.2.2.1 0)))]) (fun (u9 : SU) => (iR (u9.1 0) 8 8)) := by
  refine fun sz => k_enter (cc := cX7_writes) (maxL := 2) (ret := none) (Qc := fun A => va_Qv (fun (u9 : SU) => (iR (u9.1 0) 8 8)) (fun u => k_B (dC, dI) vwCl (tyy cI cJ cZ cM) A ((fun (u9 : SU) => [(h, .inr (7, oM r (upd i 91 (u9.1 0)) j)), ((r 90), .inl (cI, 12, .inl (u9.2.2.1 0)))]) u)) A) sz (by decide +kernel) rfl (Nat.le_of_ble_eq_true rfl) (fun p e s m args below meth c A ls H locs B hP hD hS hl => ?_)
  obtain ⟨hx, hb, hml, hown, hts, hr, hlk, hnm, hK, hA, hN, hC⟩ := id B
  have hown : s.vm.findClass RX7 = some m.cls := hown
  have hl : lv_has ls 2 [(0, .ref h), (1, .int x1)] := hl
  have w_0 : (Cond.fieldLink RX7 285 "WishSeaModel" "out" "[I").before args s = true := hts _ (List.mem_of_getElem? (i := 1) rfl)
  have w_1 : (Cond.fieldLink RX7 288 "WishSeaModel" "outs" "I").before args s = true := hts _ (List.mem_of_getElem? (i := 2) rfl)
  have hinX7 : ∀ w ∈ u_ws RX7 TX7 92, w ∈ wsX7_writes := fun _ h => List.mem_cons_of_mem _ (List.mem_append_right _ h)
  refine lv_aload_n hx hb dX7_writes_0 rfl (lv_at hl 0 rfl) ?_
  refine k_get (D := (dC, dI)) (ci := 7) (v := .ref (r 90)) (C := RX7) (T := TX7) (N := 92) hx hb hts hinX7 hown hK hP 0 rfl rfl 90 (by decide) w_0 rfl rfl dX7_writes_1 ?_
  refine lv_aload_n hx hb dX7_writes_4 rfl (lv_at hl 0 rfl) ?_
  refine k_get (D := (dC, dI)) (ci := 7) (v := .int (i 91)) (C := RX7) (T := TX7) (N := 92) hx hb hts hinX7 hown hK hP 0 rfl rfl 91 (by decide) w_1 rfl rfl dX7_writes_5 ?_
  refine lv_iload_n hx hb dX7_writes_8 rfl (lv_at hl 1 rfl) ?_
  refine lv_sipush (v := 255) hx hb dX7_writes_9 (by decide +kernel) ?_
  refine lv_iand hx hb dX7_writes_12 ?_
  refine lv_topi (fun y_12 ey_12 => ?_)
  have f_12_1 : iR y_12 0 255 := iR_andR ey_12 (iR_c (n := 255) (a := 255) (b := 255) (by decide +kernel) (by decide +kernel)) (by decide +kernel)
  refine s_iast (g := (upd f90 (i 91).toNatClampNeg y_12)) (ws' := [(h, .inr (7, oM r i j)), ((r 90), .inl (cI, 12, .inl (upd f90 (i 91).toNatClampNeg y_12)))]) hx hb hK hP hD hS 1 0 rfl rfl (iR_vp hm91 (by decide +kernel)) rfl rfl dX7_writes_13 (fun H locs hP hD hS => ?_)
  refine lv_aload_n hx hb dX7_writes_14 rfl (lv_at hl 0 rfl) ?_
  refine lv_dup hx hb dX7_writes_15 rfl ?_
  refine k_get (D := (dC, dI)) (ci := 7) (v := .int (i 91)) (C := RX7) (T := TX7) (N := 92) hx hb hts hinX7 hown hK hP 0 rfl rfl 91 (by decide) w_1 rfl rfl dX7_writes_16 ?_
  refine lv_iconst (v := 1) hx hb dX7_writes_19 (by decide +kernel) ?_
  refine lv_iadd hx hb dX7_writes_20 ?_
  refine lv_topi (fun y_20 ey_20 => ?_)
  have f_20_2 : iR y_20 8 8 := iR_add ey_20 hm91 (iR_c (n := 1) (a := 1) (b := 1) (by decide +kernel) (by decide +kernel)) (by decide +kernel)
  refine k_put (D := (dC, dI)) (ci := 7) (v := .int y_20) (C := RX7) (T := TX7) (N := 92) (ws' := [(h, .inr (7, oM r (upd i 91 y_20) j)), ((r 90), .inl (cI, 12, .inl (upd f90 (i 91).toNatClampNeg y_12)))]) hx hb hts hinX7 tyX7 tyX7_ok nmX7 hown hK hP hD hS 0 rfl rfl 91 (by decide) w_1 rfl rfl rfl rfl (Nat.le_of_ble_eq_true rfl) rfl dX7_writes_21 (fun H locs hP hD hS => ?_)
  exact k_rv B hP hD hS dX7_writes_24 ((fun k9 => match k9 with | 0 => y_20 | _ => 0), (fun _ => 0), (fun k9 => match k9 with | 0 => (upd f90 (i 91).toNatClampNeg y_12) | _ => (fun _ => 0)), (fun _ => (fun _ => 0)), (fun _ => 0)) [0, 1] rfl rfl (Nat.le_of_ble_eq_true rfl) (Nat.le_of_ble_eq_true rfl) (show iR y_20 8 8 from f_20_2)
set_option maxHeartbeats 8000000 in
set_option maxRecDepth 100000 in
theorem s_X7_writes_v8 (l : Launch) (dC : Nat → ClassId) (dI : Nat → Nat → Nat) (cI cJ cZ cM : ClassId) (h : Nat) (r : Nat → Nat) (i : Nat → Int32) (j : Nat → Int64) (x1 : Int32) (f90 : Nat → Int32) (hm91 : iR (i 91) 8 8) (hI : mR i) : k_Mv l yX7_writes wsX7_writes ({ frames := 1, cells := 0, slots := 0, locals := 40 }) (dC, dI) vwCl (tyy cI cJ cZ cM) [(h, .inr (7, oM r i j)), ((r 90), .inl (cI, 12, .inl f90))] [.ref h, .int x1] 0 0 (fun (u9 : SU) => [(h, .inr (7, oM r (upd i 91 (u9.1 0)) j)), ((r 90), .inl (cI, 12, .inl (u9.2.2.1 0)))]) (fun (u9 : SU) => (iR (u9.1 0) 9 9)) := by
  refine fun sz => k_enter (cc := cX7_writes) (maxL := 2) (ret := none) (Qc := fun A => va_Qv (fun (u9 : SU) => (iR (u9.1 0) 9 9)) (fun u => k_B (dC, dI) vwCl (tyy cI cJ cZ cM) A ((fun (u9 : SU) => [(h, .inr (7, oM r (upd i 91 (u9.1 0)) j)), ((r 90), .inl (cI, 12, .inl (u9.2.2.1 0)))]) u)) A) sz (by decide +kernel) rfl (Nat.le_of_ble_eq_true rfl) (fun p e s m args below meth c A ls H locs B hP hD hS hl => ?_)
  obtain ⟨hx, hb, hml, hown, hts, hr, hlk, hnm, hK, hA, hN, hC⟩ := id B
  have hown : s.vm.findClass RX7 = some m.cls := hown
  have hl : lv_has ls 2 [(0, .ref h), (1, .int x1)] := hl
  have w_0 : (Cond.fieldLink RX7 285 "WishSeaModel" "out" "[I").before args s = true := hts _ (List.mem_of_getElem? (i := 1) rfl)
  have w_1 : (Cond.fieldLink RX7 288 "WishSeaModel" "outs" "I").before args s = true := hts _ (List.mem_of_getElem? (i := 2) rfl)
  have hinX7 : ∀ w ∈ u_ws RX7 TX7 92, w ∈ wsX7_writes := fun _ h => List.mem_cons_of_mem _ (List.mem_append_right _ h)
  refine lv_aload_n hx hb dX7_writes_0 rfl (lv_at hl 0 rfl) ?_
  refine k_get (D := (dC, dI)) (ci := 7) (v := .ref (r 90)) (C := RX7) (T := TX7) (N := 92) hx hb hts hinX7 hown hK hP 0 rfl rfl 90 (by decide) w_0 rfl rfl dX7_writes_1 ?_
  refine lv_aload_n hx hb dX7_writes_4 rfl (lv_at hl 0 rfl) ?_
  refine k_get (D := (dC, dI)) (ci := 7) (v := .int (i 91)) (C := RX7) (T := TX7) (N := 92) hx hb hts hinX7 hown hK hP 0 rfl rfl 91 (by decide) w_1 rfl rfl dX7_writes_5 ?_
  refine lv_iload_n hx hb dX7_writes_8 rfl (lv_at hl 1 rfl) ?_
  refine lv_sipush (v := 255) hx hb dX7_writes_9 (by decide +kernel) ?_
  refine lv_iand hx hb dX7_writes_12 ?_
  refine lv_topi (fun y_12 ey_12 => ?_)
  have f_12_1 : iR y_12 0 255 := iR_andR ey_12 (iR_c (n := 255) (a := 255) (b := 255) (by decide +kernel) (by decide +kernel)) (by decide +kernel)
  refine s_iast (g := (upd f90 (i 91).toNatClampNeg y_12)) (ws' := [(h, .inr (7, oM r i j)), ((r 90), .inl (cI, 12, .inl (upd f90 (i 91).toNatClampNeg y_12)))]) hx hb hK hP hD hS 1 0 rfl rfl (iR_vp hm91 (by decide +kernel)) rfl rfl dX7_writes_13 (fun H locs hP hD hS => ?_)
  refine lv_aload_n hx hb dX7_writes_14 rfl (lv_at hl 0 rfl) ?_
  refine lv_dup hx hb dX7_writes_15 rfl ?_
  refine k_get (D := (dC, dI)) (ci := 7) (v := .int (i 91)) (C := RX7) (T := TX7) (N := 92) hx hb hts hinX7 hown hK hP 0 rfl rfl 91 (by decide) w_1 rfl rfl dX7_writes_16 ?_
  refine lv_iconst (v := 1) hx hb dX7_writes_19 (by decide +kernel) ?_
  refine lv_iadd hx hb dX7_writes_20 ?_
  refine lv_topi (fun y_20 ey_20 => ?_)
  have f_20_2 : iR y_20 9 9 := iR_add ey_20 hm91 (iR_c (n := 1) (a := 1) (b := 1) (by decide +kernel) (by decide +kernel)) (by decide +kernel)
  refine k_put (D := (dC, dI)) (ci := 7) (v := .int y_20) (C := RX7) (T := TX7) (N := 92) (ws' := [(h, .inr (7, oM r (upd i 91 y_20) j)), ((r 90), .inl (cI, 12, .inl (upd f90 (i 91).toNatClampNeg y_12)))]) hx hb hts hinX7 tyX7 tyX7_ok nmX7 hown hK hP hD hS 0 rfl rfl 91 (by decide) w_1 rfl rfl rfl rfl (Nat.le_of_ble_eq_true rfl) rfl dX7_writes_21 (fun H locs hP hD hS => ?_)
  exact k_rv B hP hD hS dX7_writes_24 ((fun k9 => match k9 with | 0 => y_20 | _ => 0), (fun _ => 0), (fun k9 => match k9 with | 0 => (upd f90 (i 91).toNatClampNeg y_12) | _ => (fun _ => 0)), (fun _ => (fun _ => 0)), (fun _ => 0)) [0, 1] rfl rfl (Nat.le_of_ble_eq_true rfl) (Nat.le_of_ble_eq_true rfl) (show iR y_20 9 9 from f_20_2)
set_option maxHeartbeats 8000000 in
set_option maxRecDepth 100000 in
theorem s_X7_image_v0 (l : Launch) (dC : Nat → ClassId) (dI : Nat → Nat → Nat) (cI cJ cZ cM : ClassId) (h : Nat) (r : Nat → Nat) (i : Nat → Int32) (j : Nat → Int64) (f49 : Nat → Int32) (f50 : Nat → Int32) (f51 : Nat → Int32) (f52 : Nat → Int32) (f90 : Nat → Int32) (hI : mR i) (hf49 : aR f49 0 1023) (hf50 : aR f50 0 999) : k_Mi l yX7_image wsX7_image ({ frames := 2, cells := 0, slots := 0, locals := 61 }) (dC, dI) vwCl (tyy cI cJ cZ cM) [(h, .inr (7, oM r i j)), ((r 49), .inl (cI, 22, .inl f49)), ((r 50), .inl (cI, 22, .inl f50)), ((r 51), .inl (cI, 22, .inl f51)), ((r 52), .inl (cI, 22, .inl f52)), ((r 90), .inl (cI, 12, .inl f90))] [.ref h] 0 0 (fun (u9 : SU) => [(h, .inr (7, oM r (upd i 91 (u9.1 0)) j)), ((r 49), .inl (cI, 22, .inl f49)), ((r 50), .inl (cI, 22, .inl f50)), ((r 51), .inl (cI, 22, .inl f51)), ((r 52), .inl (cI, 22, .inl f52)), ((r 90), .inl (cI, 12, .inl (u9.2.2.1 0)))]) (fun (r9 : Int32) (u9 : SU) => (iR r9 9 9) ∧ (iR (u9.1 0) 9 9)) := by
  refine fun sz => k_enter (cc := cX7_image) (maxL := 3) (ret := some (.int)) (Qc := fun A => va_Qi (fun (r9 : Int32) (u9 : SU) => (iR r9 9 9) ∧ (iR (u9.1 0) 9 9)) (fun u => k_B (dC, dI) vwCl (tyy cI cJ cZ cM) A ((fun (u9 : SU) => [(h, .inr (7, oM r (upd i 91 (u9.1 0)) j)), ((r 49), .inl (cI, 22, .inl f49)), ((r 50), .inl (cI, 22, .inl f50)), ((r 51), .inl (cI, 22, .inl f51)), ((r 52), .inl (cI, 22, .inl f52)), ((r 90), .inl (cI, 12, .inl (u9.2.2.1 0)))]) u)) A) sz (by decide +kernel) rfl (Nat.le_of_ble_eq_true rfl) (fun p e s m args below meth c A ls H locs B hP hD hS hl => ?_)
  obtain ⟨hx, hb, hml, hown, hts, hr, hlk, hnm, hK, hA, hN, hC⟩ := id B
  have hown : s.vm.findClass RX7 = some m.cls := hown
  have hl : lv_has ls 3 [(0, .ref h)] := hl
  have w_0 : (Cond.fieldLink RX7 288 "WishSeaModel" "outs" "I").before args s = true := hts _ (List.mem_of_getElem? (i := 1) rfl)
  have w_1 : (Cond.fieldLink RX7 171 "WishSeaModel" "dayOf" "[I").before args s = true := hts _ (List.mem_of_getElem? (i := 2) rfl)
  have w_2 : (Cond.fieldLink RX7 168 "WishSeaModel" "saidOf" "[I").before args s = true := hts _ (List.mem_of_getElem? (i := 3) rfl)
  have w_3 : (Cond.fieldLink RX7 165 "WishSeaModel" "seaOf" "[I").before args s = true := hts _ (List.mem_of_getElem? (i := 4) rfl)
  have w_4 : (Cond.fieldLink RX7 162 "WishSeaModel" "hadOf" "[I").before args s = true := hts _ (List.mem_of_getElem? (i := 5) rfl)
  have w_5 : (Cond.fieldLink RX7 285 "WishSeaModel" "out" "[I").before args s = true := hts _ (List.mem_of_getElem? (i := 6) rfl)
  have hinX7 : ∀ w ∈ u_ws RX7 TX7 92, w ∈ wsX7_image := fun _ h => List.mem_cons_of_mem _ (List.mem_append_right _ h)
  refine lv_aload_n hx hb dX7_image_0 rfl (lv_at hl 0 rfl) ?_
  refine lv_iconst (v := 0) hx hb dX7_image_1 (by decide +kernel) ?_
  refine k_put (D := (dC, dI)) (ci := 7) (v := .int 0) (C := RX7) (T := TX7) (N := 92) (ws' := [(h, .inr (7, oM r (upd i 91 0) j)), ((r 49), .inl (cI, 22, .inl f49)), ((r 50), .inl (cI, 22, .inl f50)), ((r 51), .inl (cI, 22, .inl f51)), ((r 52), .inl (cI, 22, .inl f52)), ((r 90), .inl (cI, 12, .inl f90))]) hx hb hts hinX7 tyX7 tyX7_ok nmX7 hown hK hP hD hS 0 rfl rfl 91 (by decide) w_0 rfl rfl rfl rfl (Nat.le_of_ble_eq_true rfl) rfl dX7_image_2 (fun H locs hP hD hS => ?_)
  refine lv_aload_n hx hb dX7_image_5 rfl (lv_at hl 0 rfl) ?_
  refine lv_aload_n hx hb dX7_image_6 rfl (lv_at hl 0 rfl) ?_
  refine k_get (D := (dC, dI)) (ci := 7) (v := .ref (r 52)) (C := RX7) (T := TX7) (N := 92) hx hb hts hinX7 hown hK hP 0 rfl rfl 52 (by decide) w_1 rfl rfl dX7_image_7 ?_
  refine lv_iconst (v := 0) hx hb dX7_image_10 (by decide +kernel) ?_
  refine k_iald (v := (f52 0)) hx hb hK hP 4 0 0 rfl rfl rfl (Nat.le_of_ble_eq_true rfl) (Nat.le_of_ble_eq_true rfl) rfl dX7_image_11 ?_
  refine lv_bipush (v := 8) hx hb dX7_image_12 (by decide +kernel) ?_
  refine lv_ishr hx hb dX7_image_14 ?_
  refine lv_topi (fun y_14 ey_14 => ?_)
  refine k_cv (wc := [(h, .inr (7, oM r (upd i 91 0) j)), ((r 90), .inl (cI, 12, .inl f90))]) (wr := [((r 49), .inl (cI, 22, .inl f49)), ((r 50), .inl (cI, 22, .inl f50)), ((r 51), .inl (cI, 22, .inl f51)), ((r 52), .inl (cI, 22, .inl f52))]) (fun hPc hDc hFc => va_runV (As := [.int y_14]) (rest := []) ⟨hx, hb, hml, hown, hts⟩ (s_X7_writes_v0 l dC dI cI cJ cZ cM h r (upd i 91 0) j y_14 f90 (show iR 0 0 0 from (iR_c (n := 0) (a := 0) (b := 0) (by decide +kernel) (by decide +kernel))) (mR_upd 91 hI (show iR _ (loI 91) (hiI 91) from (iR_c (n := 0) (a := 0) (b := 9) (by decide +kernel) (by decide +kernel)))) H.size) (cwV 1 hts gX7_image_X7_writes rfl rfl rfl (by decide +kernel) ⟨(Nat.le_of_ble_eq_true rfl), (Nat.le_of_ble_eq_true rfl)⟩) (k_pV hPc hDc hK hN hC hS hFc hP (q0 := 0) (ci := 7) rfl rfl) rfl rfl hl.1 rfl (lv_room (Nat.le_of_ble_eq_true rfl)) dX7_image_15 ⟨(Nat.le_of_ble_eq_true rfl), (Nat.le_of_ble_eq_true rfl)⟩) hP hD hS hA [0, 5] [1, 2, 3, 4] rfl rfl rfl rfl (by decide) (fun _ => rfl) 0 0 rfl rfl (fun u_15 H locs hw hP hD hS => ?_)
  have g_15_0 := hw
  have hP : va_P (dC, dI) vwCl [((r 49), .inl (cI, 22, .inl f49)), ((r 50), .inl (cI, 22, .inl f50)), ((r 51), .inl (cI, 22, .inl f51)), ((r 52), .inl (cI, 22, .inl f52)), (h, .inr (7, oM r (upd i 91 (u_15.1 0)) j)), ((r 90), .inl (cI, 12, .inl (u_15.2.2.1 0)))] H := hP
  have hD : va_D A [((r 49), .inl (cI, 22, .inl f49)), ((r 50), .inl (cI, 22, .inl f50)), ((r 51), .inl (cI, 22, .inl f51)), ((r 52), .inl (cI, 22, .inl f52)), (h, .inr (7, oM r (upd i 91 (u_15.1 0)) j)), ((r 90), .inl (cI, 12, .inl (u_15.2.2.1 0)))] := hD
  refine lv_aload_n hx hb dX7_image_18 rfl (lv_at hl 0 rfl) ?_
  refine lv_aload_n hx hb dX7_image_19 rfl (lv_at hl 0 rfl) ?_
  refine k_get (D := (dC, dI)) (ci := 7) (v := .ref (r 52)) (C := RX7) (T := TX7) (N := 92) hx hb hts hinX7 hown hK hP 4 rfl rfl 52 (by decide) w_1 rfl rfl dX7_image_20 ?_
  refine lv_iconst (v := 0) hx hb dX7_image_23 (by decide +kernel) ?_
  refine k_iald (v := (f52 0)) hx hb hK hP 3 0 0 rfl rfl rfl (Nat.le_of_ble_eq_true rfl) (Nat.le_of_ble_eq_true rfl) rfl dX7_image_24 ?_
  refine k_cv (wc := [(h, .inr (7, oM r (upd i 91 (u_15.1 0)) j)), ((r 90), .inl (cI, 12, .inl (u_15.2.2.1 0)))]) (wr := [((r 49), .inl (cI, 22, .inl f49)), ((r 50), .inl (cI, 22, .inl f50)), ((r 51), .inl (cI, 22, .inl f51)), ((r 52), .inl (cI, 22, .inl f52))]) (fun hPc hDc hFc => va_runV (As := [.int (f52 0)]) (rest := []) ⟨hx, hb, hml, hown, hts⟩ (s_X7_writes_v1 l dC dI cI cJ cZ cM h r (upd i 91 (u_15.1 0)) j (f52 0) (u_15.2.2.1 0) (show iR (u_15.1 0) 1 1 from g_15_0) (mR_upd 91 hI (show iR _ (loI 91) (hiI 91) from (iR_w g_15_0 (by decide +kernel)))) H.size) (cwV 1 hts gX7_image_X7_writes rfl rfl rfl (by decide +kernel) ⟨(Nat.le_of_ble_eq_true rfl), (Nat.le_of_ble_eq_true rfl)⟩) (k_pV hPc hDc hK hN hC hS hFc hP (q0 := 4) (ci := 7) rfl rfl) rfl rfl hl.1 rfl (lv_room (Nat.le_of_ble_eq_true rfl)) dX7_image_25 ⟨(Nat.le_of_ble_eq_true rfl), (Nat.le_of_ble_eq_true rfl)⟩) hP hD hS hA [4, 5] [0, 1, 2, 3] rfl rfl rfl rfl (by decide) (fun _ => rfl) 0 0 rfl rfl (fun u_25 H locs hw hP hD hS => ?_)
  have g_25_0 := hw
  have hP : va_P (dC, dI) vwCl [((r 49), .inl (cI, 22, .inl f49)), ((r 50), .inl (cI, 22, .inl f50)), ((r 51), .inl (cI, 22, .inl f51)), ((r 52), .inl (cI, 22, .inl f52)), (h, .inr (7, oM r (upd i 91 (u_25.1 0)) j)), ((r 90), .inl (cI, 12, .inl (u_25.2.2.1 0)))] H := hP
  have hD : va_D A [((r 49), .inl (cI, 22, .inl f49)), ((r 50), .inl (cI, 22, .inl f50)), ((r 51), .inl (cI, 22, .inl f51)), ((r 52), .inl (cI, 22, .inl f52)), (h, .inr (7, oM r (upd i 91 (u_25.1 0)) j)), ((r 90), .inl (cI, 12, .inl (u_25.2.2.1 0)))] := hD
  refine lv_aload_n hx hb dX7_image_28 rfl (lv_at hl 0 rfl) ?_
  refine lv_aload_n hx hb dX7_image_29 rfl (lv_at hl 0 rfl) ?_
  refine k_get (D := (dC, dI)) (ci := 7) (v := .ref (r 51)) (C := RX7) (T := TX7) (N := 92) hx hb hts hinX7 hown hK hP 4 rfl rfl 51 (by decide) w_2 rfl rfl dX7_image_30 ?_
  refine lv_iconst (v := 0) hx hb dX7_image_33 (by decide +kernel) ?_
  refine k_iald (v := (f51 0)) hx hb hK hP 2 0 0 rfl rfl rfl (Nat.le_of_ble_eq_true rfl) (Nat.le_of_ble_eq_true rfl) rfl dX7_image_34 ?_
  refine lv_bipush (v := 8) hx hb dX7_image_35 (by decide +kernel) ?_
  refine lv_ishr hx hb dX7_image_37 ?_
  refine lv_topi (fun y_37 ey_37 => ?_)
  refine k_cv (wc := [(h, .inr (7, oM r (upd i 91 (u_25.1 0)) j)), ((r 90), .inl (cI, 12, .inl (u_25.2.2.1 0)))]) (wr := [((r 49), .inl (cI, 22, .inl f49)), ((r 50), .inl (cI, 22, .inl f50)), ((r 51), .inl (cI, 22, .inl f51)), ((r 52), .inl (cI, 22, .inl f52))]) (fun hPc hDc hFc => va_runV (As := [.int y_37]) (rest := []) ⟨hx, hb, hml, hown, hts⟩ (s_X7_writes_v2 l dC dI cI cJ cZ cM h r (upd i 91 (u_25.1 0)) j y_37 (u_25.2.2.1 0) (show iR (u_25.1 0) 2 2 from g_25_0) (mR_upd 91 hI (show iR _ (loI 91) (hiI 91) from (iR_w g_25_0 (by decide +kernel)))) H.size) (cwV 1 hts gX7_image_X7_writes rfl rfl rfl (by decide +kernel) ⟨(Nat.le_of_ble_eq_true rfl), (Nat.le_of_ble_eq_true rfl)⟩) (k_pV hPc hDc hK hN hC hS hFc hP (q0 := 4) (ci := 7) rfl rfl) rfl rfl hl.1 rfl (lv_room (Nat.le_of_ble_eq_true rfl)) dX7_image_38 ⟨(Nat.le_of_ble_eq_true rfl), (Nat.le_of_ble_eq_true rfl)⟩) hP hD hS hA [4, 5] [0, 1, 2, 3] rfl rfl rfl rfl (by decide) (fun _ => rfl) 0 0 rfl rfl (fun u_38 H locs hw hP hD hS => ?_)
  have g_38_0 := hw
  have hP : va_P (dC, dI) vwCl [((r 49), .inl (cI, 22, .inl f49)), ((r 50), .inl (cI, 22, .inl f50)), ((r 51), .inl (cI, 22, .inl f51)), ((r 52), .inl (cI, 22, .inl f52)), (h, .inr (7, oM r (upd i 91 (u_38.1 0)) j)), ((r 90), .inl (cI, 12, .inl (u_38.2.2.1 0)))] H := hP
  have hD : va_D A [((r 49), .inl (cI, 22, .inl f49)), ((r 50), .inl (cI, 22, .inl f50)), ((r 51), .inl (cI, 22, .inl f51)), ((r 52), .inl (cI, 22, .inl f52)), (h, .inr (7, oM r (upd i 91 (u_38.1 0)) j)), ((r 90), .inl (cI, 12, .inl (u_38.2.2.1 0)))] := hD
  refine lv_aload_n hx hb dX7_image_41 rfl (lv_at hl 0 rfl) ?_
  refine lv_aload_n hx hb dX7_image_42 rfl (lv_at hl 0 rfl) ?_
  refine k_get (D := (dC, dI)) (ci := 7) (v := .ref (r 51)) (C := RX7) (T := TX7) (N := 92) hx hb hts hinX7 hown hK hP 4 rfl rfl 51 (by decide) w_2 rfl rfl dX7_image_43 ?_
  refine lv_iconst (v := 0) hx hb dX7_image_46 (by decide +kernel) ?_
  refine k_iald (v := (f51 0)) hx hb hK hP 2 0 0 rfl rfl rfl (Nat.le_of_ble_eq_true rfl) (Nat.le_of_ble_eq_true rfl) rfl dX7_image_47 ?_
  refine k_cv (wc := [(h, .inr (7, oM r (upd i 91 (u_38.1 0)) j)), ((r 90), .inl (cI, 12, .inl (u_38.2.2.1 0)))]) (wr := [((r 49), .inl (cI, 22, .inl f49)), ((r 50), .inl (cI, 22, .inl f50)), ((r 51), .inl (cI, 22, .inl f51)), ((r 52), .inl (cI, 22, .inl f52))]) (fun hPc hDc hFc => va_runV (As := [.int (f51 0)]) (rest := []) ⟨hx, hb, hml, hown, hts⟩ (s_X7_writes_v3 l dC dI cI cJ cZ cM h r (upd i 91 (u_38.1 0)) j (f51 0) (u_38.2.2.1 0) (show iR (u_38.1 0) 3 3 from g_38_0) (mR_upd 91 hI (show iR _ (loI 91) (hiI 91) from (iR_w g_38_0 (by decide +kernel)))) H.size) (cwV 1 hts gX7_image_X7_writes rfl rfl rfl (by decide +kernel) ⟨(Nat.le_of_ble_eq_true rfl), (Nat.le_of_ble_eq_true rfl)⟩) (k_pV hPc hDc hK hN hC hS hFc hP (q0 := 4) (ci := 7) rfl rfl) rfl rfl hl.1 rfl (lv_room (Nat.le_of_ble_eq_true rfl)) dX7_image_48 ⟨(Nat.le_of_ble_eq_true rfl), (Nat.le_of_ble_eq_true rfl)⟩) hP hD hS hA [4, 5] [0, 1, 2, 3] rfl rfl rfl rfl (by decide) (fun _ => rfl) 0 0 rfl rfl (fun u_48 H locs hw hP hD hS => ?_)
  have g_48_0 := hw
  have hP : va_P (dC, dI) vwCl [((r 49), .inl (cI, 22, .inl f49)), ((r 50), .inl (cI, 22, .inl f50)), ((r 51), .inl (cI, 22, .inl f51)), ((r 52), .inl (cI, 22, .inl f52)), (h, .inr (7, oM r (upd i 91 (u_48.1 0)) j)), ((r 90), .inl (cI, 12, .inl (u_48.2.2.1 0)))] H := hP
  have hD : va_D A [((r 49), .inl (cI, 22, .inl f49)), ((r 50), .inl (cI, 22, .inl f50)), ((r 51), .inl (cI, 22, .inl f51)), ((r 52), .inl (cI, 22, .inl f52)), (h, .inr (7, oM r (upd i 91 (u_48.1 0)) j)), ((r 90), .inl (cI, 12, .inl (u_48.2.2.1 0)))] := hD
  refine lv_aload_n hx hb dX7_image_51 rfl (lv_at hl 0 rfl) ?_
  refine lv_aload_n hx hb dX7_image_52 rfl (lv_at hl 0 rfl) ?_
  refine k_get (D := (dC, dI)) (ci := 7) (v := .ref (r 50)) (C := RX7) (T := TX7) (N := 92) hx hb hts hinX7 hown hK hP 4 rfl rfl 50 (by decide) w_3 rfl rfl dX7_image_53 ?_
  refine lv_iconst (v := 0) hx hb dX7_image_56 (by decide +kernel) ?_
  refine k_iald (v := (f50 0)) hx hb hK hP 1 0 0 rfl rfl rfl (Nat.le_of_ble_eq_true rfl) (Nat.le_of_ble_eq_true rfl) rfl dX7_image_57 ?_
  have f_57_1 : iR (f50 0) 0 999 := hf50 _
  refine lv_bipush (v := 8) hx hb dX7_image_58 (by decide +kernel) ?_
  refine lv_ishr hx hb dX7_image_60 ?_
  refine lv_topi (fun y_60 ey_60 => ?_)
  have f_60_2 : iR y_60 0 3 := iR_shr 8 ey_60 f_57_1 (iR_c (n := 8) (a := 8) (b := 8) (by decide +kernel) (by decide +kernel)) (by decide +kernel)
  refine k_cv (wc := [(h, .inr (7, oM r (upd i 91 (u_48.1 0)) j)), ((r 90), .inl (cI, 12, .inl (u_48.2.2.1 0)))]) (wr := [((r 49), .inl (cI, 22, .inl f49)), ((r 50), .inl (cI, 22, .inl f50)), ((r 51), .inl (cI, 22, .inl f51)), ((r 52), .inl (cI, 22, .inl f52))]) (fun hPc hDc hFc => va_runV (As := [.int y_60]) (rest := []) ⟨hx, hb, hml, hown, hts⟩ (s_X7_writes_v4 l dC dI cI cJ cZ cM h r (upd i 91 (u_48.1 0)) j y_60 (u_48.2.2.1 0) (show iR (u_48.1 0) 4 4 from g_48_0) (mR_upd 91 hI (show iR _ (loI 91) (hiI 91) from (iR_w g_48_0 (by decide +kernel)))) H.size) (cwV 1 hts gX7_image_X7_writes rfl rfl rfl (by decide +kernel) ⟨(Nat.le_of_ble_eq_true rfl), (Nat.le_of_ble_eq_true rfl)⟩) (k_pV hPc hDc hK hN hC hS hFc hP (q0 := 4) (ci := 7) rfl rfl) rfl rfl hl.1 rfl (lv_room (Nat.le_of_ble_eq_true rfl)) dX7_image_61 ⟨(Nat.le_of_ble_eq_true rfl), (Nat.le_of_ble_eq_true rfl)⟩) hP hD hS hA [4, 5] [0, 1, 2, 3] rfl rfl rfl rfl (by decide) (fun _ => rfl) 0 0 rfl rfl (fun u_61 H locs hw hP hD hS => ?_)
  have g_61_0 := hw
  have hP : va_P (dC, dI) vwCl [((r 49), .inl (cI, 22, .inl f49)), ((r 50), .inl (cI, 22, .inl f50)), ((r 51), .inl (cI, 22, .inl f51)), ((r 52), .inl (cI, 22, .inl f52)), (h, .inr (7, oM r (upd i 91 (u_61.1 0)) j)), ((r 90), .inl (cI, 12, .inl (u_61.2.2.1 0)))] H := hP
  have hD : va_D A [((r 49), .inl (cI, 22, .inl f49)), ((r 50), .inl (cI, 22, .inl f50)), ((r 51), .inl (cI, 22, .inl f51)), ((r 52), .inl (cI, 22, .inl f52)), (h, .inr (7, oM r (upd i 91 (u_61.1 0)) j)), ((r 90), .inl (cI, 12, .inl (u_61.2.2.1 0)))] := hD
  refine lv_aload_n hx hb dX7_image_64 rfl (lv_at hl 0 rfl) ?_
  refine lv_aload_n hx hb dX7_image_65 rfl (lv_at hl 0 rfl) ?_
  refine k_get (D := (dC, dI)) (ci := 7) (v := .ref (r 50)) (C := RX7) (T := TX7) (N := 92) hx hb hts hinX7 hown hK hP 4 rfl rfl 50 (by decide) w_3 rfl rfl dX7_image_66 ?_
  refine lv_iconst (v := 0) hx hb dX7_image_69 (by decide +kernel) ?_
  refine k_iald (v := (f50 0)) hx hb hK hP 1 0 0 rfl rfl rfl (Nat.le_of_ble_eq_true rfl) (Nat.le_of_ble_eq_true rfl) rfl dX7_image_70 ?_
  refine k_cv (wc := [(h, .inr (7, oM r (upd i 91 (u_61.1 0)) j)), ((r 90), .inl (cI, 12, .inl (u_61.2.2.1 0)))]) (wr := [((r 49), .inl (cI, 22, .inl f49)), ((r 50), .inl (cI, 22, .inl f50)), ((r 51), .inl (cI, 22, .inl f51)), ((r 52), .inl (cI, 22, .inl f52))]) (fun hPc hDc hFc => va_runV (As := [.int (f50 0)]) (rest := []) ⟨hx, hb, hml, hown, hts⟩ (s_X7_writes_v5 l dC dI cI cJ cZ cM h r (upd i 91 (u_61.1 0)) j (f50 0) (u_61.2.2.1 0) (show iR (u_61.1 0) 5 5 from g_61_0) (mR_upd 91 hI (show iR _ (loI 91) (hiI 91) from (iR_w g_61_0 (by decide +kernel)))) H.size) (cwV 1 hts gX7_image_X7_writes rfl rfl rfl (by decide +kernel) ⟨(Nat.le_of_ble_eq_true rfl), (Nat.le_of_ble_eq_true rfl)⟩) (k_pV hPc hDc hK hN hC hS hFc hP (q0 := 4) (ci := 7) rfl rfl) rfl rfl hl.1 rfl (lv_room (Nat.le_of_ble_eq_true rfl)) dX7_image_71 ⟨(Nat.le_of_ble_eq_true rfl), (Nat.le_of_ble_eq_true rfl)⟩) hP hD hS hA [4, 5] [0, 1, 2, 3] rfl rfl rfl rfl (by decide) (fun _ => rfl) 0 0 rfl rfl (fun u_71 H locs hw hP hD hS => ?_)
  have g_71_0 := hw
  have hP : va_P (dC, dI) vwCl [((r 49), .inl (cI, 22, .inl f49)), ((r 50), .inl (cI, 22, .inl f50)), ((r 51), .inl (cI, 22, .inl f51)), ((r 52), .inl (cI, 22, .inl f52)), (h, .inr (7, oM r (upd i 91 (u_71.1 0)) j)), ((r 90), .inl (cI, 12, .inl (u_71.2.2.1 0)))] H := hP
  have hD : va_D A [((r 49), .inl (cI, 22, .inl f49)), ((r 50), .inl (cI, 22, .inl f50)), ((r 51), .inl (cI, 22, .inl f51)), ((r 52), .inl (cI, 22, .inl f52)), (h, .inr (7, oM r (upd i 91 (u_71.1 0)) j)), ((r 90), .inl (cI, 12, .inl (u_71.2.2.1 0)))] := hD
  refine lv_aload_n hx hb dX7_image_74 rfl (lv_at hl 0 rfl) ?_
  refine lv_aload_n hx hb dX7_image_75 rfl (lv_at hl 0 rfl) ?_
  refine k_get (D := (dC, dI)) (ci := 7) (v := .ref (r 49)) (C := RX7) (T := TX7) (N := 92) hx hb hts hinX7 hown hK hP 4 rfl rfl 49 (by decide) w_4 rfl rfl dX7_image_76 ?_
  refine lv_iconst (v := 0) hx hb dX7_image_79 (by decide +kernel) ?_
  refine k_iald (v := (f49 0)) hx hb hK hP 0 0 0 rfl rfl rfl (Nat.le_of_ble_eq_true rfl) (Nat.le_of_ble_eq_true rfl) rfl dX7_image_80 ?_
  have f_80_3 : iR (f49 0) 0 1023 := hf49 _
  refine lv_bipush (v := 8) hx hb dX7_image_81 (by decide +kernel) ?_
  refine lv_ishr hx hb dX7_image_83 ?_
  refine lv_topi (fun y_83 ey_83 => ?_)
  have f_83_4 : iR y_83 0 3 := iR_shr 8 ey_83 f_80_3 (iR_c (n := 8) (a := 8) (b := 8) (by decide +kernel) (by decide +kernel)) (by decide +kernel)
  refine k_cv (wc := [(h, .inr (7, oM r (upd i 91 (u_71.1 0)) j)), ((r 90), .inl (cI, 12, .inl (u_71.2.2.1 0)))]) (wr := [((r 49), .inl (cI, 22, .inl f49)), ((r 50), .inl (cI, 22, .inl f50)), ((r 51), .inl (cI, 22, .inl f51)), ((r 52), .inl (cI, 22, .inl f52))]) (fun hPc hDc hFc => va_runV (As := [.int y_83]) (rest := []) ⟨hx, hb, hml, hown, hts⟩ (s_X7_writes_v6 l dC dI cI cJ cZ cM h r (upd i 91 (u_71.1 0)) j y_83 (u_71.2.2.1 0) (show iR (u_71.1 0) 6 6 from g_71_0) (mR_upd 91 hI (show iR _ (loI 91) (hiI 91) from (iR_w g_71_0 (by decide +kernel)))) H.size) (cwV 1 hts gX7_image_X7_writes rfl rfl rfl (by decide +kernel) ⟨(Nat.le_of_ble_eq_true rfl), (Nat.le_of_ble_eq_true rfl)⟩) (k_pV hPc hDc hK hN hC hS hFc hP (q0 := 4) (ci := 7) rfl rfl) rfl rfl hl.1 rfl (lv_room (Nat.le_of_ble_eq_true rfl)) dX7_image_84 ⟨(Nat.le_of_ble_eq_true rfl), (Nat.le_of_ble_eq_true rfl)⟩) hP hD hS hA [4, 5] [0, 1, 2, 3] rfl rfl rfl rfl (by decide) (fun _ => rfl) 0 0 rfl rfl (fun u_84 H locs hw hP hD hS => ?_)
  have g_84_0 := hw
  have hP : va_P (dC, dI) vwCl [((r 49), .inl (cI, 22, .inl f49)), ((r 50), .inl (cI, 22, .inl f50)), ((r 51), .inl (cI, 22, .inl f51)), ((r 52), .inl (cI, 22, .inl f52)), (h, .inr (7, oM r (upd i 91 (u_84.1 0)) j)), ((r 90), .inl (cI, 12, .inl (u_84.2.2.1 0)))] H := hP
  have hD : va_D A [((r 49), .inl (cI, 22, .inl f49)), ((r 50), .inl (cI, 22, .inl f50)), ((r 51), .inl (cI, 22, .inl f51)), ((r 52), .inl (cI, 22, .inl f52)), (h, .inr (7, oM r (upd i 91 (u_84.1 0)) j)), ((r 90), .inl (cI, 12, .inl (u_84.2.2.1 0)))] := hD
  refine lv_aload_n hx hb dX7_image_87 rfl (lv_at hl 0 rfl) ?_
  refine lv_aload_n hx hb dX7_image_88 rfl (lv_at hl 0 rfl) ?_
  refine k_get (D := (dC, dI)) (ci := 7) (v := .ref (r 49)) (C := RX7) (T := TX7) (N := 92) hx hb hts hinX7 hown hK hP 4 rfl rfl 49 (by decide) w_4 rfl rfl dX7_image_89 ?_
  refine lv_iconst (v := 0) hx hb dX7_image_92 (by decide +kernel) ?_
  refine k_iald (v := (f49 0)) hx hb hK hP 0 0 0 rfl rfl rfl (Nat.le_of_ble_eq_true rfl) (Nat.le_of_ble_eq_true rfl) rfl dX7_image_93 ?_
  refine k_cv (wc := [(h, .inr (7, oM r (upd i 91 (u_84.1 0)) j)), ((r 90), .inl (cI, 12, .inl (u_84.2.2.1 0)))]) (wr := [((r 49), .inl (cI, 22, .inl f49)), ((r 50), .inl (cI, 22, .inl f50)), ((r 51), .inl (cI, 22, .inl f51)), ((r 52), .inl (cI, 22, .inl f52))]) (fun hPc hDc hFc => va_runV (As := [.int (f49 0)]) (rest := []) ⟨hx, hb, hml, hown, hts⟩ (s_X7_writes_v7 l dC dI cI cJ cZ cM h r (upd i 91 (u_84.1 0)) j (f49 0) (u_84.2.2.1 0) (show iR (u_84.1 0) 7 7 from g_84_0) (mR_upd 91 hI (show iR _ (loI 91) (hiI 91) from (iR_w g_84_0 (by decide +kernel)))) H.size) (cwV 1 hts gX7_image_X7_writes rfl rfl rfl (by decide +kernel) ⟨(Nat.le_of_ble_eq_true rfl), (Nat.le_of_ble_eq_true rfl)⟩) (k_pV hPc hDc hK hN hC hS hFc hP (q0 := 4) (ci := 7) rfl rfl) rfl rfl hl.1 rfl (lv_room (Nat.le_of_ble_eq_true rfl)) dX7_image_94 ⟨(Nat.le_of_ble_eq_true rfl), (Nat.le_of_ble_eq_true rfl)⟩) hP hD hS hA [4, 5] [0, 1, 2, 3] rfl rfl rfl rfl (by decide) (fun _ => rfl) 0 0 rfl rfl (fun u_94 H locs hw hP hD hS => ?_)
  have g_94_0 := hw
  have hP : va_P (dC, dI) vwCl [((r 49), .inl (cI, 22, .inl f49)), ((r 50), .inl (cI, 22, .inl f50)), ((r 51), .inl (cI, 22, .inl f51)), ((r 52), .inl (cI, 22, .inl f52)), (h, .inr (7, oM r (upd i 91 (u_94.1 0)) j)), ((r 90), .inl (cI, 12, .inl (u_94.2.2.1 0)))] H := hP
  have hD : va_D A [((r 49), .inl (cI, 22, .inl f49)), ((r 50), .inl (cI, 22, .inl f50)), ((r 51), .inl (cI, 22, .inl f51)), ((r 52), .inl (cI, 22, .inl f52)), (h, .inr (7, oM r (upd i 91 (u_94.1 0)) j)), ((r 90), .inl (cI, 12, .inl (u_94.2.2.1 0)))] := hD
  refine lv_bipush (v := 97) hx hb dX7_image_97 (by decide +kernel) ?_
  refine lv_istore_n (lv' := [(1, .int 97), (0, .ref h)]) hx hb dX7_image_99 rfl hl (by decide) rfl (fun ls hl => ?_)
  refine lv_iconst (v := 0) hx hb dX7_image_100 (by decide +kernel) ?_
  have J_102 : ∀ (n_102 : Nat) (j102_L1 : Int32) (j102_L2 : Int32) (hj102_L2 : iR j102_L2 0 8) (hm_102 : (8 - j102_L2.toInt).toNat < n_102) (H : Heap) (locs : List Loc) (ls : Array Slot), va_P (dC, dI) vwCl [(h, .inr (7, oM r (upd i 91 (u_94.1 0)) j)), ((r 49), .inl (cI, 22, .inl f49)), ((r 50), .inl (cI, 22, .inl f50)), ((r 51), .inl (cI, 22, .inl f51)), ((r 52), .inl (cI, 22, .inl f52)), ((r 90), .inl (cI, 12, .inl (u_94.2.2.1 0)))] H → va_D A [(h, .inr (7, oM r (upd i 91 (u_94.1 0)) j)), ((r 49), .inl (cI, 22, .inl f49)), ((r 50), .inl (cI, 22, .inl f50)), ((r 51), .inl (cI, 22, .inl f51)), ((r 52), .inl (cI, 22, .inl f52)), ((r 90), .inl (cI, 12, .inl (u_94.2.2.1 0)))] → va_S A s.heap H locs → lv_has ls 3 [(0, .ref h), (1, .int j102_L1), (2, .int j102_L2)] → W p l e ({ frames := 2, cells := 0, slots := 0, locals := 61 }) s m args below meth c H locs 0 0 (MQ below (va_Qi (fun (r9 : Int32) (u9 : SU) => (iR r9 9 9) ∧ (iR (u9.1 0) 9 9)) (fun u => k_B (dC, dI) vwCl (tyy cI cJ cZ cM) A ((fun (u9 : SU) => [(h, .inr (7, oM r (upd i 91 (u9.1 0)) j)), ((r 49), .inl (cI, 22, .inl f49)), ((r 50), .inl (cI, 22, .inl f50)), ((r 51), .inl (cI, 22, .inl f51)), ((r 52), .inl (cI, 22, .inl f52)), ((r 90), .inl (cI, 12, .inl (u9.2.2.1 0)))]) u)) A) args s 0 0 A) (F0 m 102 ls []) := by
    intro n_102
    induction n_102 with
    | zero => intro j102_L1 j102_L2 hj102_L2 hm_102; exact absurd hm_102 (Nat.not_lt_zero _)
    | succ n_102 ih_102 =>
      intro j102_L1 j102_L2 hj102_L2 hm_102 H locs ls hP hD hS hl
      refine lv_iload_n hx hb dX7_image_102 rfl (lv_at hl 2 rfl) ?_
      refine lv_aload_n hx hb dX7_image_103 rfl (lv_at hl 0 rfl) ?_
      refine k_get (D := (dC, dI)) (ci := 7) (v := .int (u_94.1 0)) (C := RX7) (T := TX7) (N := 92) hx hb hts hinX7 hown hK hP 0 rfl rfl 91 (by decide) w_0 rfl rfl dX7_image_104 ?_
      refine lv_icmp_ge (tgt := 131) hx hb dX7_image_107 (by decide) (fun c_107 => ?_) (fun c_107 => ?_)
      · have c_107 : (u_94.1 0) ≤ j102_L2 := c_107
        have f_131_1 : iR j102_L2 8 8 := iR_leR c_107 g_94_0 hj102_L2 (by decide +kernel)
        refine lv_aload_n hx hb dX7_image_131 rfl (lv_at hl 0 rfl) ?_
        refine lv_iload_n hx hb dX7_image_132 rfl (lv_at hl 1 rfl) ?_
        refine k_cv (wc := [(h, .inr (7, oM r (upd i 91 (u_94.1 0)) j)), ((r 90), .inl (cI, 12, .inl (u_94.2.2.1 0)))]) (wr := [((r 49), .inl (cI, 22, .inl f49)), ((r 50), .inl (cI, 22, .inl f50)), ((r 51), .inl (cI, 22, .inl f51)), ((r 52), .inl (cI, 22, .inl f52))]) (fun hPc hDc hFc => va_runV (As := [.int j102_L1]) (rest := []) ⟨hx, hb, hml, hown, hts⟩ (s_X7_writes_v8 l dC dI cI cJ cZ cM h r (upd i 91 (u_94.1 0)) j j102_L1 (u_94.2.2.1 0) (show iR (u_94.1 0) 8 8 from g_94_0) (mR_upd 91 hI (show iR _ (loI 91) (hiI 91) from (iR_w g_94_0 (by decide +kernel)))) H.size) (cwV 1 hts gX7_image_X7_writes rfl rfl rfl (by decide +kernel) ⟨(Nat.le_of_ble_eq_true rfl), (Nat.le_of_ble_eq_true rfl)⟩) (k_pV hPc hDc hK hN hC hS hFc hP (q0 := 0) (ci := 7) rfl rfl) rfl rfl hl.1 rfl (lv_room (Nat.le_of_ble_eq_true rfl)) dX7_image_133 ⟨(Nat.le_of_ble_eq_true rfl), (Nat.le_of_ble_eq_true rfl)⟩) hP hD hS hA [0, 5] [1, 2, 3, 4] rfl rfl rfl rfl (by decide) (fun _ => rfl) 0 0 rfl rfl (fun u_133 H locs hw hP hD hS => ?_)
        have g_133_0 := hw
        have hP : va_P (dC, dI) vwCl [((r 49), .inl (cI, 22, .inl f49)), ((r 50), .inl (cI, 22, .inl f50)), ((r 51), .inl (cI, 22, .inl f51)), ((r 52), .inl (cI, 22, .inl f52)), (h, .inr (7, oM r (upd i 91 (u_133.1 0)) j)), ((r 90), .inl (cI, 12, .inl (u_133.2.2.1 0)))] H := hP
        have hD : va_D A [((r 49), .inl (cI, 22, .inl f49)), ((r 50), .inl (cI, 22, .inl f50)), ((r 51), .inl (cI, 22, .inl f51)), ((r 52), .inl (cI, 22, .inl f52)), (h, .inr (7, oM r (upd i 91 (u_133.1 0)) j)), ((r 90), .inl (cI, 12, .inl (u_133.2.2.1 0)))] := hD
        refine lv_aload_n hx hb dX7_image_136 rfl (lv_at hl 0 rfl) ?_
        refine k_get (D := (dC, dI)) (ci := 7) (v := .int (u_133.1 0)) (C := RX7) (T := TX7) (N := 92) hx hb hts hinX7 hown hK hP 4 rfl rfl 91 (by decide) w_0 rfl rfl dX7_image_137 ?_
        exact k_ri B hP hD hS dX7_image_140 ((fun k9 => match k9 with | 0 => (u_133.1 0) | _ => 0), (fun _ => 0), (fun k9 => match k9 with | 0 => (u_133.2.2.1 0) | _ => (fun _ => 0)), (fun _ => (fun _ => 0)), (fun _ => 0)) [4, 0, 1, 2, 3, 5] rfl rfl rfl (Nat.le_of_ble_eq_true rfl) (Nat.le_of_ble_eq_true rfl) ⟨(show iR (u_133.1 0) 9 9 from g_133_0), (show iR (u_133.1 0) 9 9 from g_133_0)⟩
      · have c_107 : j102_L2 < (u_94.1 0) := i_nle c_107
        have f_110_1 : iR j102_L2 0 7 := iR_ltL c_107 hj102_L2 g_94_0 (by decide +kernel)
        refine lv_iconst (v := 5) hx hb dX7_image_110 (by decide +kernel) ?_
        refine lv_iload_n hx hb dX7_image_111 rfl (lv_at hl 1 rfl) ?_
        refine lv_imul hx hb dX7_image_112 ?_
        refine lv_topi (fun y_112 ey_112 => ?_)
        refine lv_aload_n hx hb dX7_image_113 rfl (lv_at hl 0 rfl) ?_
        refine k_get (D := (dC, dI)) (ci := 7) (v := .ref (r 90)) (C := RX7) (T := TX7) (N := 92) hx hb hts hinX7 hown hK hP 0 rfl rfl 90 (by decide) w_5 rfl rfl dX7_image_114 ?_
        refine lv_iload_n hx hb dX7_image_117 rfl (lv_at hl 2 rfl) ?_
        refine va_iald hx hb hK hP 5 0 rfl rfl (iR_vp f_110_1 (by decide +kernel)) dX7_image_118 ?_
        refine lv_iadd hx hb dX7_image_119 ?_
        refine lv_topi (fun y_119 ey_119 => ?_)
        refine lv_sipush (v := 251) hx hb dX7_image_120 (by decide +kernel) ?_
        refine lv_irem hx hb dX7_image_123 (i_nz (iR_c (n := 251) (a := 251) (b := 251) (by decide +kernel) (by decide +kernel)) (by decide +kernel)) ?_
        refine lv_topi (fun y_123 ey_123 => ?_)
        refine lv_istore_n (lv' := [(1, .int y_123), (0, .ref h), (2, .int j102_L2)]) hx hb dX7_image_124 rfl hl (by decide) rfl (fun ls hl => ?_)
        obtain ⟨y_125, ey_125⟩ : ∃ y : Int32, y = j102_L2 + 1 := ⟨_, rfl⟩
        refine lv_iinc (v := y_125) (lv' := [(2, .int y_125), (1, .int y_123), (0, .ref h)]) hx hb dX7_image_125 hl (k := 2) rfl ey_125.symm (by decide) rfl (fun ls hl => ?_)
        have f_125_2 : iR y_125 1 8 := iR_add ey_125 f_110_1 (iR_c (n := 1) (a := 1) (b := 1) (by decide +kernel) (by decide +kernel)) (by decide +kernel)
        refine lv_goto (tgt := 102) hx hb dX7_image_128 (by decide) ?_
        exact ih_102 y_123 y_125 (iR_w f_125_2 (by decide +kernel)) (m_up (B := 8) hm_102 ey_125 f_110_1 (by decide +kernel)) H locs ls hP hD hS (lv_sub hl [2, 1, 0] rfl)
  refine lv_istore_n (lv' := [(2, .int 0), (1, .int 97), (0, .ref h)]) hx hb dX7_image_101 rfl hl (by decide) rfl (fun ls hl => ?_)
  exact J_102 _ 97 0 (iR_c (n := 0) (a := 0) (b := 8) (by decide +kernel) (by decide +kernel)) (Nat.lt_succ_self _) H locs ls (hP.sub [4, 0, 1, 2, 3, 5] rfl) (hD.sub [4, 0, 1, 2, 3, 5] (by decide +kernel) rfl) hS (lv_sub hl [2, 1, 0] rfl)
set_option maxHeartbeats 8000000 in
set_option maxRecDepth 100000 in
theorem s_X7_octet_v0 (l : Launch) (dC : Nat → ClassId) (dI : Nat → Nat → Nat) (cI cJ cZ cM : ClassId) (h : Nat) (r : Nat → Nat) (i : Nat → Int32) (j : Nat → Int64) (x1 : Int32) (f90 : Nat → Int32) (hI : mR i) : k_Mi l yX7_octet wsX7_octet ({ frames := 2, cells := 0, slots := 0, locals := 62 }) (dC, dI) vwCl (tyy cI cJ cZ cM) [(h, .inr (7, oM r i j)), ((r 90), .inl (cI, 12, .inl f90))] [.ref h, .int x1] 0 0 (fun (u9 : Unit) => [(h, .inr (7, oM r i j)), ((r 90), .inl (cI, 12, .inl f90))]) (fun (r9 : Int32) (u9 : Unit) => True) := by
  refine fun sz => k_enter (cc := cX7_octet) (maxL := 2) (ret := some (.int)) (Qc := fun A => va_Qi (fun (r9 : Int32) (u9 : Unit) => True) (fun u => k_B (dC, dI) vwCl (tyy cI cJ cZ cM) A ((fun (u9 : Unit) => [(h, .inr (7, oM r i j)), ((r 90), .inl (cI, 12, .inl f90))]) u)) A) sz (by decide +kernel) rfl (Nat.le_of_ble_eq_true rfl) (fun p e s m args below meth c A ls H locs B hP hD hS hl => ?_)
  obtain ⟨hx, hb, hml, hown, hts, hr, hlk, hnm, hK, hA, hN, hC⟩ := id B
  have hown : s.vm.findClass RX7 = some m.cls := hown
  have hl : lv_has ls 2 [(0, .ref h), (1, .int x1)] := hl
  have w_0 : (Cond.fieldLink RX7 288 "WishSeaModel" "outs" "I").before args s = true := hts _ (List.mem_of_getElem? (i := 1) rfl)
  have w_1 : (Cond.fieldLink RX7 285 "WishSeaModel" "out" "[I").before args s = true := hts _ (List.mem_of_getElem? (i := 2) rfl)
  have hinX7 : ∀ w ∈ u_ws RX7 TX7 92, w ∈ wsX7_octet := fun _ h => List.mem_cons_of_mem _ (List.mem_append_right _ h)
  refine lv_iload_n hx hb dX7_octet_0 rfl (lv_at hl 1 rfl) ?_
  refine lv_iconst (v := 0) hx hb dX7_octet_1 (by decide +kernel) ?_
  refine lv_aload_n hx hb dX7_octet_2 rfl (lv_at hl 0 rfl) ?_
  have f_3_1 : iR (i 91) 0 9 := hI 91
  refine k_get (D := (dC, dI)) (ci := 7) (v := .int (i 91)) (C := RX7) (T := TX7) (N := 92) hx hb hts hinX7 hown hK hP 0 rfl rfl 91 (by decide) w_0 rfl rfl dX7_octet_3 ?_
  refine lv_iconst (v := 1) hx hb dX7_octet_6 (by decide +kernel) ?_
  refine lv_isub hx hb dX7_octet_7 ?_
  refine lv_topi (fun y_7 ey_7 => ?_)
  have f_7_2 : iR y_7 (-1) 8 := iR_sub ey_7 f_3_1 (iR_c (n := 1) (a := 1) (b := 1) (by decide +kernel) (by decide +kernel)) (by decide +kernel)
  refine k_ci (wc := []) (wr := [(h, .inr (7, oM r i j)), ((r 90), .inl (cI, 12, .inl f90))]) (fun hPc hDc hFc => va_runS (As := [.int x1, .int 0, .int y_7]) (rest := []) ⟨hx, hb, hml, hown, hts⟩ (s_X7_is_v0 l dC dI cI cJ cZ cM x1 0 y_7 H.size) (va_cwS 3 hts gX7_octet_X7_is rfl rfl rfl (by decide +kernel) ⟨(Nat.le_of_ble_eq_true rfl), (Nat.le_of_ble_eq_true rfl)⟩) (k_pS hPc hDc hK hN hC hS hFc) rfl rfl hl.1 rfl (lv_room (Nat.le_of_ble_eq_true rfl)) dX7_octet_8 ⟨(Nat.le_of_ble_eq_true rfl), (Nat.le_of_ble_eq_true rfl)⟩) hP hD hS hA [] [0, 1] rfl rfl rfl rfl (by decide) (fun _ => rfl) 0 0 rfl rfl (fun r_8 u_8 H locs hw hP hD hS => ?_)
  obtain ⟨g_8_0, g_8_1⟩ := hw
  have hP : va_P (dC, dI) vwCl [(h, .inr (7, oM r i j)), ((r 90), .inl (cI, 12, .inl f90))] H := hP
  have hD : va_D A [(h, .inr (7, oM r i j)), ((r 90), .inl (cI, 12, .inl f90))] := hD
  have g_8_1 : (r_8 = 0) ∨ ((0 ≤ x1) ∧ (x1 ≤ y_7)) := g_8_1
  refine lv_if_eq (tgt := 23) hx hb dX7_octet_11 (by decide) (fun c_11 => ?_) (fun c_11 => ?_)
  · have c_11 : r_8 = 0 := c_11
    have f_23_3 : iR r_8 0 0 := iR_eqL c_11 g_8_0 (iR_c (n := 0) (a := 0) (b := 0) (by decide +kernel) (by decide +kernel)) (by decide +kernel)
    refine lv_iconst (v := (-1)) hx hb dX7_octet_23 (by decide +kernel) ?_
    exact k_ri B hP hD hS dX7_octet_24 () [0, 1] rfl rfl rfl (Nat.le_of_ble_eq_true rfl) (Nat.le_of_ble_eq_true rfl) trivial
  · have c_11 : ¬ r_8 = 0 := c_11
    have f_14_3 : iR r_8 1 1 := iR_neL c_11 g_8_0 (iR_c (n := 0) (a := 0) (b := 0) (by decide +kernel) (by decide +kernel)) (by decide +kernel)
    obtain ⟨d_11_1_0, d_11_1_1⟩ := g_8_1.resolve_left c_11
    have f_14_4 : iR x1 0 2147483647 := iR_leR d_11_1_0 (iR_c (n := 0) (a := 0) (b := 0) (by decide +kernel) (by decide +kernel)) (iR_top _) (by decide +kernel)
    have f_14_5 : iR x1 0 8 := iR_leL d_11_1_1 f_14_4 f_7_2 (by decide +kernel)
    have f_14_6 : iR y_7 0 8 := iR_leR d_11_1_1 f_14_4 f_7_2 (by decide +kernel)
    refine lv_aload_n hx hb dX7_octet_14 rfl (lv_at hl 0 rfl) ?_
    refine k_get (D := (dC, dI)) (ci := 7) (v := .ref (r 90)) (C := RX7) (T := TX7) (N := 92) hx hb hts hinX7 hown hK hP 0 rfl rfl 90 (by decide) w_1 rfl rfl dX7_octet_15 ?_
    refine lv_iload_n hx hb dX7_octet_18 rfl (lv_at hl 1 rfl) ?_
    refine va_iald hx hb hK hP 1 0 rfl rfl (iR_vp f_14_5 (by decide +kernel)) dX7_octet_19 ?_
    refine lv_goto (tgt := 24) hx hb dX7_octet_20 (by decide) ?_
    exact k_ri B hP hD hS dX7_octet_24 () [0, 1] rfl rfl rfl (Nat.le_of_ble_eq_true rfl) (Nat.le_of_ble_eq_true rfl) trivial
set_option maxHeartbeats 8000000 in
set_option maxRecDepth 100000 in
theorem s_X7_twoBytes_v0 (l : Launch) (dC : Nat → ClassId) (dI : Nat → Nat → Nat) (cI cJ cZ cM : ClassId) (h : Nat) (r : Nat → Nat) (i : Nat → Int32) (j : Nat → Int64) (f0 : Nat → Int32) (hI : mR i) (hf0 : aR f0 0 255) : k_Mi l yX7_twoBytes wsX7_twoBytes ({ frames := 1, cells := 0, slots := 0, locals := 40 }) (dC, dI) vwCl (tyy cI cJ cZ cM) [(h, .inr (7, oM r i j)), ((r 0), .inl (cI, 1800, .inl f0))] [.ref h, .int 0] 0 0 (fun (u9 : Unit) => [(h, .inr (7, oM r i j)), ((r 0), .inl (cI, 1800, .inl f0))]) (fun (r9 : Int32) (u9 : Unit) => (iR r9 0 65535) ∧ (r9 = (w2b f0 0))) := by
  refine fun sz => k_enter (cc := cX7_twoBytes) (maxL := 2) (ret := some (.int)) (Qc := fun A => va_Qi (fun (r9 : Int32) (u9 : Unit) => (iR r9 0 65535) ∧ (r9 = (w2b f0 0))) (fun u => k_B (dC, dI) vwCl (tyy cI cJ cZ cM) A ((fun (u9 : Unit) => [(h, .inr (7, oM r i j)), ((r 0), .inl (cI, 1800, .inl f0))]) u)) A) sz (by decide +kernel) rfl (Nat.le_of_ble_eq_true rfl) (fun p e s m args below meth c A ls H locs B hP hD hS hl => ?_)
  obtain ⟨hx, hb, hml, hown, hts, hr, hlk, hnm, hK, hA, hN, hC⟩ := id B
  have hown : s.vm.findClass RX7 = some m.cls := hown
  have hl : lv_has ls 2 [(0, .ref h), (1, .int 0)] := hl
  have w_0 : (Cond.fieldLink RX7 7 "WishSeaModel" "tape" "[I").before args s = true := hts _ (List.mem_of_getElem? (i := 1) rfl)
  have hinX7 : ∀ w ∈ u_ws RX7 TX7 92, w ∈ wsX7_twoBytes := fun _ h => List.mem_cons_of_mem _ (List.mem_append_right _ h)
  refine lv_aload_n hx hb dX7_twoBytes_0 rfl (lv_at hl 0 rfl) ?_
  refine k_get (D := (dC, dI)) (ci := 7) (v := .ref (r 0)) (C := RX7) (T := TX7) (N := 92) hx hb hts hinX7 hown hK hP 0 rfl rfl 0 (by decide) w_0 rfl rfl dX7_twoBytes_1 ?_
  refine lv_iload_n hx hb dX7_twoBytes_4 rfl (lv_at hl 1 rfl) ?_
  refine k_iald (v := (f0 0)) hx hb hK hP 1 0 0 rfl rfl rfl (Nat.le_of_ble_eq_true rfl) (Nat.le_of_ble_eq_true rfl) rfl dX7_twoBytes_5 ?_
  have f_5_1 : iR (f0 0) 0 255 := hf0 _
  refine lv_bipush (v := 8) hx hb dX7_twoBytes_6 (by decide +kernel) ?_
  refine lv_ishl hx hb dX7_twoBytes_8 ?_
  refine lv_topi (fun y_8 ey_8 => ?_)
  have f_8_2 : iR y_8 0 65280 := iR_shl 8 ey_8 f_5_1 (iR_c (n := 8) (a := 8) (b := 8) (by decide +kernel) (by decide +kernel)) (by decide +kernel)
  refine lv_aload_n hx hb dX7_twoBytes_9 rfl (lv_at hl 0 rfl) ?_
  refine k_get (D := (dC, dI)) (ci := 7) (v := .ref (r 0)) (C := RX7) (T := TX7) (N := 92) hx hb hts hinX7 hown hK hP 0 rfl rfl 0 (by decide) w_0 rfl rfl dX7_twoBytes_10 ?_
  refine lv_iload_n hx hb dX7_twoBytes_13 rfl (lv_at hl 1 rfl) ?_
  refine lv_iconst (v := 1) hx hb dX7_twoBytes_14 (by decide +kernel) ?_
  refine lv_iadd hx hb dX7_twoBytes_15 ?_
  refine k_int (v := 1) (by decide +kernel) ?_
  refine k_iald (v := (f0 1)) hx hb hK hP 1 0 1 rfl rfl rfl (Nat.le_of_ble_eq_true rfl) (Nat.le_of_ble_eq_true rfl) rfl dX7_twoBytes_16 ?_
  have f_16_3 : iR (f0 1) 0 255 := hf0 _
  refine lv_ior hx hb dX7_twoBytes_17 ?_
  refine lv_topi (fun y_17 ey_17 => ?_)
  have f_17_4 : iR y_17 0 65535 := iR_or 16 ey_17 f_8_2 f_16_3 (by decide +kernel)
  exact k_ri B hP hD hS dX7_twoBytes_18 () [0, 1] rfl rfl rfl (Nat.le_of_ble_eq_true rfl) (Nat.le_of_ble_eq_true rfl) ⟨(show iR y_17 0 65535 from f_17_4), (show y_17 = (w2b f0 0) from (by rw [ey_17, ey_8]; rfl))⟩
set_option maxHeartbeats 8000000 in
set_option maxRecDepth 100000 in
theorem s_X7_twoBytes_v1 (l : Launch) (dC : Nat → ClassId) (dI : Nat → Nat → Nat) (cI cJ cZ cM : ClassId) (h : Nat) (r : Nat → Nat) (i : Nat → Int32) (j : Nat → Int64) (f0 : Nat → Int32) (hI : mR i) (hf0 : aR f0 0 255) : k_Mi l yX7_twoBytes wsX7_twoBytes ({ frames := 1, cells := 0, slots := 0, locals := 40 }) (dC, dI) vwCl (tyy cI cJ cZ cM) [(h, .inr (7, oM r i j)), ((r 0), .inl (cI, 1800, .inl f0))] [.ref h, .int 2] 0 0 (fun (u9 : Unit) => [(h, .inr (7, oM r i j)), ((r 0), .inl (cI, 1800, .inl f0))]) (fun (r9 : Int32) (u9 : Unit) => (iR r9 0 65535) ∧ (r9 = (w2b f0 2))) := by
  refine fun sz => k_enter (cc := cX7_twoBytes) (maxL := 2) (ret := some (.int)) (Qc := fun A => va_Qi (fun (r9 : Int32) (u9 : Unit) => (iR r9 0 65535) ∧ (r9 = (w2b f0 2))) (fun u => k_B (dC, dI) vwCl (tyy cI cJ cZ cM) A ((fun (u9 : Unit) => [(h, .inr (7, oM r i j)), ((r 0), .inl (cI, 1800, .inl f0))]) u)) A) sz (by decide +kernel) rfl (Nat.le_of_ble_eq_true rfl) (fun p e s m args below meth c A ls H locs B hP hD hS hl => ?_)
  obtain ⟨hx, hb, hml, hown, hts, hr, hlk, hnm, hK, hA, hN, hC⟩ := id B
  have hown : s.vm.findClass RX7 = some m.cls := hown
  have hl : lv_has ls 2 [(0, .ref h), (1, .int 2)] := hl
  have w_0 : (Cond.fieldLink RX7 7 "WishSeaModel" "tape" "[I").before args s = true := hts _ (List.mem_of_getElem? (i := 1) rfl)
  have hinX7 : ∀ w ∈ u_ws RX7 TX7 92, w ∈ wsX7_twoBytes := fun _ h => List.mem_cons_of_mem _ (List.mem_append_right _ h)
  refine lv_aload_n hx hb dX7_twoBytes_0 rfl (lv_at hl 0 rfl) ?_
  refine k_get (D := (dC, dI)) (ci := 7) (v := .ref (r 0)) (C := RX7) (T := TX7) (N := 92) hx hb hts hinX7 hown hK hP 0 rfl rfl 0 (by decide) w_0 rfl rfl dX7_twoBytes_1 ?_
  refine lv_iload_n hx hb dX7_twoBytes_4 rfl (lv_at hl 1 rfl) ?_
  refine k_iald (v := (f0 2)) hx hb hK hP 1 0 2 rfl rfl rfl (Nat.le_of_ble_eq_true rfl) (Nat.le_of_ble_eq_true rfl) rfl dX7_twoBytes_5 ?_
  have f_5_1 : iR (f0 2) 0 255 := hf0 _
  refine lv_bipush (v := 8) hx hb dX7_twoBytes_6 (by decide +kernel) ?_
  refine lv_ishl hx hb dX7_twoBytes_8 ?_
  refine lv_topi (fun y_8 ey_8 => ?_)
  have f_8_2 : iR y_8 0 65280 := iR_shl 8 ey_8 f_5_1 (iR_c (n := 8) (a := 8) (b := 8) (by decide +kernel) (by decide +kernel)) (by decide +kernel)
  refine lv_aload_n hx hb dX7_twoBytes_9 rfl (lv_at hl 0 rfl) ?_
  refine k_get (D := (dC, dI)) (ci := 7) (v := .ref (r 0)) (C := RX7) (T := TX7) (N := 92) hx hb hts hinX7 hown hK hP 0 rfl rfl 0 (by decide) w_0 rfl rfl dX7_twoBytes_10 ?_
  refine lv_iload_n hx hb dX7_twoBytes_13 rfl (lv_at hl 1 rfl) ?_
  refine lv_iconst (v := 1) hx hb dX7_twoBytes_14 (by decide +kernel) ?_
  refine lv_iadd hx hb dX7_twoBytes_15 ?_
  refine k_int (v := 3) (by decide +kernel) ?_
  refine k_iald (v := (f0 3)) hx hb hK hP 1 0 3 rfl rfl rfl (Nat.le_of_ble_eq_true rfl) (Nat.le_of_ble_eq_true rfl) rfl dX7_twoBytes_16 ?_
  have f_16_3 : iR (f0 3) 0 255 := hf0 _
  refine lv_ior hx hb dX7_twoBytes_17 ?_
  refine lv_topi (fun y_17 ey_17 => ?_)
  have f_17_4 : iR y_17 0 65535 := iR_or 16 ey_17 f_8_2 f_16_3 (by decide +kernel)
  exact k_ri B hP hD hS dX7_twoBytes_18 () [0, 1] rfl rfl rfl (Nat.le_of_ble_eq_true rfl) (Nat.le_of_ble_eq_true rfl) ⟨(show iR y_17 0 65535 from f_17_4), (show y_17 = (w2b f0 2) from (by rw [ey_17, ey_8]; rfl))⟩
