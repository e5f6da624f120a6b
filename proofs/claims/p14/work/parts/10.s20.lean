set_option maxHeartbeats 8000000 in
set_option maxRecDepth 100000 in
theorem s_X7_value_v0 (l : Launch) (dC : Nat → ClassId) (dI : Nat → Nat → Nat) (cI cJ cZ cM : ClassId) (h : Nat) (r : Nat → Nat) (i : Nat → Int32) (j : Nat → Int64) (x1 : Int32) (g81 : Nat → Int64) (hI : mR i) : k_Ml l yX7_value wsX7_value ({ frames := 2, cells := 0, slots := 0, locals := 62 }) (dC, dI) vwCl (tyy cI cJ cZ cM) [(h, .inr (7, oM r i j)), ((r 81), .inl (cJ, 13, .inr (.inl g81)))] [.ref h, .int x1] 0 0 (fun (u9 : Unit) => [(h, .inr (7, oM r i j)), ((r 81), .inl (cJ, 13, .inr (.inl g81)))]) (fun (r9 : Int64) (u9 : Unit) => True) := by
  refine fun sz => k_enter (cc := cX7_value) (maxL := 2) (ret := some (.long)) (Qc := fun A => va_Ql (fun (r9 : Int64) (u9 : Unit) => True) (fun u => k_B (dC, dI) vwCl (tyy cI cJ cZ cM) A ((fun (u9 : Unit) => [(h, .inr (7, oM r i j)), ((r 81), .inl (cJ, 13, .inr (.inl g81)))]) u)) A) sz (by decide +kernel) rfl (Nat.le_of_ble_eq_true rfl) (fun p e s m args below meth c A ls H locs B hP hD hS hl => ?_)
  obtain ⟨hx, hb, hml, hown, hts, hr, hlk, hnm, hK, hA, hN, hC⟩ := id B
  have hown : s.vm.findClass RX7 = some m.cls := hown
  have hl : lv_has ls 2 [(0, .ref h), (1, .int x1)] := hl
  have w_0 : (Cond.fieldLink RX7 255 "WishSeaModel" "stopMany" "I").before args s = true := hts _ (List.mem_of_getElem? (i := 1) rfl)
  have w_1 : (Cond.constantLong RX7 629 (-1)).before args s = true := hts _ (List.mem_of_getElem? (i := 3) rfl)
  have w_2 : (Cond.fieldLink RX7 258 "WishSeaModel" "values" "[J").before args s = true := hts _ (List.mem_of_getElem? (i := 2) rfl)
  have hinX7 : ∀ w ∈ u_ws RX7 TX7 92, w ∈ wsX7_value := fun _ h => List.mem_cons_of_mem _ (List.mem_append_right _ h)
  refine lv_iload_n hx hb dX7_value_0 rfl (lv_at hl 1 rfl) ?_
  refine lv_iconst (v := 0) hx hb dX7_value_1 (by decide +kernel) ?_
  refine lv_aload_n hx hb dX7_value_2 rfl (lv_at hl 0 rfl) ?_
  have f_3_1 : iR (i 80) (-1) 12 := hI 80
  refine k_get (D := (dC, dI)) (ci := 7) (v := .int (i 80)) (C := RX7) (T := TX7) (N := 92) hx hb hts hinX7 hown hK hP 0 rfl rfl 80 (by decide) w_0 rfl rfl dX7_value_3 ?_
  refine k_ci (wc := []) (wr := [(h, .inr (7, oM r i j)), ((r 81), .inl (cJ, 13, .inr (.inl g81)))]) (fun hPc hDc hFc => va_runS (As := [.int x1, .int 0, .int (i 80)]) (rest := []) ⟨hx, hb, hml, hown, hts⟩ (s_X7_is_v0 l dC dI cI cJ cZ cM x1 0 (i 80) H.size) (va_cwS 3 hts gX7_value_X7_is rfl rfl rfl (by decide +kernel) ⟨(Nat.le_of_ble_eq_true rfl), (Nat.le_of_ble_eq_true rfl)⟩) (k_pS hPc hDc hK hN hC hS hFc) rfl rfl hl.1 rfl (lv_room (Nat.le_of_ble_eq_true rfl)) dX7_value_6 ⟨(Nat.le_of_ble_eq_true rfl), (Nat.le_of_ble_eq_true rfl)⟩) hP hD hS hA [] [0, 1] rfl rfl rfl rfl (by decide) (fun _ => rfl) 0 0 rfl rfl (fun r_6 u_6 H locs hw hP hD hS => ?_)
  obtain ⟨g_6_0, g_6_1⟩ := hw
  have hP : va_P (dC, dI) vwCl [(h, .inr (7, oM r i j)), ((r 81), .inl (cJ, 13, .inr (.inl g81)))] H := hP
  have hD : va_D A [(h, .inr (7, oM r i j)), ((r 81), .inl (cJ, 13, .inr (.inl g81)))] := hD
  have g_6_1 : (r_6 = 0) ∨ ((0 ≤ x1) ∧ (x1 ≤ (i 80))) := g_6_1
  refine lv_if_eq (tgt := 21) hx hb dX7_value_9 (by decide) (fun c_9 => ?_) (fun c_9 => ?_)
  · have c_9 : r_6 = 0 := c_9
    have f_21_2 : iR r_6 0 0 := iR_eqL c_9 g_6_0 (iR_c (n := 0) (a := 0) (b := 0) (by decide +kernel) (by decide +kernel)) (by decide +kernel)
    refine lv_ldc2 (v := (-1)) hx hb hown w_1 dX7_value_21 ?_
    exact k_rl B hP hD hS dX7_value_24 () [0, 1] rfl rfl (Nat.le_of_ble_eq_true rfl) (Nat.le_of_ble_eq_true rfl) trivial
  · have c_9 : ¬ r_6 = 0 := c_9
    have f_12_2 : iR r_6 1 1 := iR_neL c_9 g_6_0 (iR_c (n := 0) (a := 0) (b := 0) (by decide +kernel) (by decide +kernel)) (by decide +kernel)
    obtain ⟨d_9_1_0, d_9_1_1⟩ := g_6_1.resolve_left c_9
    have f_12_3 : iR x1 0 2147483647 := iR_leR d_9_1_0 (iR_c (n := 0) (a := 0) (b := 0) (by decide +kernel) (by decide +kernel)) (iR_top _) (by decide +kernel)
    have f_12_4 : iR x1 0 12 := iR_leL d_9_1_1 f_12_3 f_3_1 (by decide +kernel)
    have f_12_5 : iR (i 80) 0 12 := iR_leR d_9_1_1 f_12_3 f_3_1 (by decide +kernel)
    refine lv_aload_n hx hb dX7_value_12 rfl (lv_at hl 0 rfl) ?_
    refine k_get (D := (dC, dI)) (ci := 7) (v := .ref (r 81)) (C := RX7) (T := TX7) (N := 92) hx hb hts hinX7 hown hK hP 0 rfl rfl 81 (by decide) w_2 rfl rfl dX7_value_13 ?_
    refine lv_iload_n hx hb dX7_value_16 rfl (lv_at hl 1 rfl) ?_
    refine va_lald hx hb hK hP 1 1 rfl rfl (iR_vp f_12_4 (by decide +kernel)) dX7_value_17 ?_
    refine lv_goto (tgt := 24) hx hb dX7_value_18 (by decide) ?_
    exact k_rl B hP hD hS dX7_value_24 () [0, 1] rfl rfl (Nat.le_of_ble_eq_true rfl) (Nat.le_of_ble_eq_true rfl) trivial
set_option maxHeartbeats 8000000 in
set_option maxRecDepth 100000 in
theorem s_X7_bits_v0 (l : Launch) (dC : Nat → ClassId) (dI : Nat → Nat → Nat) (cI cJ cZ cM : ClassId) (x0 : Int32)  : k_Mi l yX7_bits wsX7_bits ({ frames := 1, cells := 0, slots := 0, locals := 40 }) (dC, dI) vwCl (tyy cI cJ cZ cM) [] [.int x0] 0 0 (fun (u9 : Unit) => []) (fun (r9 : Int32) (u9 : Unit) => True) := by
  refine fun sz => k_enter (cc := cX7_bits) (maxL := 3) (ret := some (.int)) (Qc := fun A => va_Qi (fun (r9 : Int32) (u9 : Unit) => True) (fun u => k_B (dC, dI) vwCl (tyy cI cJ cZ cM) A ((fun (u9 : Unit) => []) u)) A) sz (by decide +kernel) rfl (Nat.le_of_ble_eq_true rfl) (fun p e s m args below meth c A ls H locs B hP hD hS hl => ?_)
  obtain ⟨hx, hb, hml, hown, hts, hr, hlk, hnm, hK, hA, hN, hC⟩ := id B
  have hown : s.vm.findClass RX7 = some m.cls := hown
  have hl : lv_has ls 3 [(0, .int x0)] := hl
  refine lv_iconst (v := 0) hx hb dX7_bits_0 (by decide +kernel) ?_
  refine lv_istore_n (lv' := [(1, .int 0), (0, .int x0)]) hx hb dX7_bits_1 rfl hl (by decide) rfl (fun ls hl => ?_)
  refine lv_iload_n hx hb dX7_bits_2 rfl (lv_at hl 1 rfl) ?_
  have J_4 : ∀ (n_4 : Nat) (j4_L1 : Int32) (j4_L2 : Int32)  (hm_4 : j4_L2.toBitVec.toNat < n_4) (H : Heap) (locs : List Loc) (ls : Array Slot), va_P (dC, dI) vwCl [] H → va_D A [] → va_S A s.heap H locs → lv_has ls 3 [(1, .int j4_L1), (2, .int j4_L2)] → W p l e ({ frames := 1, cells := 0, slots := 0, locals := 40 }) s m args below meth c H locs 0 0 (MQ below (va_Qi (fun (r9 : Int32) (u9 : Unit) => True) (fun u => k_B (dC, dI) vwCl (tyy cI cJ cZ cM) A ((fun (u9 : Unit) => []) u)) A) args s 0 0 A) (F0 m 4 ls []) := by
    intro n_4
    induction n_4 with
    | zero => intro j4_L1 j4_L2  hm_4; exact absurd hm_4 (Nat.not_lt_zero _)
    | succ n_4 ih_4 =>
      intro j4_L1 j4_L2  hm_4 H locs ls hP hD hS hl
      refine lv_iload_n hx hb dX7_bits_4 rfl (lv_at hl 1 rfl) ?_
      refine lv_if_eq (tgt := 20) hx hb dX7_bits_5 (by decide) (fun c_5 => ?_) (fun c_5 => ?_)
      · have c_5 : j4_L2 = 0 := c_5
        have f_20_1 : iR j4_L2 0 0 := iR_eqL c_5 (iR_top _) (iR_c (n := 0) (a := 0) (b := 0) (by decide +kernel) (by decide +kernel)) (by decide +kernel)
        refine lv_iload_n hx hb dX7_bits_20 rfl (lv_at hl 0 rfl) ?_
        exact k_ri B hP hD hS dX7_bits_21 () [] rfl rfl rfl (Nat.le_of_ble_eq_true rfl) (Nat.le_of_ble_eq_true rfl) trivial
      · have c_5 : ¬ j4_L2 = 0 := c_5
        obtain ⟨y_8, ey_8⟩ : ∃ y : Int32, y = j4_L1 + 1 := ⟨_, rfl⟩
        refine lv_iinc (v := y_8) (lv' := [(1, .int y_8), (2, .int j4_L2)]) hx hb dX7_bits_8 hl (k := 0) rfl ey_8.symm (by decide) rfl (fun ls hl => ?_)
        refine lv_iload_n hx hb dX7_bits_11 rfl (lv_at hl 1 rfl) ?_
        refine lv_iload_n hx hb dX7_bits_12 rfl (lv_at hl 1 rfl) ?_
        refine lv_iconst (v := 1) hx hb dX7_bits_13 (by decide +kernel) ?_
        refine lv_isub hx hb dX7_bits_14 ?_
        refine lv_topi (fun y_14 ey_14 => ?_)
        refine lv_iand hx hb dX7_bits_15 ?_
        refine lv_topi (fun y_15 ey_15 => ?_)
        refine lv_istore_n (lv' := [(2, .int y_15), (1, .int y_8)]) hx hb dX7_bits_16 rfl hl (by decide) rfl (fun ls hl => ?_)
        refine lv_goto (tgt := 4) hx hb dX7_bits_17 (by decide) ?_
        exact ih_4 y_8 y_15  (m_bits hm_4 ey_14 ey_15 c_5) H locs ls hP hD hS (lv_sub hl [1, 0] rfl)
  refine lv_istore_n (lv' := [(2, .int x0), (1, .int 0), (0, .int x0)]) hx hb dX7_bits_3 rfl hl (by decide) rfl (fun ls hl => ?_)
  exact J_4 _ 0 x0  (Nat.lt_succ_self _) H locs ls hP hD hS (lv_sub hl [1, 0] rfl)
set_option maxHeartbeats 8000000 in
set_option maxRecDepth 100000 in
theorem s_X7_briefOnes_v3 (l : Launch) (dC : Nat → ClassId) (dI : Nat → Nat → Nat) (cI cJ cZ cM : ClassId) (h : Nat) (r : Nat → Nat) (i : Nat → Int32) (j : Nat → Int64) (f14 : Nat → Int32) (f17 : Nat → Int32) (hI : mR i) (hf14 : aR f14 0 10) (hf17 : aR f17 0 1) : k_Mi l yX7_briefOnes wsX7_briefOnes ({ frames := 1, cells := 0, slots := 0, locals := 40 }) (dC, dI) vwCl (tyy cI cJ cZ cM) [(h, .inr (7, oM r i j)), ((r 14), .inl (cI, 2, .inl f14)), ((r 17), .inl (cI, 20, .inl f17))] [.ref h] 0 0 (fun (u9 : Unit) => [(h, .inr (7, oM r i j)), ((r 14), .inl (cI, 2, .inl f14)), ((r 17), .inl (cI, 20, .inl f17))]) (fun (r9 : Int32) (u9 : Unit) => (iR r9 0 1023)) := by
  refine fun sz => k_enter (cc := cX7_briefOnes) (maxL := 3) (ret := some (.int)) (Qc := fun A => va_Qi (fun (r9 : Int32) (u9 : Unit) => (iR r9 0 1023)) (fun u => k_B (dC, dI) vwCl (tyy cI cJ cZ cM) A ((fun (u9 : Unit) => [(h, .inr (7, oM r i j)), ((r 14), .inl (cI, 2, .inl f14)), ((r 17), .inl (cI, 20, .inl f17))]) u)) A) sz (by decide +kernel) rfl (Nat.le_of_ble_eq_true rfl) (fun p e s m args below meth c A ls H locs B hP hD hS hl => ?_)
  obtain ⟨hx, hb, hml, hown, hts, hr, hlk, hnm, hK, hA, hN, hC⟩ := id B
  have hown : s.vm.findClass RX7 = some m.cls := hown
  have hl : lv_has ls 3 [(0, .ref h)] := hl
  have w_0 : (Cond.fieldLink RX7 54 "WishSeaModel" "things" "[I").before args s = true := hts _ (List.mem_of_getElem? (i := 1) rfl)
  have w_1 : (Cond.fieldLink RX7 51 "WishSeaModel" "bank" "I").before args s = true := hts _ (List.mem_of_getElem? (i := 2) rfl)
  have w_2 : (Cond.fieldLink RX7 63 "WishSeaModel" "thingBrief" "[I").before args s = true := hts _ (List.mem_of_getElem? (i := 3) rfl)
  have hinX7 : ∀ w ∈ u_ws RX7 TX7 92, w ∈ wsX7_briefOnes := fun _ h => List.mem_cons_of_mem _ (List.mem_append_right _ h)
  refine lv_iconst (v := 0) hx hb dX7_briefOnes_0 (by decide +kernel) ?_
  refine lv_istore_n (lv' := [(1, .int 0), (0, .ref h)]) hx hb dX7_briefOnes_1 rfl hl (by decide) rfl (fun ls hl => ?_)
  refine lv_iconst (v := 0) hx hb dX7_briefOnes_2 (by decide +kernel) ?_
  have J_4 : ∀ (n_4 : Nat) (j4_L1 : Int32) (j4_L2 : Int32) (hj4_L1 : iR j4_L1 0 1023) (hj4_L2 : iR j4_L2 0 10) (hm_4 : (10 - j4_L2.toInt).toNat < n_4) (H : Heap) (locs : List Loc) (ls : Array Slot), va_P (dC, dI) vwCl [(h, .inr (7, oM r i j)), ((r 14), .inl (cI, 2, .inl f14)), ((r 17), .inl (cI, 20, .inl f17))] H → va_D A [(h, .inr (7, oM r i j)), ((r 14), .inl (cI, 2, .inl f14)), ((r 17), .inl (cI, 20, .inl f17))] → va_S A s.heap H locs → lv_has ls 3 [(0, .ref h), (1, .int j4_L1), (2, .int j4_L2)] → W p l e ({ frames := 1, cells := 0, slots := 0, locals := 40 }) s m args below meth c H locs 0 0 (MQ below (va_Qi (fun (r9 : Int32) (u9 : Unit) => (iR r9 0 1023)) (fun u => k_B (dC, dI) vwCl (tyy cI cJ cZ cM) A ((fun (u9 : Unit) => [(h, .inr (7, oM r i j)), ((r 14), .inl (cI, 2, .inl f14)), ((r 17), .inl (cI, 20, .inl f17))]) u)) A) args s 0 0 A) (F0 m 4 ls []) := by
    intro n_4
    induction n_4 with
    | zero => intro j4_L1 j4_L2 hj4_L1 hj4_L2 hm_4; exact absurd hm_4 (Nat.not_lt_zero _)
    | succ n_4 ih_4 =>
      intro j4_L1 j4_L2 hj4_L1 hj4_L2 hm_4 H locs ls hP hD hS hl
      refine lv_iload_n hx hb dX7_briefOnes_4 rfl (lv_at hl 2 rfl) ?_
      refine lv_aload_n hx hb dX7_briefOnes_5 rfl (lv_at hl 0 rfl) ?_
      refine k_get (D := (dC, dI)) (ci := 7) (v := .ref (r 14)) (C := RX7) (T := TX7) (N := 92) hx hb hts hinX7 hown hK hP 0 rfl rfl 14 (by decide) w_0 rfl rfl dX7_briefOnes_6 ?_
      refine lv_aload_n hx hb dX7_briefOnes_9 rfl (lv_at hl 0 rfl) ?_
      have f_10_1 : iR (i 13) 0 1 := hI 13
      refine k_get (D := (dC, dI)) (ci := 7) (v := .int (i 13)) (C := RX7) (T := TX7) (N := 92) hx hb hts hinX7 hown hK hP 0 rfl rfl 13 (by decide) w_1 rfl rfl dX7_briefOnes_10 ?_
      refine va_iald hx hb hK hP 1 0 rfl rfl (iR_vp f_10_1 (by decide +kernel)) dX7_briefOnes_13 ?_
      have f_13_2 : iR (f14 (i 13).toNatClampNeg) 0 10 := hf14 _
      refine lv_icmp_ge (tgt := 42) hx hb dX7_briefOnes_14 (by decide) (fun c_14 => ?_) (fun c_14 => ?_)
      · have c_14 : (f14 (i 13).toNatClampNeg) ≤ j4_L2 := c_14
        refine lv_iload_n hx hb dX7_briefOnes_42 rfl (lv_at hl 1 rfl) ?_
        exact k_ri B hP hD hS dX7_briefOnes_43 () [0, 1, 2] rfl rfl rfl (Nat.le_of_ble_eq_true rfl) (Nat.le_of_ble_eq_true rfl) (show iR j4_L1 0 1023 from hj4_L1)
      · have c_14 : j4_L2 < (f14 (i 13).toNatClampNeg) := i_nle c_14
        have f_17_3 : iR j4_L2 0 9 := iR_ltL c_14 hj4_L2 f_13_2 (by decide +kernel)
        have f_17_4 : iR (f14 (i 13).toNatClampNeg) 1 10 := iR_ltR c_14 hj4_L2 f_13_2 (by decide +kernel)
        refine lv_iload_n hx hb dX7_briefOnes_17 rfl (lv_at hl 1 rfl) ?_
        refine lv_aload_n hx hb dX7_briefOnes_18 rfl (lv_at hl 0 rfl) ?_
        refine k_get (D := (dC, dI)) (ci := 7) (v := .ref (r 17)) (C := RX7) (T := TX7) (N := 92) hx hb hts hinX7 hown hK hP 0 rfl rfl 17 (by decide) w_2 rfl rfl dX7_briefOnes_19 ?_
        refine lv_bipush (v := 10) hx hb dX7_briefOnes_22 (by decide +kernel) ?_
        refine lv_aload_n hx hb dX7_briefOnes_24 rfl (lv_at hl 0 rfl) ?_
        refine k_get (D := (dC, dI)) (ci := 7) (v := .int (i 13)) (C := RX7) (T := TX7) (N := 92) hx hb hts hinX7 hown hK hP 0 rfl rfl 13 (by decide) w_1 rfl rfl dX7_briefOnes_25 ?_
        refine lv_imul hx hb dX7_briefOnes_28 ?_
        refine lv_topi (fun y_28 ey_28 => ?_)
        have f_28_5 : iR y_28 0 10 := iR_mul ey_28 (iR_c (n := 10) (a := 10) (b := 10) (by decide +kernel) (by decide +kernel)) f_10_1 (by decide +kernel)
        refine lv_iload_n hx hb dX7_briefOnes_29 rfl (lv_at hl 2 rfl) ?_
        refine lv_iadd hx hb dX7_briefOnes_30 ?_
        refine lv_topi (fun y_30 ey_30 => ?_)
        have f_30_6 : iR y_30 0 19 := iR_add ey_30 f_28_5 f_17_3 (by decide +kernel)
        refine va_iald hx hb hK hP 2 0 rfl rfl (iR_vp f_30_6 (by decide +kernel)) dX7_briefOnes_31 ?_
        have f_31_7 : iR (f17 y_30.toNatClampNeg) 0 1 := hf17 _
        refine lv_iload_n hx hb dX7_briefOnes_32 rfl (lv_at hl 2 rfl) ?_
        refine lv_ishl hx hb dX7_briefOnes_33 ?_
        refine lv_topi (fun y_33 ey_33 => ?_)
        have f_33_8 : iR y_33 0 512 := iR_shl 9 ey_33 f_31_7 f_17_3 (by decide +kernel)
        refine lv_ior hx hb dX7_briefOnes_34 ?_
        refine lv_topi (fun y_34 ey_34 => ?_)
        have f_34_9 : iR y_34 0 1023 := iR_or 10 ey_34 hj4_L1 f_33_8 (by decide +kernel)
        refine lv_istore_n (lv' := [(1, .int y_34), (0, .ref h), (2, .int j4_L2)]) hx hb dX7_briefOnes_35 rfl hl (by decide) rfl (fun ls hl => ?_)
        obtain ⟨y_36, ey_36⟩ : ∃ y : Int32, y = j4_L2 + 1 := ⟨_, rfl⟩
        refine lv_iinc (v := y_36) (lv' := [(2, .int y_36), (1, .int y_34), (0, .ref h)]) hx hb dX7_briefOnes_36 hl (k := 2) rfl ey_36.symm (by decide) rfl (fun ls hl => ?_)
        have f_36_10 : iR y_36 1 10 := iR_add ey_36 f_17_3 (iR_c (n := 1) (a := 1) (b := 1) (by decide +kernel) (by decide +kernel)) (by decide +kernel)
        refine lv_goto (tgt := 4) hx hb dX7_briefOnes_39 (by decide) ?_
        exact ih_4 y_34 y_36 f_34_9 (iR_w f_36_10 (by decide +kernel)) (m_up (B := 10) hm_4 ey_36 f_17_3 (by decide +kernel)) H locs ls hP hD hS (lv_sub hl [2, 1, 0] rfl)
  refine lv_istore_n (lv' := [(2, .int 0), (1, .int 0), (0, .ref h)]) hx hb dX7_briefOnes_3 rfl hl (by decide) rfl (fun ls hl => ?_)
  exact J_4 _ 0 0 (iR_c (n := 0) (a := 0) (b := 1023) (by decide +kernel) (by decide +kernel)) (iR_c (n := 0) (a := 0) (b := 10) (by decide +kernel) (by decide +kernel)) (Nat.lt_succ_self _) H locs ls hP hD hS (lv_sub hl [2, 1, 0] rfl)
set_option maxHeartbeats 8000000 in
set_option maxRecDepth 100000 in
theorem s_X7_before_v0 (l : Launch) (dC : Nat → ClassId) (dI : Nat → Nat → Nat) (cI cJ cZ cM : ClassId) (h : Nat) (r : Nat → Nat) (i : Nat → Int32) (j : Nat → Int64) (x1 : Int32) (f14 : Nat → Int32) (f17 : Nat → Int32) (f49 : Nat → Int32) (hI : mR i) (hf14 : aR f14 0 10) (hf17 : aR f17 0 1) (hf49 : aR f49 0 1023) : k_Mi l yX7_before wsX7_before ({ frames := 2, cells := 0, slots := 0, locals := 62 }) (dC, dI) vwCl (tyy cI cJ cZ cM) [(h, .inr (7, oM r i j)), ((r 14), .inl (cI, 2, .inl f14)), ((r 17), .inl (cI, 20, .inl f17)), ((r 49), .inl (cI, 22, .inl f49))] [.ref h, .int x1] 0 0 (fun (u9 : Unit) => [(h, .inr (7, oM r i j)), ((r 14), .inl (cI, 2, .inl f14)), ((r 17), .inl (cI, 20, .inl f17)), ((r 49), .inl (cI, 22, .inl f49))]) (fun (r9 : Int32) (u9 : Unit) => True) := by
  refine fun sz => k_enter (cc := cX7_before) (maxL := 3) (ret := some (.int)) (Qc := fun A => va_Qi (fun (r9 : Int32) (u9 : Unit) => True) (fun u => k_B (dC, dI) vwCl (tyy cI cJ cZ cM) A ((fun (u9 : Unit) => [(h, .inr (7, oM r i j)), ((r 14), .inl (cI, 2, .inl f14)), ((r 17), .inl (cI, 20, .inl f17)), ((r 49), .inl (cI, 22, .inl f49))]) u)) A) sz (by decide +kernel) rfl (Nat.le_of_ble_eq_true rfl) (fun p e s m args below meth c A ls H locs B hP hD hS hl => ?_)
  obtain ⟨hx, hb, hml, hown, hts, hr, hlk, hnm, hK, hA, hN, hC⟩ := id B
  have hown : s.vm.findClass RX7 = some m.cls := hown
  have hl : lv_has ls 3 [(0, .ref h), (1, .int x1)] := hl
  have w_0 : (Cond.fieldLink RX7 162 "WishSeaModel" "hadOf" "[I").before args s = true := hts _ (List.mem_of_getElem? (i := 1) rfl)
  have hinX7 : ∀ w ∈ u_ws RX7 TX7 92, w ∈ wsX7_before := fun _ h => List.mem_cons_of_mem _ (List.mem_append_right _ h)
  refine lv_iload_n hx hb dX7_before_0 rfl (lv_at hl 1 rfl) ?_
  refine lv_iconst (v := 0) hx hb dX7_before_1 (by decide +kernel) ?_
  refine lv_iconst (v := 2) hx hb dX7_before_2 (by decide +kernel) ?_
  refine k_ci (wc := []) (wr := [(h, .inr (7, oM r i j)), ((r 14), .inl (cI, 2, .inl f14)), ((r 17), .inl (cI, 20, .inl f17)), ((r 49), .inl (cI, 22, .inl f49))]) (fun hPc hDc hFc => va_runS (As := [.int x1, .int 0, .int 2]) (rest := []) ⟨hx, hb, hml, hown, hts⟩ (s_X7_is_v0 l dC dI cI cJ cZ cM x1 0 2 H.size) (va_cwS 3 hts gX7_before_X7_is rfl rfl rfl (by decide +kernel) ⟨(Nat.le_of_ble_eq_true rfl), (Nat.le_of_ble_eq_true rfl)⟩) (k_pS hPc hDc hK hN hC hS hFc) rfl rfl hl.1 rfl (lv_room (Nat.le_of_ble_eq_true rfl)) dX7_before_3 ⟨(Nat.le_of_ble_eq_true rfl), (Nat.le_of_ble_eq_true rfl)⟩) hP hD hS hA [] [0, 1, 2, 3] rfl rfl rfl rfl (by decide) (fun _ => rfl) 0 0 rfl rfl (fun r_3 u_3 H locs hw hP hD hS => ?_)
  obtain ⟨g_3_0, g_3_1⟩ := hw
  have hP : va_P (dC, dI) vwCl [(h, .inr (7, oM r i j)), ((r 14), .inl (cI, 2, .inl f14)), ((r 17), .inl (cI, 20, .inl f17)), ((r 49), .inl (cI, 22, .inl f49))] H := hP
  have hD : va_D A [(h, .inr (7, oM r i j)), ((r 14), .inl (cI, 2, .inl f14)), ((r 17), .inl (cI, 20, .inl f17)), ((r 49), .inl (cI, 22, .inl f49))] := hD
  have g_3_1 : (r_3 = 0) ∨ ((0 ≤ x1) ∧ (x1 ≤ 2)) := g_3_1
  refine lv_if_ne (tgt := 11) hx hb dX7_before_6 (by decide) (fun c_6 => ?_) (fun c_6 => ?_)
  · have c_6 : ¬ r_3 = 0 := c_6
    have f_11_1 : iR r_3 1 1 := iR_neL c_6 g_3_0 (iR_c (n := 0) (a := 0) (b := 0) (by decide +kernel) (by decide +kernel)) (by decide +kernel)
    obtain ⟨d_6_1_0, d_6_1_1⟩ := g_3_1.resolve_left c_6
    have f_11_2 : iR x1 0 2147483647 := iR_leR d_6_1_0 (iR_c (n := 0) (a := 0) (b := 0) (by decide +kernel) (by decide +kernel)) (iR_top _) (by decide +kernel)
    have f_11_3 : iR x1 0 2 := iR_leL d_6_1_1 f_11_2 (iR_c (n := 2) (a := 2) (b := 2) (by decide +kernel) (by decide +kernel)) (by decide +kernel)
    refine lv_aload_n hx hb dX7_before_11 rfl (lv_at hl 0 rfl) ?_
    refine k_ci (wc := [(h, .inr (7, oM r i j)), ((r 14), .inl (cI, 2, .inl f14)), ((r 17), .inl (cI, 20, .inl f17))]) (wr := [((r 49), .inl (cI, 22, .inl f49))]) (fun hPc hDc hFc => va_runV (As := []) (rest := []) ⟨hx, hb, hml, hown, hts⟩ (s_X7_briefOnes_v3 l dC dI cI cJ cZ cM h r i j f14 f17 hI hf14 hf17 H.size) (cwV 0 hts gX7_before_X7_briefOnes rfl rfl rfl (by decide +kernel) ⟨(Nat.le_of_ble_eq_true rfl), (Nat.le_of_ble_eq_true rfl)⟩) (k_pV hPc hDc hK hN hC hS hFc hP (q0 := 0) (ci := 7) rfl rfl) rfl rfl hl.1 rfl (lv_room (Nat.le_of_ble_eq_true rfl)) dX7_before_12 ⟨(Nat.le_of_ble_eq_true rfl), (Nat.le_of_ble_eq_true rfl)⟩) hP hD hS hA [0, 1, 2] [3] rfl rfl rfl rfl (by decide) (fun _ => rfl) 0 0 rfl rfl (fun r_12 u_12 H locs hw hP hD hS => ?_)
    have g_12_0 := hw
    have hP : va_P (dC, dI) vwCl [((r 49), .inl (cI, 22, .inl f49)), (h, .inr (7, oM r i j)), ((r 14), .inl (cI, 2, .inl f14)), ((r 17), .inl (cI, 20, .inl f17))] H := hP
    have hD : va_D A [((r 49), .inl (cI, 22, .inl f49)), (h, .inr (7, oM r i j)), ((r 14), .inl (cI, 2, .inl f14)), ((r 17), .inl (cI, 20, .inl f17))] := hD
    refine lv_istore_n (lv' := [(2, .int r_12), (0, .ref h), (1, .int x1)]) hx hb dX7_before_15 rfl hl (by decide) rfl (fun ls hl => ?_)
    refine lv_aload_n hx hb dX7_before_16 rfl (lv_at hl 1 rfl) ?_
    refine k_get (D := (dC, dI)) (ci := 7) (v := .ref (r 49)) (C := RX7) (T := TX7) (N := 92) hx hb hts hinX7 hown hK hP 1 rfl rfl 49 (by decide) w_0 rfl rfl dX7_before_17 ?_
    refine lv_iconst (v := 0) hx hb dX7_before_20 (by decide +kernel) ?_
    refine k_iald (v := (f49 0)) hx hb hK hP 0 0 0 rfl rfl rfl (Nat.le_of_ble_eq_true rfl) (Nat.le_of_ble_eq_true rfl) rfl dX7_before_21 ?_
    have f_21_4 : iR (f49 0) 0 1023 := hf49 _
    refine lv_iload_n hx hb dX7_before_22 rfl (lv_at hl 0 rfl) ?_
    refine lv_iand hx hb dX7_before_23 ?_
    refine lv_topi (fun y_23 ey_23 => ?_)
    have f_23_5 : iR y_23 0 1023 := iR_andR ey_23 g_12_0 (by decide +kernel)
    refine lv_if_eq (tgt := 37) hx hb dX7_before_24 (by decide) (fun c_24 => ?_) (fun c_24 => ?_)
    · have c_24 : y_23 = 0 := c_24
      have f_37_6 : iR y_23 0 0 := iR_eqL c_24 f_23_5 (iR_c (n := 0) (a := 0) (b := 0) (by decide +kernel) (by decide +kernel)) (by decide +kernel)
      refine lv_iload_n hx hb dX7_before_37 rfl (lv_at hl 2 rfl) ?_
      refine lv_if_ne (tgt := 50) hx hb dX7_before_38 (by decide) (fun c_38 => ?_) (fun c_38 => ?_)
      · have c_38 : ¬ x1 = 0 := c_38
        have f_50_7 : iR x1 1 2 := iR_ltR (i_ltne d_6_1_0 (fun q => c_38 q.symm)) (iR_c (n := 0) (a := 0) (b := 0) (by decide +kernel) (by decide +kernel)) f_11_3 (by decide +kernel)
        refine lv_iload_n hx hb dX7_before_50 rfl (lv_at hl 2 rfl) ?_
        refine lv_iconst (v := 1) hx hb dX7_before_51 (by decide +kernel) ?_
        refine lv_icmp_ne (tgt := 64) hx hb dX7_before_52 (by decide) (fun c_52 => ?_) (fun c_52 => ?_)
        · have c_52 : ¬ x1 = 1 := c_52
          have f_64_8 : iR x1 2 2 := iR_neL c_52 f_50_7 (iR_c (n := 1) (a := 1) (b := 1) (by decide +kernel) (by decide +kernel)) (by decide +kernel)
          refine lv_aload_n hx hb dX7_before_64 rfl (lv_at hl 1 rfl) ?_
          refine k_get (D := (dC, dI)) (ci := 7) (v := .ref (r 49)) (C := RX7) (T := TX7) (N := 92) hx hb hts hinX7 hown hK hP 1 rfl rfl 49 (by decide) w_0 rfl rfl dX7_before_65 ?_
          refine lv_iconst (v := 0) hx hb dX7_before_68 (by decide +kernel) ?_
          refine k_iald (v := (f49 0)) hx hb hK hP 0 0 0 rfl rfl rfl (Nat.le_of_ble_eq_true rfl) (Nat.le_of_ble_eq_true rfl) rfl dX7_before_69 ?_
          refine lv_iload_n hx hb dX7_before_70 rfl (lv_at hl 0 rfl) ?_
          refine lv_ior hx hb dX7_before_71 ?_
          refine lv_topi (fun y_71 ey_71 => ?_)
          have f_71_9 : iR y_71 0 1023 := iR_or 10 ey_71 f_21_4 g_12_0 (by decide +kernel)
          exact k_ri B hP hD hS dX7_before_72 () [1, 2, 3, 0] rfl rfl rfl (Nat.le_of_ble_eq_true rfl) (Nat.le_of_ble_eq_true rfl) trivial
        · have c_52 : x1 = 1 := c_52
          have f_55_8 : iR x1 1 1 := iR_eqL c_52 f_50_7 (iR_c (n := 1) (a := 1) (b := 1) (by decide +kernel) (by decide +kernel)) (by decide +kernel)
          refine lv_aload_n hx hb dX7_before_55 rfl (lv_at hl 1 rfl) ?_
          refine k_get (D := (dC, dI)) (ci := 7) (v := .ref (r 49)) (C := RX7) (T := TX7) (N := 92) hx hb hts hinX7 hown hK hP 1 rfl rfl 49 (by decide) w_0 rfl rfl dX7_before_56 ?_
          refine lv_iconst (v := 0) hx hb dX7_before_59 (by decide +kernel) ?_
          refine k_iald (v := (f49 0)) hx hb hK hP 0 0 0 rfl rfl rfl (Nat.le_of_ble_eq_true rfl) (Nat.le_of_ble_eq_true rfl) rfl dX7_before_60 ?_
          refine lv_goto (tgt := 72) hx hb dX7_before_61 (by decide) ?_
          exact k_ri B hP hD hS dX7_before_72 () [1, 2, 3, 0] rfl rfl rfl (Nat.le_of_ble_eq_true rfl) (Nat.le_of_ble_eq_true rfl) trivial
      · have c_38 : x1 = 0 := c_38
        have f_41_7 : iR x1 0 0 := iR_eqL c_38 f_11_3 (iR_c (n := 0) (a := 0) (b := 0) (by decide +kernel) (by decide +kernel)) (by decide +kernel)
        refine lv_iconst (v := 1) hx hb dX7_before_41 (by decide +kernel) ?_
        refine lv_iload_n hx hb dX7_before_42 rfl (lv_at hl 0 rfl) ?_
        refine k_ci (wc := []) (wr := [((r 49), .inl (cI, 22, .inl f49)), (h, .inr (7, oM r i j)), ((r 14), .inl (cI, 2, .inl f14)), ((r 17), .inl (cI, 20, .inl f17))]) (fun hPc hDc hFc => va_runS (As := [.int r_12]) (rest := [.int 1]) ⟨hx, hb, hml, hown, hts⟩ (s_X7_bits_v0 l dC dI cI cJ cZ cM r_12 H.size) (va_cwS 1 hts gX7_before_X7_bits rfl rfl rfl (by decide +kernel) ⟨(Nat.le_of_ble_eq_true rfl), (Nat.le_of_ble_eq_true rfl)⟩) (k_pS hPc hDc hK hN hC hS hFc) rfl rfl hl.1 rfl (lv_room (Nat.le_of_ble_eq_true rfl)) dX7_before_43 ⟨(Nat.le_of_ble_eq_true rfl), (Nat.le_of_ble_eq_true rfl)⟩) hP hD hS hA [] [0, 1, 2, 3] rfl rfl rfl rfl (by decide) (fun _ => rfl) 0 0 rfl rfl (fun r_43 u_43 H locs hw hP hD hS => ?_)
        have hP : va_P (dC, dI) vwCl [((r 49), .inl (cI, 22, .inl f49)), (h, .inr (7, oM r i j)), ((r 14), .inl (cI, 2, .inl f14)), ((r 17), .inl (cI, 20, .inl f17))] H := hP
        have hD : va_D A [((r 49), .inl (cI, 22, .inl f49)), (h, .inr (7, oM r i j)), ((r 14), .inl (cI, 2, .inl f14)), ((r 17), .inl (cI, 20, .inl f17))] := hD
        refine lv_ishl hx hb dX7_before_46 ?_
        refine lv_topi (fun y_46 ey_46 => ?_)
        refine lv_goto (tgt := 72) hx hb dX7_before_47 (by decide) ?_
        exact k_ri B hP hD hS dX7_before_72 () [1, 2, 3, 0] rfl rfl rfl (Nat.le_of_ble_eq_true rfl) (Nat.le_of_ble_eq_true rfl) trivial
    · have c_24 : ¬ y_23 = 0 := c_24
      have f_27_6 : iR y_23 1 1023 := iR_neL c_24 f_23_5 (iR_c (n := 0) (a := 0) (b := 0) (by decide +kernel) (by decide +kernel)) (by decide +kernel)
      refine lv_iload_n hx hb dX7_before_27 rfl (lv_at hl 2 rfl) ?_
      refine lv_if_ne (tgt := 35) hx hb dX7_before_28 (by decide) (fun c_28 => ?_) (fun c_28 => ?_)
      · have c_28 : ¬ x1 = 0 := c_28
        have f_35_7 : iR x1 1 2 := iR_ltR (i_ltne d_6_1_0 (fun q => c_28 q.symm)) (iR_c (n := 0) (a := 0) (b := 0) (by decide +kernel) (by decide +kernel)) f_11_3 (by decide +kernel)
        refine lv_iconst (v := (-1)) hx hb dX7_before_35 (by decide +kernel) ?_
        exact k_ri B hP hD hS dX7_before_36 () [1, 2, 3, 0] rfl rfl rfl (Nat.le_of_ble_eq_true rfl) (Nat.le_of_ble_eq_true rfl) trivial
      · have c_28 : x1 = 0 := c_28
        have f_31_7 : iR x1 0 0 := iR_eqL c_28 f_11_3 (iR_c (n := 0) (a := 0) (b := 0) (by decide +kernel) (by decide +kernel)) (by decide +kernel)
        refine lv_iconst (v := 0) hx hb dX7_before_31 (by decide +kernel) ?_
        refine lv_goto (tgt := 36) hx hb dX7_before_32 (by decide) ?_
        exact k_ri B hP hD hS dX7_before_36 () [1, 2, 3, 0] rfl rfl rfl (Nat.le_of_ble_eq_true rfl) (Nat.le_of_ble_eq_true rfl) trivial
  · have c_6 : r_3 = 0 := c_6
    have f_9_1 : iR r_3 0 0 := iR_eqL c_6 g_3_0 (iR_c (n := 0) (a := 0) (b := 0) (by decide +kernel) (by decide +kernel)) (by decide +kernel)
    refine lv_iconst (v := (-1)) hx hb dX7_before_9 (by decide +kernel) ?_
    exact k_ri B hP hD hS dX7_before_10 () [0, 1, 2, 3] rfl rfl rfl (Nat.le_of_ble_eq_true rfl) (Nat.le_of_ble_eq_true rfl) trivial
set_option maxHeartbeats 8000000 in
set_option maxRecDepth 100000 in
theorem s_X7_writes_v0 (l : Launch) (dC : Nat → ClassId) (dI : Nat → Nat → Nat) (cI cJ cZ cM : ClassId) (h : Nat) (r : Nat → Nat) (i : Nat → Int32) (j : Nat → Int64) (x1 : Int32) (f90 : Nat → Int32) (hm91 : iR (i 91) 0 0) (hI : mR i) : k_Mv l yX7_writes wsX7_writes ({ frames := 1, cells := 0, slots := 0, locals := 40 }) (dC, dI) vwCl (tyy cI cJ cZ cM) [(h, .inr (7, oM r i j)), ((r 90), .inl (cI, 12, .inl f90))] [.ref h, .int x1] 0 0 (fun (u9 : SU) => [(h, .inr (7, oM r (upd i 91 (u9.1 0)) j)), ((r 90), .inl (cI, 12, .inl (u9.2.2.1 0)))]) (fun (u9 : SU) => (iR (u9.1 0) 1 1)) := by
  refine fun sz => k_enter (cc := cX7_writes) (maxL := 2) (ret := none) (Qc := fun A => va_Qv (fun (u9 : SU) => (iR (u9.1 0) 1 1)) (fun u => k_B (dC, dI) vwCl (tyy cI cJ cZ cM) A ((fun (u9 : SU) => [(h, .inr (7, oM r (upd i 91 (u9.1 0)) j)), ((r 90), .inl (cI, 12, .inl (u9.2.2.1 0)))]) u)) A) sz (by decide +kernel) rfl (Nat.le_of_ble_eq_true rfl) (fun p e s m args below meth c A ls H locs B hP hD hS hl => ?_)
  obtain ⟨hx, hb, hml, hown, hts, hr, hlk, hnm, hK, hA, hN, hC⟩ := id B
  have hown : s.vm.findClass RX7 = some m.cls := hown
  have hl : lv_has ls 2 [(0, .ref h), (1, .int x1)] := hl
  have w_0 : (Cond.fieldLink RX7 285 "WishSeaModel" "out" "[I").before args s = true := hts _ (List.mem_of_getElem? (i := 1) rfl)
  have w_1 : (Cond.fieldLink RX7 288 "WishSeaModel" "outs" "I").before args s = true := hts _ (List.mem_of_getElem? (i := 2) rfl)
  have hinX7 : ∀ w ∈ u_ws RX7 TX7 92, w ∈ wsX7_writes := fun _ h => List.mem_cons_of_mem _ (List.mem_append_right _ h)
  refine lv_aload_n hx hb dX7_writes_0 rfl (lv_at hl 0 rfl) ?_
  refine k_get (D := (dC, dI)) (ci := 7) (v := .ref (r 90)) (C := RX7) (T := TX7) (N := 92) hx hb hts hinX7 hown hK hP 0 rfl rfl 90 (by decide) w_0 rfl rfl dX7_writes_1 ?_
  refine lv_aload_n hx hb dX7_writes_4 rfl (lv_at hl 0 rfl) ?_
  refine k_get (D := (dC, dI)) (ci := 7) (v := .int (i 91)) (C := RX7) (T := TX7) (N := 92) hx hb hts hinX7 hown hK hP 0 rfl rfl 91 (by decide) w_1 rfl rfl dX7_writes_5 ?_
  refine lv_iload_n hx hb dX7_writes_8 rfl (lv_at hl 1 rfl) ?_
  refine lv_sipush (v := 255) hx hb dX7_writes_9 (by decide +kernel) ?_
  refine lv_iand hx hb dX7_writes_12 ?_
  refine lv_topi (fun y_12 ey_12 => ?_)
  have f_12_1 : iR y_12 0 255 := iR_andR ey_12 (iR_c (n := 255) (a := 255) (b := 255) (by decide +kernel) (by decide +kernel)) (by decide +kernel)
  refine s_iast (g := (upd f90 (i 91).toNatClampNeg y_12)) (ws' := [(h, .inr (7, oM r i j)), ((r 90), .inl (cI, 12, .inl (upd f90 (i 91).toNatClampNeg y_12)))]) hx hb hK hP hD hS 1 0 rfl rfl (iR_vp hm91 (by decide +kernel)) rfl rfl dX7_writes_13 (fun H locs hP hD hS => ?_)
  refine lv_aload_n hx hb dX7_writes_14 rfl (lv_at hl 0 rfl) ?_
  refine lv_dup hx hb dX7_writes_15 rfl ?_
  refine k_get (D := (dC, dI)) (ci := 7) (v := .int (i 91)) (C := RX7) (T := TX7) (N := 92) hx hb hts hinX7 hown hK hP 0 rfl rfl 91 (by decide) w_1 rfl rfl dX7_writes_16 ?_
  refine lv_iconst (v := 1) hx hb dX7_writes_19 (by decide +kernel) ?_
  refine lv_iadd hx hb dX7_writes_20 ?_
  refine lv_topi (fun y_20 ey_20 => ?_)
  have f_20_2 : iR y_20 1 1 := iR_add ey_20 hm91 (iR_c (n := 1) (a := 1) (b := 1) (by decide +kernel) (by decide +kernel)) (by decide +kernel)
  refine k_put (D := (dC, dI)) (ci := 7) (v := .int y_20) (C := RX7) (T := TX7) (N := 92) (ws' := [(h, .inr (7, oM r (upd i 91 y_20) j)), ((r 90), .inl (cI, 12, .inl (upd f90 (i 91).toNatClampNeg y_12)))]) hx hb hts hinX7 tyX7 tyX7_ok nmX7 hown hK hP hD hS 0 rfl rfl 91 (by decide) w_1 rfl rfl rfl rfl (Nat.le_of_ble_eq_true rfl) rfl dX7_writes_21 (fun H locs hP hD hS => ?_)
  exact k_rv B hP hD hS dX7_writes_24 ((fun k9 => match k9 with | 0 => y_20 | _ => 0), (fun _ => 0), (fun k9 => match k9 with | 0 => (upd f90 (i 91).toNatClampNeg y_12) | _ => (fun _ => 0)), (fun _ => (fun _ => 0)), (fun _ => 0)) [0, 1] rfl rfl (Nat.le_of_ble_eq_true rfl) (Nat.le_of_ble_eq_true rfl) (show iR y_20 1 1 from f_20_2)
set_option maxHeartbeats 8000000 in
set_option maxRecDepth 100000 in
theorem s_X7_writes_v1 (l : Launch) (dC : Nat → ClassId) (dI : Nat → Nat → Nat) (cI cJ cZ cM : ClassId) (h : Nat) (r : Nat → Nat) (i : Nat → Int32) (j : Nat → Int64) (x1 : Int32) (f90 : Nat → Int32) (hm91 : iR (i 91) 1 1) (hI : mR i) : k_Mv l yX7_writes wsX7_writes ({ frames := 1, cells := 0, slots := 0, locals := 40 }) (dC, dI) vwCl (tyy cI cJ cZ cM) [(h, .inr (7, oM r i j)), ((r 90), .inl (cI, 12, .inl f90))] [.ref h, .int x1] 0 0 (fun (u9 : SU) => [(h, .inr (7, oM r (upd i 91 (u9.1 0)) j)), ((r 90), .inl (cI, 12, .inl (u9.2.2.1 0)))]) (fun (u9 : SU) => (iR (u9.1 0) 2 2)) := by
  refine fun sz => k_enter (cc := cX7_writes) (maxL := 2) (ret := none) (Qc := fun A => va_Qv (fun (u9 : SU) => (iR (u9.1 0) 2 2)) (fun u => k_B (dC, dI) vwCl (tyy cI cJ cZ cM) A ((fun (u9 : SU) => [(h, .inr (7, oM r (upd i 91 (u9.1 0)) j)), ((r 90), .inl (cI, 12, .inl (u9.2.2.1 0)))]) u)) A) sz (by decide +kernel) rfl (Nat.le_of_ble_eq_true rfl) (fun p e s m args below meth c A ls H locs B hP hD hS hl => ?_)
  obtain ⟨hx, hb, hml, hown, hts, hr, hlk, hnm, hK, hA, hN, hC⟩ := id B
  have hown : s.vm.findClass RX7 = some m.cls := hown
  have hl : lv_has ls 2 [(0, .ref h), (1, .int x1)] := hl
  have w_0 : (Cond.fieldLink RX7 285 "WishSeaModel" "out" "[I").before args s = true := hts _ (List.mem_of_getElem? (i := 1) rfl)
  have w_1 : (Cond.fieldLink RX7 288 "WishSeaModel" "outs" "I").before args s = true := hts _ (List.mem_of_getElem? (i := 2) rfl)
  have hinX7 : ∀ w ∈ u_ws RX7 TX7 92, w ∈ wsX7_writes := fun _ h => List.mem_cons_of_mem _ (List.mem_append_right _ h)
  refine lv_aload_n hx hb dX7_writes_0 rfl (lv_at hl 0 rfl) ?_
  refine k_get (D := (dC, dI)) (ci := 7) (v := .ref (r 90)) (C := RX7) (T := TX7) (N := 92) hx hb hts hinX7 hown hK hP 0 rfl rfl 90 (by decide) w_0 rfl rfl dX7_writes_1 ?_
  refine lv_aload_n hx hb dX7_writes_4 rfl (lv_at hl 0 rfl) ?_
  refine k_get (D := (dC, dI)) (ci := 7) (v := .int (i 91)) (C := RX7) (T := TX7) (N := 92) hx hb hts hinX7 hown hK hP 0 rfl rfl 91 (by decide) w_1 rfl rfl dX7_writes_5 ?_
  refine lv_iload_n hx hb dX7_writes_8 rfl (lv_at hl 1 rfl) ?_
  refine lv_sipush (v := 255) hx hb dX7_writes_9 (by decide +kernel) ?_
  refine lv_iand hx hb dX7_writes_12 ?_
  refine lv_topi (fun y_12 ey_12 => ?_)
  have f_12_1 : iR y_12 0 255 := iR_andR ey_12 (iR_c (n := 255) (a := 255) (b := 255) (by decide +kernel) (by decide +kernel)) (by decide +kernel)
  refine s_iast (g := (upd f90 (i 91).toNatClampNeg y_12)) (ws' := [(h, .inr (7, oM r i j)), ((r 90), .inl (cI, 12, .inl (upd f90 (i 91).toNatClampNeg y_12)))]) hx hb hK hP hD hS 1 0 rfl rfl (iR_vp hm91 (by decide +kernel)) rfl rfl dX7_writes_13 (fun H locs hP hD hS => ?_)
  refine lv_aload_n hx hb dX7_writes_14 rfl (lv_at hl 0 rfl) ?_
  refine lv_dup hx hb dX7_writes_15 rfl ?_
  refine k_get (D := (dC, dI)) (ci := 7) (v := .int (i 91)) (C := RX7) (T := TX7) (N := 92) hx hb hts hinX7 hown hK hP 0 rfl rfl 91 (by decide) w_1 rfl rfl dX7_writes_16 ?_
  refine lv_iconst (v := 1) hx hb dX7_writes_19 (by decide +kernel) ?_
  refine lv_iadd hx hb dX7_writes_20 ?_
  refine lv_topi (fun y_20 ey_20 => ?_)
  have f_20_2 : iR y_20 2 2 := iR_add ey_20 hm91 (iR_c (n := 1) (a := 1) (b := 1) (by decide +kernel) (by decide +kernel)) (by decide +kernel)
  refine k_put (D := (dC, dI)) (ci := 7) (v := .int y_20) (C := RX7) (T := TX7) (N := 92) (ws' := [(h, .inr (7, oM r (upd i 91 y_20) j)), ((r 90), .inl (cI, 12, .inl (upd f90 (i 91).toNatClampNeg y_12)))]) hx hb hts hinX7 tyX7 tyX7_ok nmX7 hown hK hP hD hS 0 rfl rfl 91 (by decide) w_1 rfl rfl rfl rfl (Nat.le_of_ble_eq_true rfl) rfl dX7_writes_21 (fun H locs hP hD hS => ?_)
  exact k_rv B hP hD hS dX7_writes_24 ((fun k9 => match k9 with | 0 => y_20 | _ => 0), (fun _ => 0), (fun k9 => match k9 with | 0 => (upd f90 (i 91).toNatClampNeg y_12) | _ => (fun _ => 0)), (fun _ => (fun _ => 0)), (fun _ => 0)) [0, 1] rfl rfl (Nat.le_of_ble_eq_true rfl) (Nat.le_of_ble_eq_true rfl) (show iR y_20 2 2 from f_20_2)
set_option maxHeartbeats 8000000 in
set_option maxRecDepth 100000 in
theorem s_X7_writes_v2 (l : Launch) (dC : Nat → ClassId) (dI : Nat → Nat → Nat) (cI cJ cZ cM : ClassId) (h : Nat) (r : Nat → Nat) (i : Nat → Int32) (j : Nat → Int64) (x1 : Int32) (f90 : Nat → Int32) (hm91 : iR (i 91) 2 2) (hI : mR i) : k_Mv l yX7_writes wsX7_writes ({ frames := 1, cells := 0, slots := 0, locals := 40 }) (dC, dI) vwCl (tyy cI cJ cZ cM) [(h, .inr (7, oM r i j)), ((r 90), .inl (cI, 12, .inl f90))] [.ref h, .int x1] 0 0 (fun (u9 : SU) => [(h, .inr (7, oM r (upd i 91 (u9.1 0)) j)), ((r 90), .inl (cI, 12, .inl (u9.2.2.1 0)))]) (fun (u9 : SU) => (iR (u9.1 0) 3 3)) := by
  refine fun sz => k_enter (cc := cX7_writes) (maxL := 2) (ret := none) (Qc := fun A => va_Qv (fun (u9 : SU) => (iR (u9.1 0) 3 3)) (fun u => k_B (dC, dI) vwCl (tyy cI cJ cZ cM) A ((fun (u9 : SU) => [(h, .inr (7, oM r (upd i 91 (u9.1 0)) j)), ((r 90), .inl (cI, 12, .inl (u9.2.2.1 0)))]) u)) A) sz (by decide +kernel) rfl (Nat.le_of_ble_eq_true rfl) (fun p e s m args below meth c A ls H locs B hP hD hS hl => ?_)
  obtain ⟨hx, hb, hml, hown, hts, hr, hlk, hnm, hK, hA, hN, hC⟩ := id B
  have hown : s.vm.findClass RX7 = some m.cls := hown
  have hl : lv_has ls 2 [(0, .ref h), (1, .int x1)] := hl
  have w_0 : (Cond.fieldLink RX7 285 "WishSeaModel" "out" "[I").before args s = true := hts _ (List.mem_of_getElem? (i := 1) rfl)
  have w_1 : (Cond.fieldLink RX7 288 "WishSeaModel" "outs" "I").before args s = true := hts _ (List.mem_of_getElem? (i := 2) rfl)
  have hinX7 : ∀ w ∈ u_ws RX7 TX7 92, w ∈ wsX7_writes := fun _ h => List.mem_cons_of_mem _ (List.mem_append_right _ h)
  refine lv_aload_n hx hb dX7_writes_0 rfl (lv_at hl 0 rfl) ?_
  refine k_get (D := (dC, dI)) (ci := 7) (v := .ref (r 90)) (C := RX7) (T := TX7) (N := 92) hx hb hts hinX7 hown hK hP 0 rfl rfl 90 (by decide) w_0 rfl rfl dX7_writes_1 ?_
  refine lv_aload_n hx hb dX7_writes_4 rfl (lv_at hl 0 rfl) ?_
  refine k_get (D := (dC, dI)) (ci := 7) (v := .int (i 91)) (C := RX7) (T := TX7) (N := 92) hx hb hts hinX7 hown hK hP 0 rfl rfl 91 (by decide) w_1 rfl rfl dX7_writes_5 ?_
  refine lv_iload_n hx hb dX7_writes_8 rfl (lv_at hl 1 rfl) ?_
  refine lv_sipush (v := 255) hx hb dX7_writes_9 (by decide +kernel) ?_
  refine lv_iand hx hb dX7_writes_12 ?_
  refine lv_topi (fun y_12 ey_12 => ?_)
  have f_12_1 : iR y_12 0 255 := iR_andR ey_12 (iR_c (n := 255) (a := 255) (b := 255) (by decide +kernel) (by decide +kernel)) (by decide +kernel)
  refine s_iast (g := (upd f90 (i 91).toNatClampNeg y_12)) (ws' := [(h, .inr (7, oM r i j)), ((r 90), .inl (cI, 12, .inl (upd f90 (i 91).toNatClampNeg y_12)))]) hx hb hK hP hD hS 1 0 rfl rfl (iR_vp hm91 (by decide +kernel)) rfl rfl dX7_writes_13 (fun H locs hP hD hS => ?_)
  refine lv_aload_n hx hb dX7_writes_14 rfl (lv_at hl 0 rfl) ?_
  refine lv_dup hx hb dX7_writes_15 rfl ?_
  refine k_get (D := (dC, dI)) (ci := 7) (v := .int (i 91)) (C := RX7) (T := TX7) (N := 92) hx hb hts hinX7 hown hK hP 0 rfl rfl 91 (by decide) w_1 rfl rfl dX7_writes_16 ?_
  refine lv_iconst (v := 1) hx hb dX7_writes_19 (by decide +kernel) ?_
  refine lv_iadd hx hb dX7_writes_20 ?_
  refine lv_topi (fun y_20 ey_20 => ?_)
  have f_20_2 : iR y_20 3 3 := iR_add ey_20 hm91 (iR_c (n := 1) (a := 1) (b := 1) (by decide +kernel) (by decide +kernel)) (by decide +kernel)
  refine k_put (D := (dC, dI)) (ci := 7) (v := .int y_20) (C := RX7) (T := TX7) (N := 92) (ws' := [(h, .inr (7, oM r (upd i 91 y_20) j)), ((r 90), .inl (cI, 12, .inl (upd f90 (i 91).toNatClampNeg y_12)))]) hx hb hts hinX7 tyX7 tyX7_ok nmX7 hown hK hP hD hS 0 rfl rfl 91 (by decide) w_1 rfl rfl rfl rfl (Nat.le_of_ble_eq_true rfl) rfl dX7_writes_21 (fun H locs hP hD hS => ?_)
  exact k_rv B hP hD hS dX7_writes_24 ((fun k9 => match k9 with | 0 => y_20 | _ => 0), (fun _ => 0), (fun k9 => match k9 with | 0 => (upd f90 (i 91).toNatClampNeg y_12) | _ => (fun _ => 0)), (fun _ => (fun _ => 0)), (fun _ => 0)) [0, 1] rfl rfl (Nat.le_of_ble_eq_true rfl) (Nat.le_of_ble_eq_true rfl) (show iR y_20 3 3 from f_20_2)
set_option maxHeartbeats 8000000 in
set_option maxRecDepth 100000 in
theorem s_X7_writes_v3 (l : Launch) (dC : Nat → ClassId) (dI : Nat → Nat → Nat) (cI cJ cZ cM : ClassId) (h : Nat) (r : Nat → Nat) (i : Nat → Int32) (j : Nat → Int64) (x1 : Int32) (f90 : Nat → Int32) (hm91 : iR (i 91) 3 3) (hI : mR i) : k_Mv l yX7_writes wsX7_writes ({ frames := 1, cells := 0, slots := 0, locals := 40 }) (dC, dI) vwCl (tyy cI cJ cZ cM) [(h, .inr (7, oM r i j)), ((r 90), .inl (cI, 12, .inl f90))] [.ref h, .int x1] 0 0 (fun (u9 : SU) => [(h, .inr (7, oM r (upd i 91 (u9.1 0)) j)), ((r 90), .inl (cI, 12, .inl (u9.2.2.1 0)))]) (fun (u9 : SU) => (iR (u9.1 0) 4 4)) := by
  refine fun sz => k_enter (cc := cX7_writes) (maxL := 2) (ret := none) (Qc := fun A => va_Qv (fun (u9 : SU) => (iR (u9.1 0) 4 4)) (fun u => k_B (dC, dI) vwCl (tyy cI cJ cZ cM) A ((fun (u9 : SU) => [(h, .inr (7, oM r (upd i 91 (u9.1 0)) j)), ((r 90), .inl (cI, 12, .inl (u9.2.2.1 0)))]) u)) A) sz (by decide +kernel) rfl (Nat.le_of_ble_eq_true rfl) (fun p e s m args below meth c A ls H locs B hP hD hS hl => ?_)
  obtain ⟨hx, hb, hml, hown, hts, hr, hlk, hnm, hK, hA, hN, hC⟩ := id B
  have hown : s.vm.findClass RX7 = some m.cls := hown
  have hl : lv_has ls 2 [(0, .ref h), (1, .int x1)] := hl
  have w_0 : (Cond.fieldLink RX7 285 "WishSeaModel" "out" "[I").before args s = true := hts _ (List.mem_of_getElem? (i := 1) rfl)
  have w_1 : (Cond.fieldLink RX7 288 "WishSeaModel" "outs" "I").before args s = true := hts _ (List.mem_of_getElem? (i := 2) rfl)
  have hinX7 : ∀ w ∈ u_ws RX7 TX7 92, w ∈ wsX7_writes := fun _ h => List.mem_cons_of_mem _ (List.mem_append_right _ h)
  refine lv_aload_n hx hb dX7_writes_0 rfl (lv_at hl 0 rfl) ?_
  refine k_get (D := (dC, dI)) (ci := 7) (v := .ref (r 90)) (C := RX7) (T := TX7) (N := 92) hx hb hts hinX7 hown hK hP 0 rfl rfl 90 (by decide) w_0 rfl rfl dX7_writes_1 ?_
  refine lv_aload_n hx hb dX7_writes_4 rfl (lv_at hl 0 rfl) ?_
  refine k_get (D := (dC, dI)) (ci := 7) (v := .int (i 91)) (C := RX7) (T := TX7) (N := 92) hx hb hts hinX7 hown hK hP 0 rfl rfl 91 (by decide) w_1 rfl rfl dX7_writes_5 ?_
  refine lv_iload_n hx hb dX7_writes_8 rfl (lv_at hl 1 rfl) ?_
  refine lv_sipush (v := 255) hx hb dX7_writes_9 (by decide +kernel) ?_
  refine lv_iand hx hb dX7_writes_12 ?_
  refine lv_topi (fun y_12 ey_12 => ?_)
  have f_12_1 : iR y_12 0 255 := iR_andR ey_12 (iR_c (n := 255) (a := 255) (b := 255) (by decide +kernel) (by decide +kernel)) (by decide +kernel)
  refine s_iast (g := (upd f90 (i 91).toNatClampNeg y_12)) (ws' := [(h, .inr (7, oM r i j)), ((r 90), .inl (cI, 12, .inl (upd f90 (i 91).toNatClampNeg y_12)))]) hx hb hK hP hD hS 1 0 rfl rfl (iR_vp hm91 (by decide +kernel)) rfl rfl dX7_writes_13 (fun H locs hP hD hS => ?_)
  refine lv_aload_n hx hb dX7_writes_14 rfl (lv_at hl 0 rfl) ?_
  refine lv_dup hx hb dX7_writes_15 rfl ?_
  refine k_get (D := (dC, dI)) (ci := 7) (v := .int (i 91)) (C := RX7) (T := TX7) (N := 92) hx hb hts hinX7 hown hK hP 0 rfl rfl 91 (by decide) w_1 rfl rfl dX7_writes_16 ?_
  refine lv_iconst (v := 1) hx hb dX7_writes_19 (by decide +kernel) ?_
  refine lv_iadd hx hb dX7_writes_20 ?_
  refine lv_topi (fun y_20 ey_20 => ?_)
  have f_20_2 : iR y_20 4 4 := iR_add ey_20 hm91 (iR_c (n := 1) (a := 1) (b := 1) (by decide +kernel) (by decide +kernel)) (by decide +kernel)
  refine k_put (D := (dC, dI)) (ci := 7) (v := .int y_20) (C := RX7) (T := TX7) (N := 92) (ws' := [(h, .inr (7, oM r (upd i 91 y_20) j)), ((r 90), .inl (cI, 12, .inl (upd f90 (i 91).toNatClampNeg y_12)))]) hx hb hts hinX7 tyX7 tyX7_ok nmX7 hown hK hP hD hS 0 rfl rfl 91 (by decide) w_1 rfl rfl rfl rfl (Nat.le_of_ble_eq_true rfl) rfl dX7_writes_21 (fun H locs hP hD hS => ?_)
  exact k_rv B hP hD hS dX7_writes_24 ((fun k9 => match k9 with | 0 => y_20 | _ => 0), (fun _ => 0), (fun k9 => match k9 with | 0 => (upd f90 (i 91).toNatClampNeg y_12) | _ => (fun _ => 0)), (fun _ => (fun _ => 0)), (fun _ => 0)) [0, 1] rfl rfl (Nat.le_of_ble_eq_true rfl) (Nat.le_of_ble_eq_true rfl) (show iR y_20 4 4 from f_20_2)
set_option maxHeartbeats 8000000 in
set_option maxRecDepth 100000 in
theorem s_X7_writes_v4 (l : Launch) (dC : Nat → ClassId) (dI : Nat → Nat → Nat) (cI cJ cZ cM : ClassId) (h : Nat) (r : Nat → Nat) (i : Nat → Int32) (j : Nat → Int64) (x1 : Int32) (f90 : Nat → Int32) (hm91 : iR (i 91) 4 4) (hI : mR i) : k_Mv l yX7_writes wsX7_writes ({ frames := 1, cells := 0, slots := 0, locals := 40 }) (dC, dI) vwCl (tyy cI cJ cZ cM) [(h, .inr (7, oM r i j)), ((r 90), .inl (cI, 12, .inl f90))] [.ref h, .int x1] 0 0 (fun (u9 : SU) => [(h, .inr (7, oM r (upd i 91 (u9.1 0)) j)), ((r 90), .inl (cI, 12, .inl (u9.2.2.1 0)))]) (fun (u9 : SU) => (iR (u9.1 0) 5 5)) := by
  refine fun sz => k_enter (cc := cX7_writes) (maxL := 2) (ret := none) (Qc := fun A => va_Qv (fun (u9 : SU) => (iR (u9.1 0) 5 5)) (fun u => k_B (dC, dI) vwCl (tyy cI cJ cZ cM) A ((fun (u9 : SU) => [(h, .inr (7, oM r (upd i 91 (u9.1 0)) j)), ((r 90), .inl (cI, 12, .inl (u9.2.2.1 0)))]) u)) A) sz (by decide +kernel) rfl (Nat.le_of_ble_eq_true rfl) (fun p e s m args below meth c A ls H locs B hP hD hS hl => ?_)
  obtain ⟨hx, hb, hml, hown, hts, hr, hlk, hnm, hK, hA, hN, hC⟩ := id B
  have hown : s.vm.findClass RX7 = some m.cls := hown
  have hl : lv_has ls 2 [(0, .ref h), (1, .int x1)] := hl
  have w_0 : (Cond.fieldLink RX7 285 "WishSeaModel" "out" "[I").before args s = true := hts _ (List.mem_of_getElem? (i := 1) rfl)
  have w_1 : (Cond.fieldLink RX7 288 "WishSeaModel" "outs" "I").before args s = true := hts _ (List.mem_of_getElem? (i := 2) rfl)
  have hinX7 : ∀ w ∈ u_ws RX7 TX7 92, w ∈ wsX7_writes := fun _ h => List.mem_cons_of_mem _ (List.mem_append_right _ h)
  refine lv_aload_n hx hb dX7_writes_0 rfl (lv_at hl 0 rfl) ?_
  refine k_get (D := (dC, dI)) (ci := 7) (v := .ref (r 90)) (C := RX7) (T := TX7) (N := 92) hx hb hts hinX7 hown hK hP 0 rfl rfl 90 (by decide) w_0 rfl rfl dX7_writes_1 ?_
  refine lv_aload_n hx hb dX7_writes_4 rfl (lv_at hl 0 rfl) ?_
  refine k_get (D := (dC, dI)) (ci := 7) (v := .int (i 91)) (C := RX7) (T := TX7) (N := 92) hx hb hts hinX7 hown hK hP 0 rfl rfl 91 (by decide) w_1 rfl rfl dX7_writes_5 ?_
  refine lv_iload_n hx hb dX7_writes_8 rfl (lv_at hl 1 rfl) ?_
  refine lv_sipush (v := 255) hx hb dX7_writes_9 (by decide +kernel) ?_
  refine lv_iand hx hb dX7_writes_12 ?_
  refine lv_topi (fun y_12 ey_12 => ?_)
  have f_12_1 : iR y_12 0 255 := iR_andR ey_12 (iR_c (n := 255) (a := 255) (b := 255) (by decide +kernel) (by decide +kernel)) (by decide +kernel)
  refine s_iast (g := (upd f90 (i 91).toNatClampNeg y_12)) (ws' := [(h, .inr (7, oM r i j)), ((r 90), .inl (cI, 12, .inl (upd f90 (i 91).toNatClampNeg y_12)))]) hx hb hK hP hD hS 1 0 rfl rfl (iR_vp hm91 (by decide +kernel)) rfl rfl dX7_writes_13 (fun H locs hP hD hS => ?_)
  refine lv_aload_n hx hb dX7_writes_14 rfl (lv_at hl 0 rfl) ?_
  refine lv_dup hx hb dX7_writes_15 rfl ?_
  refine k_get (D := (dC, dI)) (ci := 7) (v := .int (i 91)) (C := RX7) (T := TX7) (N := 92) hx hb hts hinX7 hown hK hP 0 rfl rfl 91 (by decide) w_1 rfl rfl dX7_writes_16 ?_
  refine lv_iconst (v := 1) hx hb dX7_writes_19 (by decide +kernel) ?_
  refine lv_iadd hx hb dX7_writes_20 ?_
  refine lv_topi (fun y_20 ey_20 => ?_)
  have f_20_2 : iR y_20 5 5 := iR_add ey_20 hm91 (iR_c (n := 1) (a := 1) (b := 1) (by decide +kernel) (by decide +kernel)) (by decide +kernel)
  refine k_put (D := (dC, dI)) (ci := 7) (v := .int y_20) (C := RX7) (T := TX7) (N := 92) (ws' := [(h, .inr (7, oM r (upd i 91 y_20) j)), ((r 90), .inl (cI, 12, .inl (upd f90 (i 91).toNatClampNeg y_12)))]) hx hb hts hinX7 tyX7 tyX7_ok nmX7 hown hK hP hD hS 0 rfl rfl 91 (by decide) w_1 rfl rfl rfl rfl (Nat.le_of_ble_eq_true rfl) rfl dX7_writes_21 (fun H locs hP hD hS => ?_)
  exact k_rv B hP hD hS dX7_writes_24 ((fun k9 => match k9 with | 0 => y_20 | _ => 0), (fun _ => 0), (fun k9 => match k9 with | 0 => (upd f90 (i 91).toNatClampNeg y_12) | _ => (fun _ => 0)), (fun _ => (fun _ => 0)), (fun _ => 0)) [0, 1] rfl rfl (Nat.le_of_ble_eq_true rfl) (Nat.le_of_ble_eq_true rfl) (show iR y_20 5 5 from f_20_2)
set_option maxHeartbeats 8000000 in
set_option maxRecDepth 100000 in
theorem s_X7_writes_v5 (l : Launch) (dC : Nat → ClassId) (dI : Nat → Nat → Nat) (cI cJ cZ cM : ClassId) (h : Nat) (r : Nat → Nat) (i : Nat → Int32) (j : Nat → Int64) (x1 : Int32) (f90 : Nat → Int32) (hm91 : iR (i 91) 5 5) (hI : mR i) : k_Mv l yX7_writes wsX7_writes ({ frames := 1, cells := 0, slots := 0, locals := 40 }) (dC, dI) vwCl (tyy cI cJ cZ cM) [(h, .inr (7, oM r i j)), ((r 90), .inl (cI, 12, .inl f90))] [.ref h, .int x1] 0 0 (fun (u9 : SU) => [(h, .inr (7, oM r (upd i 91 (u9.1 0)) j)), ((r 90), .inl (cI, 12, .inl (u9.2.2.1 0)))]) (fun (u9 : SU) => (iR (u9.1 0) 6 6)) := by
  refine fun sz => k_enter (cc := cX7_writes) (maxL := 2) (ret := none) (Qc := fun A => va_Qv (fun (u9 : SU) => (iR (u9.1 0) 6 6)) (fun u => k_B (dC, dI) vwCl (tyy cI cJ cZ cM) A ((fun (u9 : SU) => [(h, .inr (7, oM r (upd i 91 (u9.1 0)) j)), ((r 90), .inl (cI, 12, .inl (u9.2.2.1 0)))]) u)) A) sz (by decide +kernel) rfl (Nat.le_of_ble_eq_true rfl) (fun p e s m args below meth c A ls H locs B hP hD hS hl => ?_)
  obtain ⟨hx, hb, hml, hown, hts, hr, hlk, hnm, hK, hA, hN, hC⟩ := id B
  have hown : s.vm.findClass RX7 = some m.cls := hown
  have hl : lv_has ls 2 [(0, .ref h), (1, .int x1)] := hl
  have w_0 : (Cond.fieldLink RX7 285 "WishSeaModel" "out" "[I").before args s = true := hts _ (List.mem_of_getElem? (i := 1) rfl)
  have w_1 : (Cond.fieldLink RX7 288 "WishSeaModel" "outs" "I").before args s = true := hts _ (List.mem_of_getElem? (i := 2) rfl)
  have hinX7 : ∀ w ∈ u_ws RX7 TX7 92, w ∈ wsX7_writes := fun _ h => List.mem_cons_of_mem _ (List.mem_append_right _ h)
  refine lv_aload_n hx hb dX7_writes_0 rfl (lv_at hl 0 rfl) ?_
  refine k_get (D := (dC, dI)) (ci := 7) (v := .ref (r 90)) (C := RX7) (T := TX7) (N := 92) hx hb hts hinX7 hown hK hP 0 rfl rfl 90 (by decide) w_0 rfl rfl dX7_writes_1 ?_
  refine lv_aload_n hx hb dX7_writes_4 rfl (lv_at hl 0 rfl) ?_
  refine k_get (D := (dC, dI)) (ci := 7) (v := .int (i 91)) (C := RX7) (T := TX7) (N := 92) hx hb hts hinX7 hown hK hP 0 rfl rfl 91 (by decide) w_1 rfl rfl dX7_writes_5 ?_
  refine lv_iload_n hx hb dX7_writes_8 rfl (lv_at hl 1 rfl) ?_
  refine lv_sipush (v := 255) hx hb dX7_writes_9 (by decide +kernel) ?_
  refine lv_iand hx hb dX7_writes_12 ?_
  refine lv_topi (fun y_12 ey_12 => ?_)
  have f_12_1 : iR y_12 0 255 := iR_andR ey_12 (iR_c (n := 255) (a := 255) (b := 255) (by decide +kernel) (by decide +kernel)) (by decide +kernel)
  refine s_iast (g := (upd f90 (i 91).toNatClampNeg y_12)) (ws' := [(h, .inr (7, oM r i j)), ((r 90), .inl (cI, 12, .inl (upd f90 (i 91).toNatClampNeg y_12)))]) hx hb hK hP hD hS 1 0 rfl rfl (iR_vp hm91 (by decide +kernel)) rfl rfl dX7_writes_13 (fun H locs hP hD hS => ?_)
  refine lv_aload_n hx hb dX7_writes_14 rfl (lv_at hl 0 rfl) ?_
  refine lv_dup hx hb dX7_writes_15 rfl ?_
  refine k_get (D := (dC, dI)) (ci := 7) (v := .int (i 91)) (C := RX7) (T := TX7) (N := 92) hx hb hts hinX7 hown hK hP 0 rfl rfl 91 (by decide) w_1 rfl rfl dX7_writes_16 ?_
  refine lv_iconst (v := 1) hx hb dX7_writes_19 (by decide +kernel) ?_
  refine lv_iadd hx hb dX7_writes_20 ?_
  refine lv_topi (fun y_20 ey_20 => ?_)
  have f_20_2 : iR y_20 6 6 := iR_add ey_20 hm91 (iR_c (n := 1) (a := 1) (b := 1) (by decide +kernel) (by decide +kernel)) (by decide +kernel)
  refine k_put (D := (dC, dI)) (ci := 7) (v := .int y_20) (C := RX7) (T := TX7) (N := 92) (ws' := [(h, .inr (7, oM r (upd i 91 y_20) j)), ((r 90), .inl (cI, 12, .inl (upd f90 (i 91).toNatClampNeg y_12)))]) hx hb hts hinX7 tyX7 tyX7_ok nmX7 hown hK hP hD hS 0 rfl rfl 91 (by decide) w_1 rfl rfl rfl rfl (Nat.le_of_ble_eq_true rfl) rfl dX7_writes_21 (fun H locs hP hD hS => ?_)
  exact k_rv B hP hD hS dX7_writes_24 ((fun k9 => match k9 with | 0 => y_20 | _ => 0), (fun _ => 0), (fun k9 => match k9 with | 0 => (upd f90 (i 91).toNatClampNeg y_12) | _ => (fun _ => 0)), (fun _ => (fun _ => 0)), (fun _ => 0)) [0, 1] rfl rfl (Nat.le_of_ble_eq_true rfl) (Nat.le_of_ble_eq_true rfl) (show iR y_20 6 6 from f_20_2)
set_option maxHeartbeats 8000000 in
set_option maxRecDepth 100000 in
theorem s_X7_writes_v6 (l : Launch) (dC : Nat → ClassId) (dI : Nat → Nat → Nat) (cI cJ cZ cM : ClassId) (h : Nat) (r : Nat → Nat) (i : Nat → Int32) (j : Nat → Int64) (x1 : Int32) (f90 : Nat → Int32) (hm91 : iR (i 91) 6 6) (hI : mR i) : k_Mv l yX7_writes wsX7_writes ({ frames := 1, cells := 0, slots := 0, locals := 40 }) (dC, dI) vwCl (tyy cI cJ cZ cM) [(h, .inr (7, oM r i j)), ((r 90), .inl (cI, 12, .inl f90))] [.ref h, .int x1] 0 0 (fun (u9 : SU) => [(h, .inr (7, oM r (upd i 91 (u9.1 0)) j)), ((r 90), .inl (cI, 12, .inl (u9.2.2.1 0)))]) (fun (u9 : SU) => (iR (u9.1 0) 7 7)) := by
  refine fun sz => k_enter (cc := cX7_writes) (maxL := 2) (ret := none) (Qc := fun A => va_Qv (fun (u9 : SU) => (iR (u9.1 0) 7 7)) (fun u => k_B (dC, dI) vwCl (tyy cI cJ cZ cM) A ((fun (u9 : SU) => [(h, .inr (7, oM r (upd i 91 (u9.1 0)) j)), ((r 90), .inl (cI, 12, .inl (u9.2.2.1 0)))]) u)) A) sz (by decide +kernel) rfl (Nat.le_of_ble_eq_true rfl) (fun p e s m args below meth c A ls H locs B hP hD hS hl => ?_)
  obtain ⟨hx, hb, hml, hown, hts, hr, hlk, hnm, hK, hA, hN, hC⟩ := id B
  have hown : s.vm.findClass RX7 = some m.cls := hown
  have hl : lv_has ls 2 [(0, .ref h), (1, .int x1)] := hl
  have w_0 : (Cond.fieldLink RX7 285 "WishSeaModel" "out" "[I").before args s = true := hts _ (List.mem_of_getElem? (i := 1) rfl)
  have w_1 : (Cond.fieldLink RX7 288 "WishSeaModel" "outs" "I").before args s = true := hts _ (List.mem_of_getElem? (i := 2) rfl)
  have hinX7 : ∀ w ∈ u_ws RX7 TX7 92, w ∈ wsX7_writes := fun _ h => List.mem_cons_of_mem _ (List.mem_append_right _ h)
  refine lv_aload_n hx hb dX7_writes_0 rfl (lv_at hl 0 rfl) ?_
  refine k_get (D := (dC, dI)) (ci := 7) (v := .ref (r 90)) (C := RX7) (T := TX7) (N := 92) hx hb hts hinX7 hown hK hP 0 rfl rfl 90 (by decide) w_0 rfl rfl dX7_writes_1 ?_
  refine lv_aload_n hx hb dX7_writes_4 rfl (lv_at hl 0 rfl) ?_
  refine k_get (D := (dC, dI)) (ci := 7) (v := .int (i 91)) (C := RX7) (T := TX7) (N := 92) hx hb hts hinX7 hown hK hP 0 rfl rfl 91 (by decide) w_1 rfl rfl dX7_writes_5 ?_
  refine lv_iload_n hx hb dX7_writes_8 rfl (lv_at hl 1 rfl) ?_
  refine lv_sipush (v := 255) hx hb dX7_writes_9 (by decide +kernel) ?_
  refine lv_iand hx hb dX7_writes_12 ?_
  refine lv_topi (fun y_12 ey_12 => ?_)
  have f_12_1 : iR y_12 0 255 := iR_andR ey_12 (iR_c (n := 255) (a := 255) (b := 255) (by decide +kernel) (by decide +kernel)) (by decide +kernel)
  refine s_iast (g := (upd f90 (i 91).toNatClampNeg y_12)) (ws' := [(h, .inr (7, oM r i j)), ((r 90), .inl (cI, 12, .inl (upd f90 (i 91).toNatClampNeg y_12)))]) hx hb hK hP hD hS 1 0 rfl rfl (iR_vp hm91 (by decide +kernel)) rfl rfl dX7_writes_13 (fun H locs hP hD hS => ?_)
  refine lv_aload_n hx hb dX7_writes_14 rfl (lv_at hl 0 rfl) ?_
  refine lv_dup hx hb dX7_writes_15 rfl ?_
  refine k_get (D := (dC, dI)) (ci := 7) (v := .int (i 91)) (C := RX7) (T := TX7) (N := 92) hx hb hts hinX7 hown hK hP 0 rfl rfl 91 (by decide) w_1 rfl rfl dX7_writes_16 ?_
  refine lv_iconst (v := 1) hx hb dX7_writes_19 (by decide +kernel) ?_
  refine lv_iadd hx hb dX7_writes_20 ?_
  refine lv_topi (fun y_20 ey_20 => ?_)
  have f_20_2 : iR y_20 7 7 := iR_add ey_20 hm91 (iR_c (n := 1) (a := 1) (b := 1) (by decide +kernel) (by decide +kernel)) (by decide +kernel)
  refine k_put (D := (dC, dI)) (ci := 7) (v := .int y_20) (C := RX7) (T := TX7) (N := 92) (ws' := [(h, .inr (7, oM r (upd i 91 y_20) j)), ((r 90), .inl (cI, 12, .inl (upd f90 (i 91).toNatClampNeg y_12)))]) hx hb hts hinX7 tyX7 tyX7_ok nmX7 hown hK hP hD hS 0 rfl rfl 91 (by decide) w_1 rfl rfl rfl rfl (Nat.le_of_ble_eq_true rfl) rfl dX7_writes_21 (fun H locs hP hD hS => ?_)
  exact k_rv B hP hD hS dX7_writes_24 ((fun k9 => match k9 with | 0 => y_20 | _ => 0), (fun _ => 0), (fun k9 => match k9 with | 0 => (upd f90 (i 91).toNatClampNeg y_12) | _ => (fun _ => 0)), (fun _ => (fun _ => 0)), (fun _ => 0)) [0, 1] rfl rfl (Nat.le_of_ble_eq_true rfl) (Nat.le_of_ble_eq_true rfl) (show iR y_20 7 7 from f_20_2)
set_option maxHeartbeats 8000000 in
set_option maxRecDepth 100000 in
theorem s_X7_writes_v7 (l : Launch) (dC : Nat → ClassId) (dI : Nat → Nat → Nat) (cI cJ cZ cM : ClassId) (h : Nat) (r : Nat → Nat) (i : Nat → Int32) (j : Nat → Int64) (x1 : Int32) (f90 : Nat → Int32) (hm91 : iR (i 91) 7 7) (hI : mR i) : k_Mv l yX7_writes wsX7_writes ({ frames := 1, cells := 0, slots := 0, locals := 40 }) (dC, dI) vwCl (tyy cI cJ cZ cM) [(h, .inr (7, oM r i j)), ((r 90), .inl (cI, 12, .inl f90))] [.ref h, .int x1] 0 0 (fun (u9 : SU) => [(h, .inr (7, oM r (upd i 91 (u9.1 0)) j)), ((r 90), .inl (cI, 12, .inl (u9.2.2.1 0)))]) (fun (u9 : SU) => (iR (u9.1 0) 8 8)) := by
  refine fun sz => k_enter (cc := cX7_writes) (maxL := 2) (ret := none) (Qc := fun A => va_Qv (fun (u9 : SU) => (iR (u9.1 0) 8 8)) (fun u => k_B (dC, dI) vwCl (tyy cI cJ cZ cM) A ((fun (u9 : SU) => [(h, .inr (7, oM r (upd i 91 (u9.1 0)) j)), ((r 90), .inl (cI, 12, .inl (u9.2.2.1 0)))]) u)) A) sz (by decide +kernel) rfl (Nat.le_of_ble_eq_true rfl) (fun p e s m args below meth c A ls H locs B hP hD hS hl => ?_)
  obtain ⟨hx, hb, hml, hown, hts, hr, hlk, hnm, hK, hA, hN, hC⟩ := id B
  have hown : s.vm.findClass RX7 = some m.cls := hown
  have hl : lv_has ls 2 [(0, .ref h), (1, .int x1)] := hl
  have w_0 : (Cond.fieldLink RX7 285 "WishSeaModel" "out" "[I").before args s = true := hts _ (List.mem_of_getElem? (i := 1) rfl)
  have w_1 : (Cond.fieldLink RX7 288 "WishSeaModel" "outs" "I").before args s = true := hts _ (List.mem_of_getElem? (i := 2) rfl)
  have hinX7 : ∀ w ∈ u_ws RX7 TX7 92, w ∈ wsX7_writes := fun _ h => List.mem_cons_of_mem _ (List.mem_append_right _ h)
  refine lv_aload_n hx hb dX7_writes_0 rfl (lv_at hl 0 rfl) ?_
  refine k_get (D := (dC, dI)) (ci := 7) (v := .ref (r 90)) (C := RX7) (T := TX7) (N := 92) hx hb hts hinX7 hown hK hP 0 rfl rfl 90 (by decide) w_0 rfl rfl dX7_writes_1 ?_
  refine lv_aload_n hx hb dX7_writes_4 rfl (lv_at hl 0 rfl) ?_
  refine k_get (D := (dC, dI)) (ci := 7) (v := .int (i 91)) (C := RX7) (T := TX7) (N := 92) hx hb hts hinX7 hown hK hP 0 rfl rfl 91 (by decide) w_1 rfl rfl dX7_writes_5 ?_
  refine lv_iload_n hx hb dX7_writes_8 rfl (lv_at hl 1 rfl) ?_
  refine lv_sipush (v := 255) hx hb dX7_writes_9 (by decide +kernel) ?_
  refine lv_iand hx hb dX7_writes_12 ?_
  refine lv_topi (fun y_12 ey_12 => ?_)
  have f_12_1 : iR y_12 0 255 := iR_andR ey_12 (iR_c (n := 255) (a := 255) (b := 255) (by decide +kernel) (by decide +kernel)) (by decide +kernel)
  refine s_iast (g := (upd f90 (i 91).toNatClampNeg y_12)) (ws' := [(h, .inr (7, oM r i j)), ((r 90), .inl (cI, 12, .inl (upd f90 (i 91).toNatClampNeg y_12)))]) hx hb hK hP hD hS 1 0 rfl rfl (iR_vp hm91 (by decide +kernel)) rfl rfl dX7_writes_13 (fun H locs hP hD hS => ?_)
  refine lv_aload_n hx hb dX7_writes_14 rfl (lv_at hl 0 rfl) ?_
  refine lv_dup hx hb dX7_writes_15 rfl ?_
  refine k_get (D := (dC, dI)) (ci := 7) (v := .int (i 91)) (C := RX7) (T := TX7) (N := 92) hx hb hts hinX7 hown hK hP 0 rfl rfl 91 (by decide) w_1 rfl rfl dX7_writes_16 ?_
  refine lv_iconst (v := 1) hx hb dX7_writes_19 (by decide +kernel) ?_
  refine lv_iadd hx hb dX7_writes_20 ?_
  refine lv_topi (fun y_20 ey_20 => ?_)
  have f_20_2 : iR y_20 8 8 := iR_add ey_20 hm91 (iR_c (n := 1) (a := 1) (b := 1) (by decide +kernel) (by decide +kernel)) (by decide +kernel)
  refine k_put (D := (dC, dI)) (ci := 7) (v := .int y_20) (C := RX7) (T := TX7) (N := 92) (ws' := [(h, .inr (7, oM r (upd i 91 y_20) j)), ((r 90), .inl (cI, 12, .inl (upd f90 (i 91).toNatClampNeg y_12)))]) hx hb hts hinX7 tyX7 tyX7_ok nmX7 hown hK hP hD hS 0 rfl rfl 91 (by decide) w_1 rfl rfl rfl rfl (Nat.le_of_ble_eq_true rfl) rfl dX7_writes_21 (fun H locs hP hD hS => ?_)
  exact k_rv B hP hD hS dX7_writes_24 ((fun k9 => match k9 with | 0 => y_20 | _ => 0), (fun _ => 0), (fun k9 => match k9 with | 0 => (upd f90 (i 91).toNatClampNeg y_12) | _ => (fun _ => 0)), (fun _ => (fun _ => 0)), (fun _ => 0)) [0, 1] rfl rfl (Nat.le_of_ble_eq_true rfl) (Nat.le_of_ble_eq_true rfl) (show iR y_20 8 8 from f_20_2)
set_option maxHeartbeats 8000000 in
set_option maxRecDepth 100000 in
theorem s_X7_writes_v8 (l : Launch) (dC : Nat → ClassId) (dI : Nat → Nat → Nat) (cI cJ cZ cM : ClassId) (h : Nat) (r : Nat → Nat) (i : Nat → Int32) (j : Nat → Int64) (x1 : Int32) (f90 : Nat → Int32) (hm91 : iR (i 91) 8 8) (hI : mR i) : k_Mv l yX7_writes wsX7_writes ({ frames := 1, cells := 0, slots := 0, locals := 40 }) (dC, dI) vwCl (tyy cI cJ cZ cM) [(h, .inr (7, oM r i j)), ((r 90), .inl (cI, 12, .inl f90))] [.ref h, .int x1] 0 0 (fun (u9 : SU) => [(h, .inr (7, oM r (upd i 91 (u9.1 0)) j)), ((r 90), .inl (cI, 12, .inl (u9.2.2.1 0)))]) (fun (u9 : SU) => (iR (u9.1 0) 9 9)) := by
  refine fun sz => k_enter (cc := cX7_writes) (maxL := 2) (ret := none) (Qc := fun A => va_Qv (fun (u9 : SU) => (iR (u9.1 0) 9 9)) (fun u => k_B (dC, dI) vwCl (tyy cI cJ cZ cM) A ((fun (u9 : SU) => [(h, .inr (7, oM r (upd i 91 (u9.1 0)) j)), ((r 90), .inl (cI, 12, .inl (u9.2.2.1 0)))]) u)) A) sz (by decide +kernel) rfl (Nat.le_of_ble_eq_true rfl) (fun p e s m args below meth c A ls H locs B hP hD hS hl => ?_)
  obtain ⟨hx, hb, hml, hown, hts, hr, hlk, hnm, hK, hA, hN, hC⟩ := id B
  have hown : s.vm.findClass RX7 = some m.cls := hown
  have hl : lv_has ls 2 [(0, .ref h), (1, .int x1)] := hl
  have w_0 : (Cond.fieldLink RX7 285 "WishSeaModel" "out" "[I").before args s = true := hts _ (List.mem_of_getElem? (i := 1) rfl)
  have w_1 : (Cond.fieldLink RX7 288 "WishSeaModel" "outs" "I").before args s = true := hts _ (List.mem_of_getElem? (i := 2) rfl)
  have hinX7 : ∀ w ∈ u_ws RX7 TX7 92, w ∈ wsX7_writes := fun _ h => List.mem_cons_of_mem _ (List.mem_append_right _ h)
  refine lv_aload_n hx hb dX7_writes_0 rfl (lv_at hl 0 rfl) ?_
  refine k_get (D := (dC, dI)) (ci := 7) (v := .ref (r 90)) (C := RX7) (T := TX7) (N := 92) hx hb hts hinX7 hown hK hP 0 rfl rfl 90 (by decide) w_0 rfl rfl dX7_writes_1 ?_
  refine lv_aload_n hx hb dX7_writes_4 rfl (lv_at hl 0 rfl) ?_
  refine k_get (D := (dC, dI)) (ci := 7) (v := .int (i 91)) (C := RX7) (T := TX7) (N := 92) hx hb hts hinX7 hown hK hP 0 rfl rfl 91 (by decide) w_1 rfl rfl dX7_writes_5 ?_
  refine lv_iload_n hx hb dX7_writes_8 rfl (lv_at hl 1 rfl) ?_
  refine lv_sipush (v := 255) hx hb dX7_writes_9 (by decide +kernel) ?_
  refine lv_iand hx hb dX7_writes_12 ?_
  refine lv_topi (fun y_12 ey_12 => ?_)
  have f_12_1 : iR y_12 0 255 := iR_andR ey_12 (iR_c (n := 255) (a := 255) (b := 255) (by decide +kernel) (by decide +kernel)) (by decide +kernel)
  refine s_iast (g := (upd f90 (i 91).toNatClampNeg y_12)) (ws' := [(h, .inr (7, oM r i j)), ((r 90), .inl (cI, 12, .inl (upd f90 (i 91).toNatClampNeg y_12)))]) hx hb hK hP hD hS 1 0 rfl rfl (iR_vp hm91 (by decide +kernel)) rfl rfl dX7_writes_13 (fun H locs hP hD hS => ?_)
  refine lv_aload_n hx hb dX7_writes_14 rfl (lv_at hl 0 rfl) ?_
  refine lv_dup hx hb dX7_writes_15 rfl ?_
  refine k_get (D := (dC, dI)) (ci := 7) (v := .int (i 91)) (C := RX7) (T := TX7) (N := 92) hx hb hts hinX7 hown hK hP 0 rfl rfl 91 (by decide) w_1 rfl rfl dX7_writes_16 ?_
  refine lv_iconst (v := 1) hx hb dX7_writes_19 (by decide +kernel) ?_
  refine lv_iadd hx hb dX7_writes_20 ?_
  refine lv_topi (fun y_20 ey_20 => ?_)
  have f_20_2 : iR y_20 9 9 := iR_add ey_20 hm91 (iR_c (n := 1) (a := 1) (b := 1) (by decide +kernel) (by decide +kernel)) (by decide +kernel)
  refine k_put (D := (dC, dI)) (ci := 7) (v := .int y_20) (C := RX7) (T := TX7) (N := 92) (ws' := [(h, .inr (7, oM r (upd i 91 y_20) j)), ((r 90), .inl (cI, 12, .inl (upd f90 (i 91).toNatClampNeg y_12)))]) hx hb hts hinX7 tyX7 tyX7_ok nmX7 hown hK hP hD hS 0 rfl rfl 91 (by decide) w_1 rfl rfl rfl rfl (Nat.le_of_ble_eq_true rfl) rfl dX7_writes_21 (fun H locs hP hD hS => ?_)
  exact k_rv B hP hD hS dX7_writes_24 ((fun k9 => match k9 with | 0 => y_20 | _ => 0), (fun _ => 0), (fun k9 => match k9 with | 0 => (upd f90 (i 91).toNatClampNeg y_12) | _ => (fun _ => 0)), (fun _ => (fun _ => 0)), (fun _ => 0)) [0, 1] rfl rfl (Nat.le_of_ble_eq_true rfl) (Nat.le_of_ble_eq_true rfl) (show iR y_20 9 9 from f_20_2)
set_option maxHeartbeats 8000000 in
set_option maxRecDepth 100000 in
theorem s_X7_writes_v9 (l : Launch) (dC : Nat → ClassId) (dI : Nat → Nat → Nat) (cI cJ cZ cM : ClassId) (h : Nat) (r : Nat → Nat) (i : Nat → Int32) (j : Nat → Int64) (x1 : Int32) (f90 : Nat → Int32) (hm91 : iR (i 91) 0 0) (hI : mR i) : k_Mv l yX7_writes wsX7_writes ({ frames := 1, cells := 0, slots := 0, locals := 40 }) (dC, dI) vwCl (tyy cI cJ cZ cM) [(h, .inr (7, oM r i j)), ((r 90), .inl (cI, 12, .inl f90))] [.ref h, .int x1] 0 0 (fun (u9 : SU) => [(h, .inr (7, oM r (upd i 91 (u9.1 0)) j)), ((r 90), .inl (cI, 12, .inl (u9.2.2.1 0)))]) (fun (u9 : SU) => (iR (u9.1 0) 1 1)) := by
  refine fun sz => k_enter (cc := cX7_writes) (maxL := 2) (ret := none) (Qc := fun A => va_Qv (fun (u9 : SU) => (iR (u9.1 0) 1 1)) (fun u => k_B (dC, dI) vwCl (tyy cI cJ cZ cM) A ((fun (u9 : SU) => [(h, .inr (7, oM r (upd i 91 (u9.1 0)) j)), ((r 90), .inl (cI, 12, .inl (u9.2.2.1 0)))]) u)) A) sz (by decide +kernel) rfl (Nat.le_of_ble_eq_true rfl) (fun p e s m args below meth c A ls H locs B hP hD hS hl => ?_)
  obtain ⟨hx, hb, hml, hown, hts, hr, hlk, hnm, hK, hA, hN, hC⟩ := id B
  have hown : s.vm.findClass RX7 = some m.cls := hown
  have hl : lv_has ls 2 [(0, .ref h), (1, .int x1)] := hl
  have w_0 : (Cond.fieldLink RX7 285 "WishSeaModel" "out" "[I").before args s = true := hts _ (List.mem_of_getElem? (i := 1) rfl)
  have w_1 : (Cond.fieldLink RX7 288 "WishSeaModel" "outs" "I").before args s = true := hts _ (List.mem_of_getElem? (i := 2) rfl)
  have hinX7 : ∀ w ∈ u_ws RX7 TX7 92, w ∈ wsX7_writes := fun _ h => List.mem_cons_of_mem _ (List.mem_append_right _ h)
  refine lv_aload_n hx hb dX7_writes_0 rfl (lv_at hl 0 rfl) ?_
  refine k_get (D := (dC, dI)) (ci := 7) (v := .ref (r 90)) (C := RX7) (T := TX7) (N := 92) hx hb hts hinX7 hown hK hP 0 rfl rfl 90 (by decide) w_0 rfl rfl dX7_writes_1 ?_
  refine lv_aload_n hx hb dX7_writes_4 rfl (lv_at hl 0 rfl) ?_
  refine k_get (D := (dC, dI)) (ci := 7) (v := .int (i 91)) (C := RX7) (T := TX7) (N := 92) hx hb hts hinX7 hown hK hP 0 rfl rfl 91 (by decide) w_1 rfl rfl dX7_writes_5 ?_
  refine lv_iload_n hx hb dX7_writes_8 rfl (lv_at hl 1 rfl) ?_
  refine lv_sipush (v := 255) hx hb dX7_writes_9 (by decide +kernel) ?_
  refine lv_iand hx hb dX7_writes_12 ?_
  refine lv_topi (fun y_12 ey_12 => ?_)
  have f_12_1 : iR y_12 0 255 := iR_andR ey_12 (iR_c (n := 255) (a := 255) (b := 255) (by decide +kernel) (by decide +kernel)) (by decide +kernel)
  refine s_iast (g := (upd f90 (i 91).toNatClampNeg y_12)) (ws' := [(h, .inr (7, oM r i j)), ((r 90), .inl (cI, 12, .inl (upd f90 (i 91).toNatClampNeg y_12)))]) hx hb hK hP hD hS 1 0 rfl rfl (iR_vp hm91 (by decide +kernel)) rfl rfl dX7_writes_13 (fun H locs hP hD hS => ?_)
  refine lv_aload_n hx hb dX7_writes_14 rfl (lv_at hl 0 rfl) ?_
  refine lv_dup hx hb dX7_writes_15 rfl ?_
  refine k_get (D := (dC, dI)) (ci := 7) (v := .int (i 91)) (C := RX7) (T := TX7) (N := 92) hx hb hts hinX7 hown hK hP 0 rfl rfl 91 (by decide) w_1 rfl rfl dX7_writes_16 ?_
  refine lv_iconst (v := 1) hx hb dX7_writes_19 (by decide +kernel) ?_
  refine lv_iadd hx hb dX7_writes_20 ?_
  refine lv_topi (fun y_20 ey_20 => ?_)
  have f_20_2 : iR y_20 1 1 := iR_add ey_20 hm91 (iR_c (n := 1) (a := 1) (b := 1) (by decide +kernel) (by decide +kernel)) (by decide +kernel)
  refine k_put (D := (dC, dI)) (ci := 7) (v := .int y_20) (C := RX7) (T := TX7) (N := 92) (ws' := [(h, .inr (7, oM r (upd i 91 y_20) j)), ((r 90), .inl (cI, 12, .inl (upd f90 (i 91).toNatClampNeg y_12)))]) hx hb hts hinX7 tyX7 tyX7_ok nmX7 hown hK hP hD hS 0 rfl rfl 91 (by decide) w_1 rfl rfl rfl rfl (Nat.le_of_ble_eq_true rfl) rfl dX7_writes_21 (fun H locs hP hD hS => ?_)
  exact k_rv B hP hD hS dX7_writes_24 ((fun k9 => match k9 with | 0 => y_20 | _ => 0), (fun _ => 0), (fun k9 => match k9 with | 0 => (upd f90 (i 91).toNatClampNeg y_12) | _ => (fun _ => 0)), (fun _ => (fun _ => 0)), (fun _ => 0)) [0, 1] rfl rfl (Nat.le_of_ble_eq_true rfl) (Nat.le_of_ble_eq_true rfl) (show iR y_20 1 1 from f_20_2)
set_option maxHeartbeats 8000000 in
set_option maxRecDepth 100000 in
theorem s_X7_writes_v10 (l : Launch) (dC : Nat → ClassId) (dI : Nat → Nat → Nat) (cI cJ cZ cM : ClassId) (h : Nat) (r : Nat → Nat) (i : Nat → Int32) (j : Nat → Int64) (x1 : Int32) (f90 : Nat → Int32) (hm91 : iR (i 91) 1 1) (hI : mR i) : k_Mv l yX7_writes wsX7_writes ({ frames := 1, cells := 0, slots := 0, locals := 40 }) (dC, dI) vwCl (tyy cI cJ cZ cM) [(h, .inr (7, oM r i j)), ((r 90), .inl (cI, 12, .inl f90))] [.ref h, .int x1] 0 0 (fun (u9 : SU) => [(h, .inr (7, oM r (upd i 91 (u9.1 0)) j)), ((r 90), .inl (cI, 12, .inl (u9.2.2.1 0)))]) (fun (u9 : SU) => (iR (u9.1 0) 2 2)) := by
  refine fun sz => k_enter (cc := cX7_writes) (maxL := 2) (ret := none) (Qc := fun A => va_Qv (fun (u9 : SU) => (iR (u9.1 0) 2 2)) (fun u => k_B (dC, dI) vwCl (tyy cI cJ cZ cM) A ((fun (u9 : SU) => [(h, .inr (7, oM r (upd i 91 (u9.1 0)) j)), ((r 90), .inl (cI, 12, .inl (u9.2.2.1 0)))]) u)) A) sz (by decide +kernel) rfl (Nat.le_of_ble_eq_true rfl) (fun p e s m args below meth c A ls H locs B hP hD hS hl => ?_)
  obtain ⟨hx, hb, hml, hown, hts, hr, hlk, hnm, hK, hA, hN, hC⟩ := id B
  have hown : s.vm.findClass RX7 = some m.cls := hown
  have hl : lv_has ls 2 [(0, .ref h), (1, .int x1)] := hl
  have w_0 : (Cond.fieldLink RX7 285 "WishSeaModel" "out" "[I").before args s = true := hts _ (List.mem_of_getElem? (i := 1) rfl)
  have w_1 : (Cond.fieldLink RX7 288 "WishSeaModel" "outs" "I").before args s = true := hts _ (List.mem_of_getElem? (i := 2) rfl)
  have hinX7 : ∀ w ∈ u_ws RX7 TX7 92, w ∈ wsX7_writes := fun _ h => List.mem_cons_of_mem _ (List.mem_append_right _ h)
  refine lv_aload_n hx hb dX7_writes_0 rfl (lv_at hl 0 rfl) ?_
  refine k_get (D := (dC, dI)) (ci := 7) (v := .ref (r 90)) (C := RX7) (T := TX7) (N := 92) hx hb hts hinX7 hown hK hP 0 rfl rfl 90 (by decide) w_0 rfl rfl dX7_writes_1 ?_
  refine lv_aload_n hx hb dX7_writes_4 rfl (lv_at hl 0 rfl) ?_
  refine k_get (D := (dC, dI)) (ci := 7) (v := .int (i 91)) (C := RX7) (T := TX7) (N := 92) hx hb hts hinX7 hown hK hP 0 rfl rfl 91 (by decide) w_1 rfl rfl dX7_writes_5 ?_
  refine lv_iload_n hx hb dX7_writes_8 rfl (lv_at hl 1 rfl) ?_
  refine lv_sipush (v := 255) hx hb dX7_writes_9 (by decide +kernel) ?_
  refine lv_iand hx hb dX7_writes_12 ?_
  refine lv_topi (fun y_12 ey_12 => ?_)
  have f_12_1 : iR y_12 0 255 := iR_andR ey_12 (iR_c (n := 255) (a := 255) (b := 255) (by decide +kernel) (by decide +kernel)) (by decide +kernel)
  refine s_iast (g := (upd f90 (i 91).toNatClampNeg y_12)) (ws' := [(h, .inr (7, oM r i j)), ((r 90), .inl (cI, 12, .inl (upd f90 (i 91).toNatClampNeg y_12)))]) hx hb hK hP hD hS 1 0 rfl rfl (iR_vp hm91 (by decide +kernel)) rfl rfl dX7_writes_13 (fun H locs hP hD hS => ?_)
  refine lv_aload_n hx hb dX7_writes_14 rfl (lv_at hl 0 rfl) ?_
  refine lv_dup hx hb dX7_writes_15 rfl ?_
  refine k_get (D := (dC, dI)) (ci := 7) (v := .int (i 91)) (C := RX7) (T := TX7) (N := 92) hx hb hts hinX7 hown hK hP 0 rfl rfl 91 (by decide) w_1 rfl rfl dX7_writes_16 ?_
  refine lv_iconst (v := 1) hx hb dX7_writes_19 (by decide +kernel) ?_
  refine lv_iadd hx hb dX7_writes_20 ?_
  refine lv_topi (fun y_20 ey_20 => ?_)
  have f_20_2 : iR y_20 2 2 := iR_add ey_20 hm91 (iR_c (n := 1) (a := 1) (b := 1) (by decide +kernel) (by decide +kernel)) (by decide +kernel)
  refine k_put (D := (dC, dI)) (ci := 7) (v := .int y_20) (C := RX7) (T := TX7) (N := 92) (ws' := [(h, .inr (7, oM r (upd i 91 y_20) j)), ((r 90), .inl (cI, 12, .inl (upd f90 (i 91).toNatClampNeg y_12)))]) hx hb hts hinX7 tyX7 tyX7_ok nmX7 hown hK hP hD hS 0 rfl rfl 91 (by decide) w_1 rfl rfl rfl rfl (Nat.le_of_ble_eq_true rfl) rfl dX7_writes_21 (fun H locs hP hD hS => ?_)
  exact k_rv B hP hD hS dX7_writes_24 ((fun k9 => match k9 with | 0 => y_20 | _ => 0), (fun _ => 0), (fun k9 => match k9 with | 0 => (upd f90 (i 91).toNatClampNeg y_12) | _ => (fun _ => 0)), (fun _ => (fun _ => 0)), (fun _ => 0)) [0, 1] rfl rfl (Nat.le_of_ble_eq_true rfl) (Nat.le_of_ble_eq_true rfl) (show iR y_20 2 2 from f_20_2)
set_option maxHeartbeats 8000000 in
set_option maxRecDepth 100000 in
theorem s_X7_writes_v11 (l : Launch) (dC : Nat → ClassId) (dI : Nat → Nat → Nat) (cI cJ cZ cM : ClassId) (h : Nat) (r : Nat → Nat) (i : Nat → Int32) (j : Nat → Int64) (x1 : Int32) (f90 : Nat → Int32) (hm91 : iR (i 91) 2 2) (hI : mR i) : k_Mv l yX7_writes wsX7_writes ({ frames := 1, cells := 0, slots := 0, locals := 40 }) (dC, dI) vwCl (tyy cI cJ cZ cM) [(h, .inr (7, oM r i j)), ((r 90), .inl (cI, 12, .inl f90))] [.ref h, .int x1] 0 0 (fun (u9 : SU) => [(h, .inr (7, oM r (upd i 91 (u9.1 0)) j)), ((r 90), .inl (cI, 12, .inl (u9.2.2.1 0)))]) (fun (u9 : SU) => (iR (u9.1 0) 3 3)) := by
  refine fun sz => k_enter (cc := cX7_writes) (maxL := 2) (ret := none) (Qc := fun A => va_Qv (fun (u9 : SU) => (iR (u9.1 0) 3 3)) (fun u => k_B (dC, dI) vwCl (tyy cI cJ cZ cM) A ((fun (u9 : SU) => [(h, .inr (7, oM r (upd i 91 (u9.1 0)) j)), ((r 90), .inl (cI, 12, .inl (u9.2.2.1 0)))]) u)) A) sz (by decide +kernel) rfl (Nat.le_of_ble_eq_true rfl) (fun p e s m args below meth c A ls H locs B hP hD hS hl => ?_)
  obtain ⟨hx, hb, hml, hown, hts, hr, hlk, hnm, hK, hA, hN, hC⟩ := id B
  have hown : s.vm.findClass RX7 = some m.cls := hown
  have hl : lv_has ls 2 [(0, .ref h), (1, .int x1)] := hl
  have w_0 : (Cond.fieldLink RX7 285 "WishSeaModel" "out" "[I").before args s = true := hts _ (List.mem_of_getElem? (i := 1) rfl)
  have w_1 : (Cond.fieldLink RX7 288 "WishSeaModel" "outs" "I").before args s = true := hts _ (List.mem_of_getElem? (i := 2) rfl)
  have hinX7 : ∀ w ∈ u_ws RX7 TX7 92, w ∈ wsX7_writes := fun _ h => List.mem_cons_of_mem _ (List.mem_append_right _ h)
  refine lv_aload_n hx hb dX7_writes_0 rfl (lv_at hl 0 rfl) ?_
  refine k_get (D := (dC, dI)) (ci := 7) (v := .ref (r 90)) (C := RX7) (T := TX7) (N := 92) hx hb hts hinX7 hown hK hP 0 rfl rfl 90 (by decide) w_0 rfl rfl dX7_writes_1 ?_
  refine lv_aload_n hx hb dX7_writes_4 rfl (lv_at hl 0 rfl) ?_
  refine k_get (D := (dC, dI)) (ci := 7) (v := .int (i 91)) (C := RX7) (T := TX7) (N := 92) hx hb hts hinX7 hown hK hP 0 rfl rfl 91 (by decide) w_1 rfl rfl dX7_writes_5 ?_
  refine lv_iload_n hx hb dX7_writes_8 rfl (lv_at hl 1 rfl) ?_
  refine lv_sipush (v := 255) hx hb dX7_writes_9 (by decide +kernel) ?_
  refine lv_iand hx hb dX7_writes_12 ?_
  refine lv_topi (fun y_12 ey_12 => ?_)
  have f_12_1 : iR y_12 0 255 := iR_andR ey_12 (iR_c (n := 255) (a := 255) (b := 255) (by decide +kernel) (by decide +kernel)) (by decide +kernel)
  refine s_iast (g := (upd f90 (i 91).toNatClampNeg y_12)) (ws' := [(h, .inr (7, oM r i j)), ((r 90), .inl (cI, 12, .inl (upd f90 (i 91).toNatClampNeg y_12)))]) hx hb hK hP hD hS 1 0 rfl rfl (iR_vp hm91 (by decide +kernel)) rfl rfl dX7_writes_13 (fun H locs hP hD hS => ?_)
  refine lv_aload_n hx hb dX7_writes_14 rfl (lv_at hl 0 rfl) ?_
  refine lv_dup hx hb dX7_writes_15 rfl ?_
  refine k_get (D := (dC, dI)) (ci := 7) (v := .int (i 91)) (C := RX7) (T := TX7) (N := 92) hx hb hts hinX7 hown hK hP 0 rfl rfl 91 (by decide) w_1 rfl rfl dX7_writes_16 ?_
  refine lv_iconst (v := 1) hx hb dX7_writes_19 (by decide +kernel) ?_
  refine lv_iadd hx hb dX7_writes_20 ?_
  refine lv_topi (fun y_20 ey_20 => ?_)
  have f_20_2 : iR y_20 3 3 := iR_add ey_20 hm91 (iR_c (n := 1) (a := 1) (b := 1) (by decide +kernel) (by decide +kernel)) (by decide +kernel)
  refine k_put (D := (dC, dI)) (ci := 7) (v := .int y_20) (C := RX7) (T := TX7) (N := 92) (ws' := [(h, .inr (7, oM r (upd i 91 y_20) j)), ((r 90), .inl (cI, 12, .inl (upd f90 (i 91).toNatClampNeg y_12)))]) hx hb hts hinX7 tyX7 tyX7_ok nmX7 hown hK hP hD hS 0 rfl rfl 91 (by decide) w_1 rfl rfl rfl rfl (Nat.le_of_ble_eq_true rfl) rfl dX7_writes_21 (fun H locs hP hD hS => ?_)
  exact k_rv B hP hD hS dX7_writes_24 ((fun k9 => match k9 with | 0 => y_20 | _ => 0), (fun _ => 0), (fun k9 => match k9 with | 0 => (upd f90 (i 91).toNatClampNeg y_12) | _ => (fun _ => 0)), (fun _ => (fun _ => 0)), (fun _ => 0)) [0, 1] rfl rfl (Nat.le_of_ble_eq_true rfl) (Nat.le_of_ble_eq_true rfl) (show iR y_20 3 3 from f_20_2)
set_option maxHeartbeats 8000000 in
set_option maxRecDepth 100000 in
theorem s_X7_writes_v12 (l : Launch) (dC : Nat → ClassId) (dI : Nat → Nat → Nat) (cI cJ cZ cM : ClassId) (h : Nat) (r : Nat → Nat) (i : Nat → Int32) (j : Nat → Int64) (x1 : Int32) (f90 : Nat → Int32) (hm91 : iR (i 91) 3 3) (hI : mR i) : k_Mv l yX7_writes wsX7_writes ({ frames := 1, cells := 0, slots := 0, locals := 40 }) (dC, dI) vwCl (tyy cI cJ cZ cM) [(h, .inr (7, oM r i j)), ((r 90), .inl (cI, 12, .inl f90))] [.ref h, .int x1] 0 0 (fun (u9 : SU) => [(h, .inr (7, oM r (upd i 91 (u9.1 0)) j)), ((r 90), .inl (cI, 12, .inl (u9.2.2.1 0)))]) (fun (u9 : SU) => (iR (u9.1 0) 4 4)) := by
  refine fun sz => k_enter (cc := cX7_writes) (maxL := 2) (ret := none) (Qc := fun A => va_Qv (fun (u9 : SU) => (iR (u9.1 0) 4 4)) (fun u => k_B (dC, dI) vwCl (tyy cI cJ cZ cM) A ((fun (u9 : SU) => [(h, .inr (7, oM r (upd i 91 (u9.1 0)) j)), ((r 90), .inl (cI, 12, .inl (u9.2.2.1 0)))]) u)) A) sz (by decide +kernel) rfl (Nat.le_of_ble_eq_true rfl) (fun p e s m args below meth c A ls H locs B hP hD hS hl => ?_)
  obtain ⟨hx, hb, hml, hown, hts, hr, hlk, hnm, hK, hA, hN, hC⟩ := id B
  have hown : s.vm.findClass RX7 = some m.cls := hown
  have hl : lv_has ls 2 [(0, .ref h), (1, .int x1)] := hl
  have w_0 : (Cond.fieldLink RX7 285 "WishSeaModel" "out" "[I").before args s = true := hts _ (List.mem_of_getElem? (i := 1) rfl)
  have w_1 : (Cond.fieldLink RX7 288 "WishSeaModel" "outs" "I").before args s = true := hts _ (List.mem_of_getElem? (i := 2) rfl)
  have hinX7 : ∀ w ∈ u_ws RX7 TX7 92, w ∈ wsX7_writes := fun _ h => List.mem_cons_of_mem _ (List.mem_append_right _ h)
  refine lv_aload_n hx hb dX7_writes_0 rfl (lv_at hl 0 rfl) ?_
  refine k_get (D := (dC, dI)) (ci := 7) (v := .ref (r 90)) (C := RX7) (T := TX7) (N := 92) hx hb hts hinX7 hown hK hP 0 rfl rfl 90 (by decide) w_0 rfl rfl dX7_writes_1 ?_
  refine lv_aload_n hx hb dX7_writes_4 rfl (lv_at hl 0 rfl) ?_
  refine k_get (D := (dC, dI)) (ci := 7) (v := .int (i 91)) (C := RX7) (T := TX7) (N := 92) hx hb hts hinX7 hown hK hP 0 rfl rfl 91 (by decide) w_1 rfl rfl dX7_writes_5 ?_
  refine lv_iload_n hx hb dX7_writes_8 rfl (lv_at hl 1 rfl) ?_
  refine lv_sipush (v := 255) hx hb dX7_writes_9 (by decide +kernel) ?_
  refine lv_iand hx hb dX7_writes_12 ?_
  refine lv_topi (fun y_12 ey_12 => ?_)
  have f_12_1 : iR y_12 0 255 := iR_andR ey_12 (iR_c (n := 255) (a := 255) (b := 255) (by decide +kernel) (by decide +kernel)) (by decide +kernel)
  refine s_iast (g := (upd f90 (i 91).toNatClampNeg y_12)) (ws' := [(h, .inr (7, oM r i j)), ((r 90), .inl (cI, 12, .inl (upd f90 (i 91).toNatClampNeg y_12)))]) hx hb hK hP hD hS 1 0 rfl rfl (iR_vp hm91 (by decide +kernel)) rfl rfl dX7_writes_13 (fun H locs hP hD hS => ?_)
  refine lv_aload_n hx hb dX7_writes_14 rfl (lv_at hl 0 rfl) ?_
  refine lv_dup hx hb dX7_writes_15 rfl ?_
  refine k_get (D := (dC, dI)) (ci := 7) (v := .int (i 91)) (C := RX7) (T := TX7) (N := 92) hx hb hts hinX7 hown hK hP 0 rfl rfl 91 (by decide) w_1 rfl rfl dX7_writes_16 ?_
  refine lv_iconst (v := 1) hx hb dX7_writes_19 (by decide +kernel) ?_
  refine lv_iadd hx hb dX7_writes_20 ?_
  refine lv_topi (fun y_20 ey_20 => ?_)
  have f_20_2 : iR y_20 4 4 := iR_add ey_20 hm91 (iR_c (n := 1) (a := 1) (b := 1) (by decide +kernel) (by decide +kernel)) (by decide +kernel)
  refine k_put (D := (dC, dI)) (ci := 7) (v := .int y_20) (C := RX7) (T := TX7) (N := 92) (ws' := [(h, .inr (7, oM r (upd i 91 y_20) j)), ((r 90), .inl (cI, 12, .inl (upd f90 (i 91).toNatClampNeg y_12)))]) hx hb hts hinX7 tyX7 tyX7_ok nmX7 hown hK hP hD hS 0 rfl rfl 91 (by decide) w_1 rfl rfl rfl rfl (Nat.le_of_ble_eq_true rfl) rfl dX7_writes_21 (fun H locs hP hD hS => ?_)
  exact k_rv B hP hD hS dX7_writes_24 ((fun k9 => match k9 with | 0 => y_20 | _ => 0), (fun _ => 0), (fun k9 => match k9 with | 0 => (upd f90 (i 91).toNatClampNeg y_12) | _ => (fun _ => 0)), (fun _ => (fun _ => 0)), (fun _ => 0)) [0, 1] rfl rfl (Nat.le_of_ble_eq_true rfl) (Nat.le_of_ble_eq_true rfl) (show iR y_20 4 4 from f_20_2)
set_option maxHeartbeats 8000000 in
set_option maxRecDepth 100000 in
theorem s_X7_writes_v13 (l : Launch) (dC : Nat → ClassId) (dI : Nat → Nat → Nat) (cI cJ cZ cM : ClassId) (h : Nat) (r : Nat → Nat) (i : Nat → Int32) (j : Nat → Int64) (x1 : Int32) (f90 : Nat → Int32) (hm91 : iR (i 91) 4 4) (hI : mR i) : k_Mv l yX7_writes wsX7_writes ({ frames := 1, cells := 0, slots := 0, locals := 40 }) (dC, dI) vwCl (tyy cI cJ cZ cM) [(h, .inr (7, oM r i j)), ((r 90), .inl (cI, 12, .inl f90))] [.ref h, .int x1] 0 0 (fun (u9 : SU) => [(h, .inr (7, oM r (upd i 91 (u9.1 0)) j)), ((r 90), .inl (cI, 12, .inl (u9.2.2.1 0)))]) (fun (u9 : SU) => (iR (u9.1 0) 5 5)) := by
  refine fun sz => k_enter (cc := cX7_writes) (maxL := 2) (ret := none) (Qc := fun A => va_Qv (fun (u9 : SU) => (iR (u9.1 0) 5 5)) (fun u => k_B (dC, dI) vwCl (tyy cI cJ cZ cM) A ((fun (u9 : SU) => [(h, .inr (7, oM r (upd i 91 (u9.1 0)) j)), ((r 90), .inl (cI, 12, .inl (u9.2.2.1 0)))]) u)) A) sz (by decide +kernel) rfl (Nat.le_of_ble_eq_true rfl) (fun p e s m args below meth c A ls H locs B hP hD hS hl => ?_)
  obtain ⟨hx, hb, hml, hown, hts, hr, hlk, hnm, hK, hA, hN, hC⟩ := id B
  have hown : s.vm.findClass RX7 = some m.cls := hown
  have hl : lv_has ls 2 [(0, .ref h), (1, .int x1)] := hl
  have w_0 : (Cond.fieldLink RX7 285 "WishSeaModel" "out" "[I").before args s = true := hts _ (List.mem_of_getElem? (i := 1) rfl)
  have w_1 : (Cond.fieldLink RX7 288 "WishSeaModel" "outs" "I").before args s = true := hts _ (List.mem_of_getElem? (i := 2) rfl)
  have hinX7 : ∀ w ∈ u_ws RX7 TX7 92, w ∈ wsX7_writes := fun _ h => List.mem_cons_of_mem _ (List.mem_append_right _ h)
  refine lv_aload_n hx hb dX7_writes_0 rfl (lv_at hl 0 rfl) ?_
  refine k_get (D := (dC, dI)) (ci := 7) (v := .ref (r 90)) (C := RX7) (T := TX7) (N := 92) hx hb hts hinX7 hown hK hP 0 rfl rfl 90 (by decide) w_0 rfl rfl dX7_writes_1 ?_
  refine lv_aload_n hx hb dX7_writes_4 rfl (lv_at hl 0 rfl) ?_
  refine k_get (D := (dC, dI)) (ci := 7) (v := .int (i 91)) (C := RX7) (T := TX7) (N := 92) hx hb hts hinX7 hown hK hP 0 rfl rfl 91 (by decide) w_1 rfl rfl dX7_writes_5 ?_
  refine lv_iload_n hx hb dX7_writes_8 rfl (lv_at hl 1 rfl) ?_
  refine lv_sipush (v := 255) hx hb dX7_writes_9 (by decide +kernel) ?_
  refine lv_iand hx hb dX7_writes_12 ?_
  refine lv_topi (fun y_12 ey_12 => ?_)
  have f_12_1 : iR y_12 0 255 := iR_andR ey_12 (iR_c (n := 255) (a := 255) (b := 255) (by decide +kernel) (by decide +kernel)) (by decide +kernel)
  refine s_iast (g := (upd f90 (i 91).toNatClampNeg y_12)) (ws' := [(h, .inr (7, oM r i j)), ((r 90), .inl (cI, 12, .inl (upd f90 (i 91).toNatClampNeg y_12)))]) hx hb hK hP hD hS 1 0 rfl rfl (iR_vp hm91 (by decide +kernel)) rfl rfl dX7_writes_13 (fun H locs hP hD hS => ?_)
  refine lv_aload_n hx hb dX7_writes_14 rfl (lv_at hl 0 rfl) ?_
  refine lv_dup hx hb dX7_writes_15 rfl ?_
  refine k_get (D := (dC, dI)) (ci := 7) (v := .int (i 91)) (C := RX7) (T := TX7) (N := 92) hx hb hts hinX7 hown hK hP 0 rfl rfl 91 (by decide) w_1 rfl rfl dX7_writes_16 ?_
  refine lv_iconst (v := 1) hx hb dX7_writes_19 (by decide +kernel) ?_
  refine lv_iadd hx hb dX7_writes_20 ?_
  refine lv_topi (fun y_20 ey_20 => ?_)
  have f_20_2 : iR y_20 5 5 := iR_add ey_20 hm91 (iR_c (n := 1) (a := 1) (b := 1) (by decide +kernel) (by decide +kernel)) (by decide +kernel)
  refine k_put (D := (dC, dI)) (ci := 7) (v := .int y_20) (C := RX7) (T := TX7) (N := 92) (ws' := [(h, .inr (7, oM r (upd i 91 y_20) j)), ((r 90), .inl (cI, 12, .inl (upd f90 (i 91).toNatClampNeg y_12)))]) hx hb hts hinX7 tyX7 tyX7_ok nmX7 hown hK hP hD hS 0 rfl rfl 91 (by decide) w_1 rfl rfl rfl rfl (Nat.le_of_ble_eq_true rfl) rfl dX7_writes_21 (fun H locs hP hD hS => ?_)
  exact k_rv B hP hD hS dX7_writes_24 ((fun k9 => match k9 with | 0 => y_20 | _ => 0), (fun _ => 0), (fun k9 => match k9 with | 0 => (upd f90 (i 91).toNatClampNeg y_12) | _ => (fun _ => 0)), (fun _ => (fun _ => 0)), (fun _ => 0)) [0, 1] rfl rfl (Nat.le_of_ble_eq_true rfl) (Nat.le_of_ble_eq_true rfl) (show iR y_20 5 5 from f_20_2)
set_option maxHeartbeats 8000000 in
set_option maxRecDepth 100000 in
theorem s_X7_writes_v14 (l : Launch) (dC : Nat → ClassId) (dI : Nat → Nat → Nat) (cI cJ cZ cM : ClassId) (h : Nat) (r : Nat → Nat) (i : Nat → Int32) (j : Nat → Int64) (x1 : Int32) (f90 : Nat → Int32) (hm91 : iR (i 91) 5 5) (hI : mR i) : k_Mv l yX7_writes wsX7_writes ({ frames := 1, cells := 0, slots := 0, locals := 40 }) (dC, dI) vwCl (tyy cI cJ cZ cM) [(h, .inr (7, oM r i j)), ((r 90), .inl (cI, 12, .inl f90))] [.ref h, .int x1] 0 0 (fun (u9 : SU) => [(h, .inr (7, oM r (upd i 91 (u9.1 0)) j)), ((r 90), .inl (cI, 12, .inl (u9.2.2.1 0)))]) (fun (u9 : SU) => (iR (u9.1 0) 6 6)) := by
  refine fun sz => k_enter (cc := cX7_writes) (maxL := 2) (ret := none) (Qc := fun A => va_Qv (fun (u9 : SU) => (iR (u9.1 0) 6 6)) (fun u => k_B (dC, dI) vwCl (tyy cI cJ cZ cM) A ((fun (u9 : SU) => [(h, .inr (7, oM r (upd i 91 (u9.1 0)) j)), ((r 90), .inl (cI, 12, .inl (u9.2.2.1 0)))]) u)) A) sz (by decide +kernel) rfl (Nat.le_of_ble_eq_true rfl) (fun p e s m args below meth c A ls H locs B hP hD hS hl => ?_)
  obtain ⟨hx, hb, hml, hown, hts, hr, hlk, hnm, hK, hA, hN, hC⟩ := id B
  have hown : s.vm.findClass RX7 = some m.cls := hown
  have hl : lv_has ls 2 [(0, .ref h), (1, .int x1)] := hl
  have w_0 : (Cond.fieldLink RX7 285 "WishSeaModel" "out" "[I").before args s = true := hts _ (List.mem_of_getElem? (i := 1) rfl)
  have w_1 : (Cond.fieldLink RX7 288 "WishSeaModel" "outs" "I").before args s = true := hts _ (List.mem_of_getElem? (i := 2) rfl)
  have hinX7 : ∀ w ∈ u_ws RX7 TX7 92, w ∈ wsX7_writes := fun _ h => List.mem_cons_of_mem _ (List.mem_append_right _ h)
  refine lv_aload_n hx hb dX7_writes_0 rfl (lv_at hl 0 rfl) ?_
  refine k_get (D := (dC, dI)) (ci := 7) (v := .ref (r 90)) (C := RX7) (T := TX7) (N := 92) hx hb hts hinX7 hown hK hP 0 rfl rfl 90 (by decide) w_0 rfl rfl dX7_writes_1 ?_
  refine lv_aload_n hx hb dX7_writes_4 rfl (lv_at hl 0 rfl) ?_
  refine k_get (D := (dC, dI)) (ci := 7) (v := .int (i 91)) (C := RX7) (T := TX7) (N := 92) hx hb hts hinX7 hown hK hP 0 rfl rfl 91 (by decide) w_1 rfl rfl dX7_writes_5 ?_
  refine lv_iload_n hx hb dX7_writes_8 rfl (lv_at hl 1 rfl) ?_
  refine lv_sipush (v := 255) hx hb dX7_writes_9 (by decide +kernel) ?_
  refine lv_iand hx hb dX7_writes_12 ?_
  refine lv_topi (fun y_12 ey_12 => ?_)
  have f_12_1 : iR y_12 0 255 := iR_andR ey_12 (iR_c (n := 255) (a := 255) (b := 255) (by decide +kernel) (by decide +kernel)) (by decide +kernel)
  refine s_iast (g := (upd f90 (i 91).toNatClampNeg y_12)) (ws' := [(h, .inr (7, oM r i j)), ((r 90), .inl (cI, 12, .inl (upd f90 (i 91).toNatClampNeg y_12)))]) hx hb hK hP hD hS 1 0 rfl rfl (iR_vp hm91 (by decide +kernel)) rfl rfl dX7_writes_13 (fun H locs hP hD hS => ?_)
  refine lv_aload_n hx hb dX7_writes_14 rfl (lv_at hl 0 rfl) ?_
  refine lv_dup hx hb dX7_writes_15 rfl ?_
  refine k_get (D := (dC, dI)) (ci := 7) (v := .int (i 91)) (C := RX7) (T := TX7) (N := 92) hx hb hts hinX7 hown hK hP 0 rfl rfl 91 (by decide) w_1 rfl rfl dX7_writes_16 ?_
  refine lv_iconst (v := 1) hx hb dX7_writes_19 (by decide +kernel) ?_
  refine lv_iadd hx hb dX7_writes_20 ?_
  refine lv_topi (fun y_20 ey_20 => ?_)
  have f_20_2 : iR y_20 6 6 := iR_add ey_20 hm91 (iR_c (n := 1) (a := 1) (b := 1) (by decide +kernel) (by decide +kernel)) (by decide +kernel)
  refine k_put (D := (dC, dI)) (ci := 7) (v := .int y_20) (C := RX7) (T := TX7) (N := 92) (ws' := [(h, .inr (7, oM r (upd i 91 y_20) j)), ((r 90), .inl (cI, 12, .inl (upd f90 (i 91).toNatClampNeg y_12)))]) hx hb hts hinX7 tyX7 tyX7_ok nmX7 hown hK hP hD hS 0 rfl rfl 91 (by decide) w_1 rfl rfl rfl rfl (Nat.le_of_ble_eq_true rfl) rfl dX7_writes_21 (fun H locs hP hD hS => ?_)
  exact k_rv B hP hD hS dX7_writes_24 ((fun k9 => match k9 with | 0 => y_20 | _ => 0), (fun _ => 0), (fun k9 => match k9 with | 0 => (upd f90 (i 91).toNatClampNeg y_12) | _ => (fun _ => 0)), (fun _ => (fun _ => 0)), (fun _ => 0)) [0, 1] rfl rfl (Nat.le_of_ble_eq_true rfl) (Nat.le_of_ble_eq_true rfl) (show iR y_20 6 6 from f_20_2)
set_option maxHeartbeats 8000000 in
set_option maxRecDepth 100000 in
theorem s_X7_writes_v15 (l : Launch) (dC : Nat → ClassId) (dI : Nat → Nat → Nat) (cI cJ cZ cM : ClassId) (h : Nat) (r : Nat → Nat) (i : Nat → Int32) (j : Nat → Int64) (x1 : Int32) (f90 : Nat → Int32) (hm91 : iR (i 91) 6 6) (hI : mR i) : k_Mv l yX7_writes wsX7_writes ({ frames := 1, cells := 0, slots := 0, locals := 40 }) (dC, dI) vwCl (tyy cI cJ cZ cM) [(h, .inr (7, oM r i j)), ((r 90), .inl (cI, 12, .inl f90))] [.ref h, .int x1] 0 0 (fun (u9 : SU) => [(h, .inr (7, oM r (upd i 91 (u9.1 0)) j)), ((r 90), .inl (cI, 12, .inl (u9.2.2.1 0)))]) (fun (u9 : SU) => (iR (u9.1 0) 7 7)) := by
  refine fun sz => k_enter (cc := cX7_writes) (maxL := 2) (ret := none) (Qc := fun A => va_Qv (fun (u9 : SU) => (iR (u9.1 0) 7 7)) (fun u => k_B (dC, dI) vwCl (tyy cI cJ cZ cM) A ((fun (u9 : SU) => [(h, .inr (7, oM r (upd i 91 (u9.1 0)) j)), ((r 90), .inl (cI, 12, .inl (u9.2.2.1 0)))]) u)) A) sz (by decide +kernel) rfl (Nat.le_of_ble_eq_true rfl) (fun p e s m args below meth c A ls H locs B hP hD hS hl => ?_)
  obtain ⟨hx, hb, hml, hown, hts, hr, hlk, hnm, hK, hA, hN, hC⟩ := id B
  have hown : s.vm.findClass RX7 = some m.cls := hown
  have hl : lv_has ls 2 [(0, .ref h), (1, .int x1)] := hl
  have w_0 : (Cond.fieldLink RX7 285 "WishSeaModel" "out" "[I").before args s = true := hts _ (List.mem_of_getElem? (i := 1) rfl)
  have w_1 : (Cond.fieldLink RX7 288 "WishSeaModel" "outs" "I").before args s = true := hts _ (List.mem_of_getElem? (i := 2) rfl)
  have hinX7 : ∀ w ∈ u_ws RX7 TX7 92, w ∈ wsX7_writes := fun _ h => List.mem_cons_of_mem _ (List.mem_append_right _ h)
  refine lv_aload_n hx hb dX7_writes_0 rfl (lv_at hl 0 rfl) ?_
  refine k_get (D := (dC, dI)) (ci := 7) (v := .ref (r 90)) (C := RX7) (T := TX7) (N := 92) hx hb hts hinX7 hown hK hP 0 rfl rfl 90 (by decide) w_0 rfl rfl dX7_writes_1 ?_
  refine lv_aload_n hx hb dX7_writes_4 rfl (lv_at hl 0 rfl) ?_
  refine k_get (D := (dC, dI)) (ci := 7) (v := .int (i 91)) (C := RX7) (T := TX7) (N := 92) hx hb hts hinX7 hown hK hP 0 rfl rfl 91 (by decide) w_1 rfl rfl dX7_writes_5 ?_
  refine lv_iload_n hx hb dX7_writes_8 rfl (lv_at hl 1 rfl) ?_
  refine lv_sipush (v := 255) hx hb dX7_writes_9 (by decide +kernel) ?_
  refine lv_iand hx hb dX7_writes_12 ?_
  refine lv_topi (fun y_12 ey_12 => ?_)
  have f_12_1 : iR y_12 0 255 := iR_andR ey_12 (iR_c (n := 255) (a := 255) (b := 255) (by decide +kernel) (by decide +kernel)) (by decide +kernel)
  refine s_iast (g := (upd f90 (i 91).toNatClampNeg y_12)) (ws' := [(h, .inr (7, oM r i j)), ((r 90), .inl (cI, 12, .inl (upd f90 (i 91).toNatClampNeg y_12)))]) hx hb hK hP hD hS 1 0 rfl rfl (iR_vp hm91 (by decide +kernel)) rfl rfl dX7_writes_13 (fun H locs hP hD hS => ?_)
  refine lv_aload_n hx hb dX7_writes_14 rfl (lv_at hl 0 rfl) ?_
  refine lv_dup hx hb dX7_writes_15 rfl ?_
  refine k_get (D := (dC, dI)) (ci := 7) (v := .int (i 91)) (C := RX7) (T := TX7) (N := 92) hx hb hts hinX7 hown hK hP 0 rfl rfl 91 (by decide) w_1 rfl rfl dX7_writes_16 ?_
  refine lv_iconst (v := 1) hx hb dX7_writes_19 (by decide +kernel) ?_
  refine lv_iadd hx hb dX7_writes_20 ?_
  refine lv_topi (fun y_20 ey_20 => ?_)
  have f_20_2 : iR y_20 7 7 := iR_add ey_20 hm91 (iR_c (n := 1) (a := 1) (b := 1) (by decide +kernel) (by decide +kernel)) (by decide +kernel)
  refine k_put (D := (dC, dI)) (ci := 7) (v := .int y_20) (C := RX7) (T := TX7) (N := 92) (ws' := [(h, .inr (7, oM r (upd i 91 y_20) j)), ((r 90), .inl (cI, 12, .inl (upd f90 (i 91).toNatClampNeg y_12)))]) hx hb hts hinX7 tyX7 tyX7_ok nmX7 hown hK hP hD hS 0 rfl rfl 91 (by decide) w_1 rfl rfl rfl rfl (Nat.le_of_ble_eq_true rfl) rfl dX7_writes_21 (fun H locs hP hD hS => ?_)
  exact k_rv B hP hD hS dX7_writes_24 ((fun k9 => match k9 with | 0 => y_20 | _ => 0), (fun _ => 0), (fun k9 => match k9 with | 0 => (upd f90 (i 91).toNatClampNeg y_12) | _ => (fun _ => 0)), (fun _ => (fun _ => 0)), (fun _ => 0)) [0, 1] rfl rfl (Nat.le_of_ble_eq_true rfl) (Nat.le_of_ble_eq_true rfl) (show iR y_20 7 7 from f_20_2)
set_option maxHeartbeats 8000000 in
set_option maxRecDepth 100000 in
theorem s_X7_writes_v16 (l : Launch) (dC : Nat → ClassId) (dI : Nat → Nat → Nat) (cI cJ cZ cM : ClassId) (h : Nat) (r : Nat → Nat) (i : Nat → Int32) (j : Nat → Int64) (x1 : Int32) (f90 : Nat → Int32) (hm91 : iR (i 91) 7 7) (hI : mR i) : k_Mv l yX7_writes wsX7_writes ({ frames := 1, cells := 0, slots := 0, locals := 40 }) (dC, dI) vwCl (tyy cI cJ cZ cM) [(h, .inr (7, oM r i j)), ((r 90), .inl (cI, 12, .inl f90))] [.ref h, .int x1] 0 0 (fun (u9 : SU) => [(h, .inr (7, oM r (upd i 91 (u9.1 0)) j)), ((r 90), .inl (cI, 12, .inl (u9.2.2.1 0)))]) (fun (u9 : SU) => (iR (u9.1 0) 8 8)) := by
  refine fun sz => k_enter (cc := cX7_writes) (maxL := 2) (ret := none) (Qc := fun A => va_Qv (fun (u9 : SU) => (iR (u9.1 0) 8 8)) (fun u => k_B (dC, dI) vwCl (tyy cI cJ cZ cM) A ((fun (u9 : SU) => [(h, .inr (7, oM r (upd i 91 (u9.1 0)) j)), ((r 90), .inl (cI, 12, .inl (u9.2.2.1 0)))]) u)) A) sz (by decide +kernel) rfl (Nat.le_of_ble_eq_true rfl) (fun p e s m args below meth c A ls H locs B hP hD hS hl => ?_)
  obtain ⟨hx, hb, hml, hown, hts, hr, hlk, hnm, hK, hA, hN, hC⟩ := id B
  have hown : s.vm.findClass RX7 = some m.cls := hown
  have hl : lv_has ls 2 [(0, .ref h), (1, .int x1)] := hl
  have w_0 : (Cond.fieldLink RX7 285 "WishSeaModel" "out" "[I").before args s = true := hts _ (List.mem_of_getElem? (i := 1) rfl)
  have w_1 : (Cond.fieldLink RX7 288 "WishSeaModel" "outs" "I").before args s = true := hts _ (List.mem_of_getElem? (i := 2) rfl)
  have hinX7 : ∀ w ∈ u_ws RX7 TX7 92, w ∈ wsX7_writes := fun _ h => List.mem_cons_of_mem _ (List.mem_append_right _ h)
  refine lv_aload_n hx hb dX7_writes_0 rfl (lv_at hl 0 rfl) ?_
  refine k_get (D := (dC, dI)) (ci := 7) (v := .ref (r 90)) (C := RX7) (T := TX7) (N := 92) hx hb hts hinX7 hown hK hP 0 rfl rfl 90 (by decide) w_0 rfl rfl dX7_writes_1 ?_
  refine lv_aload_n hx hb dX7_writes_4 rfl (lv_at hl 0 rfl) ?_
  refine k_get (D := (dC, dI)) (ci := 7) (v := .int (i 91)) (C := RX7) (T := TX7) (N := 92) hx hb hts hinX7 hown hK hP 0 rfl rfl 91 (by decide) w_1 rfl rfl dX7_writes_5 ?_
  refine lv_iload_n hx hb dX7_writes_8 rfl (lv_at hl 1 rfl) ?_
  refine lv_sipush (v := 255) hx hb dX7_writes_9 (by decide +kernel) ?_
  refine lv_iand hx hb dX7_writes_12 ?_
  refine lv_topi (fun y_12 ey_12 => ?_)
  have f_12_1 : iR y_12 0 255 := iR_andR ey_12 (iR_c (n := 255) (a := 255) (b := 255) (by decide +kernel) (by decide +kernel)) (by decide +kernel)
  refine s_iast (g := (upd f90 (i 91).toNatClampNeg y_12)) (ws' := [(h, .inr (7, oM r i j)), ((r 90), .inl (cI, 12, .inl (upd f90 (i 91).toNatClampNeg y_12)))]) hx hb hK hP hD hS 1 0 rfl rfl (iR_vp hm91 (by decide +kernel)) rfl rfl dX7_writes_13 (fun H locs hP hD hS => ?_)
  refine lv_aload_n hx hb dX7_writes_14 rfl (lv_at hl 0 rfl) ?_
  refine lv_dup hx hb dX7_writes_15 rfl ?_
  refine k_get (D := (dC, dI)) (ci := 7) (v := .int (i 91)) (C := RX7) (T := TX7) (N := 92) hx hb hts hinX7 hown hK hP 0 rfl rfl 91 (by decide) w_1 rfl rfl dX7_writes_16 ?_
  refine lv_iconst (v := 1) hx hb dX7_writes_19 (by decide +kernel) ?_
  refine lv_iadd hx hb dX7_writes_20 ?_
  refine lv_topi (fun y_20 ey_20 => ?_)
  have f_20_2 : iR y_20 8 8 := iR_add ey_20 hm91 (iR_c (n := 1) (a := 1) (b := 1) (by decide +kernel) (by decide +kernel)) (by decide +kernel)
  refine k_put (D := (dC, dI)) (ci := 7) (v := .int y_20) (C := RX7) (T := TX7) (N := 92) (ws' := [(h, .inr (7, oM r (upd i 91 y_20) j)), ((r 90), .inl (cI, 12, .inl (upd f90 (i 91).toNatClampNeg y_12)))]) hx hb hts hinX7 tyX7 tyX7_ok nmX7 hown hK hP hD hS 0 rfl rfl 91 (by decide) w_1 rfl rfl rfl rfl (Nat.le_of_ble_eq_true rfl) rfl dX7_writes_21 (fun H locs hP hD hS => ?_)
  exact k_rv B hP hD hS dX7_writes_24 ((fun k9 => match k9 with | 0 => y_20 | _ => 0), (fun _ => 0), (fun k9 => match k9 with | 0 => (upd f90 (i 91).toNatClampNeg y_12) | _ => (fun _ => 0)), (fun _ => (fun _ => 0)), (fun _ => 0)) [0, 1] rfl rfl (Nat.le_of_ble_eq_true rfl) (Nat.le_of_ble_eq_true rfl) (show iR y_20 8 8 from f_20_2)
set_option maxHeartbeats 8000000 in
set_option maxRecDepth 100000 in
theorem s_X7_writes_v17 (l : Launch) (dC : Nat → ClassId) (dI : Nat → Nat → Nat) (cI cJ cZ cM : ClassId) (h : Nat) (r : Nat → Nat) (i : Nat → Int32) (j : Nat → Int64) (x1 : Int32) (f90 : Nat → Int32) (hm91 : iR (i 91) 8 8) (hI : mR i) : k_Mv l yX7_writes wsX7_writes ({ frames := 1, cells := 0, slots := 0, locals := 40 }) (dC, dI) vwCl (tyy cI cJ cZ cM) [(h, .inr (7, oM r i j)), ((r 90), .inl (cI, 12, .inl f90))] [.ref h, .int x1] 0 0 (fun (u9 : SU) => [(h, .inr (7, oM r (upd i 91 (u9.1 0)) j)), ((r 90), .inl (cI, 12, .inl (u9.2.2.1 0)))]) (fun (u9 : SU) => (iR (u9.1 0) 9 9)) := by
  refine fun sz => k_enter (cc := cX7_writes) (maxL := 2) (ret := none) (Qc := fun A => va_Qv (fun (u9 : SU) => (iR (u9.1 0) 9 9)) (fun u => k_B (dC, dI) vwCl (tyy cI cJ cZ cM) A ((fun (u9 : SU) => [(h, .inr (7, oM r (upd i 91 (u9.1 0)) j)), ((r 90), .inl (cI, 12, .inl (u9.2.2.1 0)))]) u)) A) sz (by decide +kernel) rfl (Nat.le_of_ble_eq_true rfl) (fun p e s m args below meth c A ls H locs B hP hD hS hl => ?_)
  obtain ⟨hx, hb, hml, hown, hts, hr, hlk, hnm, hK, hA, hN, hC⟩ := id B
  have hown : s.vm.findClass RX7 = some m.cls := hown
  have hl : lv_has ls 2 [(0, .ref h), (1, .int x1)] := hl
  have w_0 : (Cond.fieldLink RX7 285 "WishSeaModel" "out" "[I").before args s = true := hts _ (List.mem_of_getElem? (i := 1) rfl)
  have w_1 : (Cond.fieldLink RX7 288 "WishSeaModel" "outs" "I").before args s = true := hts _ (List.mem_of_getElem? (i := 2) rfl)
  have hinX7 : ∀ w ∈ u_ws RX7 TX7 92, w ∈ wsX7_writes := fun _ h => List.mem_cons_of_mem _ (List.mem_append_right _ h)
  refine lv_aload_n hx hb dX7_writes_0 rfl (lv_at hl 0 rfl) ?_
  refine k_get (D := (dC, dI)) (ci := 7) (v := .ref (r 90)) (C := RX7) (T := TX7) (N := 92) hx hb hts hinX7 hown hK hP 0 rfl rfl 90 (by decide) w_0 rfl rfl dX7_writes_1 ?_
  refine lv_aload_n hx hb dX7_writes_4 rfl (lv_at hl 0 rfl) ?_
  refine k_get (D := (dC, dI)) (ci := 7) (v := .int (i 91)) (C := RX7) (T := TX7) (N := 92) hx hb hts hinX7 hown hK hP 0 rfl rfl 91 (by decide) w_1 rfl rfl dX7_writes_5 ?_
  refine lv_iload_n hx hb dX7_writes_8 rfl (lv_at hl 1 rfl) ?_
  refine lv_sipush (v := 255) hx hb dX7_writes_9 (by decide +kernel) ?_
  refine lv_iand hx hb dX7_writes_12 ?_
  refine lv_topi (fun y_12 ey_12 => ?_)
  have f_12_1 : iR y_12 0 255 := iR_andR ey_12 (iR_c (n := 255) (a := 255) (b := 255) (by decide +kernel) (by decide +kernel)) (by decide +kernel)
  refine s_iast (g := (upd f90 (i 91).toNatClampNeg y_12)) (ws' := [(h, .inr (7, oM r i j)), ((r 90), .inl (cI, 12, .inl (upd f90 (i 91).toNatClampNeg y_12)))]) hx hb hK hP hD hS 1 0 rfl rfl (iR_vp hm91 (by decide +kernel)) rfl rfl dX7_writes_13 (fun H locs hP hD hS => ?_)
  refine lv_aload_n hx hb dX7_writes_14 rfl (lv_at hl 0 rfl) ?_
  refine lv_dup hx hb dX7_writes_15 rfl ?_
  refine k_get (D := (dC, dI)) (ci := 7) (v := .int (i 91)) (C := RX7) (T := TX7) (N := 92) hx hb hts hinX7 hown hK hP 0 rfl rfl 91 (by decide) w_1 rfl rfl dX7_writes_16 ?_
  refine lv_iconst (v := 1) hx hb dX7_writes_19 (by decide +kernel) ?_
  refine lv_iadd hx hb dX7_writes_20 ?_
  refine lv_topi (fun y_20 ey_20 => ?_)
  have f_20_2 : iR y_20 9 9 := iR_add ey_20 hm91 (iR_c (n := 1) (a := 1) (b := 1) (by decide +kernel) (by decide +kernel)) (by decide +kernel)
  refine k_put (D := (dC, dI)) (ci := 7) (v := .int y_20) (C := RX7) (T := TX7) (N := 92) (ws' := [(h, .inr (7, oM r (upd i 91 y_20) j)), ((r 90), .inl (cI, 12, .inl (upd f90 (i 91).toNatClampNeg y_12)))]) hx hb hts hinX7 tyX7 tyX7_ok nmX7 hown hK hP hD hS 0 rfl rfl 91 (by decide) w_1 rfl rfl rfl rfl (Nat.le_of_ble_eq_true rfl) rfl dX7_writes_21 (fun H locs hP hD hS => ?_)
  exact k_rv B hP hD hS dX7_writes_24 ((fun k9 => match k9 with | 0 => y_20 | _ => 0), (fun _ => 0), (fun k9 => match k9 with | 0 => (upd f90 (i 91).toNatClampNeg y_12) | _ => (fun _ => 0)), (fun _ => (fun _ => 0)), (fun _ => 0)) [0, 1] rfl rfl (Nat.le_of_ble_eq_true rfl) (Nat.le_of_ble_eq_true rfl) (show iR y_20 9 9 from f_20_2)
set_option maxHeartbeats 8000000 in
set_option maxRecDepth 100000 in
theorem s_X7_image_v0 (l : Launch) (dC : Nat → ClassId) (dI : Nat → Nat → Nat) (cI cJ cZ cM : ClassId) (h : Nat) (r : Nat → Nat) (i : Nat → Int32) (j : Nat → Int64) (f49 : Nat → Int32) (f50 : Nat → Int32) (f51 : Nat → Int32) (f52 : Nat → Int32) (f90 : Nat → Int32) (hI : mR i) (hf49 : aR f49 0 1023) (hf50 : aR f50 0 999) : k_Mi l yX7_image wsX7_image ({ frames := 2, cells := 0, slots := 0, locals := 61 }) (dC, dI) vwCl (tyy cI cJ cZ cM) [(h, .inr (7, oM r i j)), ((r 49), .inl (cI, 22, .inl f49)), ((r 50), .inl (cI, 22, .inl f50)), ((r 51), .inl (cI, 22, .inl f51)), ((r 52), .inl (cI, 22, .inl f52)), ((r 90), .inl (cI, 12, .inl f90))] [.ref h] 0 0 (fun (u9 : SU) => [(h, .inr (7, oM r (upd i 91 (u9.1 0)) j)), ((r 49), .inl (cI, 22, .inl f49)), ((r 50), .inl (cI, 22, .inl f50)), ((r 51), .inl (cI, 22, .inl f51)), ((r 52), .inl (cI, 22, .inl f52)), ((r 90), .inl (cI, 12, .inl (u9.2.2.1 0)))]) (fun (r9 : Int32) (u9 : SU) => (iR r9 9 9) ∧ (iR (u9.1 0) 9 9)) := by
  refine fun sz => k_enter (cc := cX7_image) (maxL := 3) (ret := some (.int)) (Qc := fun A => va_Qi (fun (r9 : Int32) (u9 : SU) => (iR r9 9 9) ∧ (iR (u9.1 0) 9 9)) (fun u => k_B (dC, dI) vwCl (tyy cI cJ cZ cM) A ((fun (u9 : SU) => [(h, .inr (7, oM r (upd i 91 (u9.1 0)) j)), ((r 49), .inl (cI, 22, .inl f49)), ((r 50), .inl (cI, 22, .inl f50)), ((r 51), .inl (cI, 22, .inl f51)), ((r 52), .inl (cI, 22, .inl f52)), ((r 90), .inl (cI, 12, .inl (u9.2.2.1 0)))]) u)) A) sz (by decide +kernel) rfl (Nat.le_of_ble_eq_true rfl) (fun p e s m args below meth c A ls H locs B hP hD hS hl => ?_)
  obtain ⟨hx, hb, hml, hown, hts, hr, hlk, hnm, hK, hA, hN, hC⟩ := id B
  have hown : s.vm.findClass RX7 = some m.cls := hown
  have hl : lv_has ls 3 [(0, .ref h)] := hl
  have w_0 : (Cond.fieldLink RX7 288 "WishSeaModel" "outs" "I").before args s = true := hts _ (List.mem_of_getElem? (i := 1) rfl)
  have w_1 : (Cond.fieldLink RX7 171 "WishSeaModel" "dayOf" "[I").before args s = true := hts _ (List.mem_of_getElem? (i := 2) rfl)
  have w_2 : (Cond.fieldLink RX7 168 "WishSeaModel" "saidOf" "[I").before args s = true := hts _ (List.mem_of_getElem? (i := 3) rfl)
  have w_3 : (Cond.fieldLink RX7 165 "WishSeaModel" "seaOf" "[I").before args s = true := hts _ (List.mem_of_getElem? (i := 4) rfl)
  have w_4 : (Cond.fieldLink RX7 162 "WishSeaModel" "hadOf" "[I").before args s = true := hts _ (List.mem_of_getElem? (i := 5) rfl)
  have w_5 : (Cond.fieldLink RX7 285 "WishSeaModel" "out" "[I").before args s = true := hts _ (List.mem_of_getElem? (i := 6) rfl)
  have hinX7 : ∀ w ∈ u_ws RX7 TX7 92, w ∈ wsX7_image := fun _ h => List.mem_cons_of_mem _ (List.mem_append_right _ h)
  refine lv_aload_n hx hb dX7_image_0 rfl (lv_at hl 0 rfl) ?_
  refine lv_iconst (v := 0) hx hb dX7_image_1 (by decide +kernel) ?_
  refine k_put (D := (dC, dI)) (ci := 7) (v := .int 0) (C := RX7) (T := TX7) (N := 92) (ws' := [(h, .inr (7, oM r (upd i 91 0) j)), ((r 49), .inl (cI, 22, .inl f49)), ((r 50), .inl (cI, 22, .inl f50)), ((r 51), .inl (cI, 22, .inl f51)), ((r 52), .inl (cI, 22, .inl f52)), ((r 90), .inl (cI, 12, .inl f90))]) hx hb hts hinX7 tyX7 tyX7_ok nmX7 hown hK hP hD hS 0 rfl rfl 91 (by decide) w_0 rfl rfl rfl rfl (Nat.le_of_ble_eq_true rfl) rfl dX7_image_2 (fun H locs hP hD hS => ?_)
  refine lv_aload_n hx hb dX7_image_5 rfl (lv_at hl 0 rfl) ?_
  refine lv_aload_n hx hb dX7_image_6 rfl (lv_at hl 0 rfl) ?_
  refine k_get (D := (dC, dI)) (ci := 7) (v := .ref (r 52)) (C := RX7) (T := TX7) (N := 92) hx hb hts hinX7 hown hK hP 0 rfl rfl 52 (by decide) w_1 rfl rfl dX7_image_7 ?_
  refine lv_iconst (v := 0) hx hb dX7_image_10 (by decide +kernel) ?_
  refine k_iald (v := (f52 0)) hx hb hK hP 4 0 0 rfl rfl rfl (Nat.le_of_ble_eq_true rfl) (Nat.le_of_ble_eq_true rfl) rfl dX7_image_11 ?_
  refine lv_bipush (v := 8) hx hb dX7_image_12 (by decide +kernel) ?_
  refine lv_ishr hx hb dX7_image_14 ?_
  refine lv_topi (fun y_14 ey_14 => ?_)
  refine k_cv (wc := [(h, .inr (7, oM r (upd i 91 0) j)), ((r 90), .inl (cI, 12, .inl f90))]) (wr := [((r 49), .inl (cI, 22, .inl f49)), ((r 50), .inl (cI, 22, .inl f50)), ((r 51), .inl (cI, 22, .inl f51)), ((r 52), .inl (cI, 22, .inl f52))]) (fun hPc hDc hFc => va_runV (As := [.int y_14]) (rest := []) ⟨hx, hb, hml, hown, hts⟩ (s_X7_writes_v9 l dC dI cI cJ cZ cM h r (upd i 91 0) j y_14 f90 (show iR 0 0 0 from (iR_c (n := 0) (a := 0) (b := 0) (by decide +kernel) (by decide +kernel))) (mR_upd 91 hI (show iR _ (loI 91) (hiI 91) from (iR_c (n := 0) (a := 0) (b := 9) (by decide +kernel) (by decide +kernel)))) H.size) (cwV 1 hts gX7_image_X7_writes rfl rfl rfl (by decide +kernel) ⟨(Nat.le_of_ble_eq_true rfl), (Nat.le_of_ble_eq_true rfl)⟩) (k_pV hPc hDc hK hN hC hS hFc hP (q0 := 0) (ci := 7) rfl rfl) rfl rfl hl.1 rfl (lv_room (Nat.le_of_ble_eq_true rfl)) dX7_image_15 ⟨(Nat.le_of_ble_eq_true rfl), (Nat.le_of_ble_eq_true rfl)⟩) hP hD hS hA [0, 5] [1, 2, 3, 4] rfl rfl rfl rfl (by decide) (fun _ => rfl) 0 0 rfl rfl (fun u_15 H locs hw hP hD hS => ?_)
  have g_15_0 := hw
  have hP : va_P (dC, dI) vwCl [((r 49), .inl (cI, 22, .inl f49)), ((r 50), .inl (cI, 22, .inl f50)), ((r 51), .inl (cI, 22, .inl f51)), ((r 52), .inl (cI, 22, .inl f52)), (h, .inr (7, oM r (upd i 91 (u_15.1 0)) j)), ((r 90), .inl (cI, 12, .inl (u_15.2.2.1 0)))] H := hP
  have hD : va_D A [((r 49), .inl (cI, 22, .inl f49)), ((r 50), .inl (cI, 22, .inl f50)), ((r 51), .inl (cI, 22, .inl f51)), ((r 52), .inl (cI, 22, .inl f52)), (h, .inr (7, oM r (upd i 91 (u_15.1 0)) j)), ((r 90), .inl (cI, 12, .inl (u_15.2.2.1 0)))] := hD
  refine lv_aload_n hx hb dX7_image_18 rfl (lv_at hl 0 rfl) ?_
  refine lv_aload_n hx hb dX7_image_19 rfl (lv_at hl 0 rfl) ?_
  refine k_get (D := (dC, dI)) (ci := 7) (v := .ref (r 52)) (C := RX7) (T := TX7) (N := 92) hx hb hts hinX7 hown hK hP 4 rfl rfl 52 (by decide) w_1 rfl rfl dX7_image_20 ?_
  refine lv_iconst (v := 0) hx hb dX7_image_23 (by decide +kernel) ?_
  refine k_iald (v := (f52 0)) hx hb hK hP 3 0 0 rfl rfl rfl (Nat.le_of_ble_eq_true rfl) (Nat.le_of_ble_eq_true rfl) rfl dX7_image_24 ?_
  refine k_cv (wc := [(h, .inr (7, oM r (upd i 91 (u_15.1 0)) j)), ((r 90), .inl (cI, 12, .inl (u_15.2.2.1 0)))]) (wr := [((r 49), .inl (cI, 22, .inl f49)), ((r 50), .inl (cI, 22, .inl f50)), ((r 51), .inl (cI, 22, .inl f51)), ((r 52), .inl (cI, 22, .inl f52))]) (fun hPc hDc hFc => va_runV (As := [.int (f52 0)]) (rest := []) ⟨hx, hb, hml, hown, hts⟩ (s_X7_writes_v10 l dC dI cI cJ cZ cM h r (upd i 91 (u_15.1 0)) j (f52 0) (u_15.2.2.1 0) (show iR (u_15.1 0) 1 1 from g_15_0) (mR_upd 91 hI (show iR _ (loI 91) (hiI 91) from (iR_w g_15_0 (by decide +kernel)))) H.size) (cwV 1 hts gX7_image_X7_writes rfl rfl rfl (by decide +kernel) ⟨(Nat.le_of_ble_eq_true rfl), (Nat.le_of_ble_eq_true rfl)⟩) (k_pV hPc hDc hK hN hC hS hFc hP (q0 := 4) (ci := 7) rfl rfl) rfl rfl hl.1 rfl (lv_room (Nat.le_of_ble_eq_true rfl)) dX7_image_25 ⟨(Nat.le_of_ble_eq_true rfl), (Nat.le_of_ble_eq_true rfl)⟩) hP hD hS hA [4, 5] [0, 1, 2, 3] rfl rfl rfl rfl (by decide) (fun _ => rfl) 0 0 rfl rfl (fun u_25 H locs hw hP hD hS => ?_)
  have g_25_0 := hw
  have hP : va_P (dC, dI) vwCl [((r 49), .inl (cI, 22, .inl f49)), ((r 50), .inl (cI, 22, .inl f50)), ((r 51), .inl (cI, 22, .inl f51)), ((r 52), .inl (cI, 22, .inl f52)), (h, .inr (7, oM r (upd i 91 (u_25.1 0)) j)), ((r 90), .inl (cI, 12, .inl (u_25.2.2.1 0)))] H := hP
  have hD : va_D A [((r 49), .inl (cI, 22, .inl f49)), ((r 50), .inl (cI, 22, .inl f50)), ((r 51), .inl (cI, 22, .inl f51)), ((r 52), .inl (cI, 22, .inl f52)), (h, .inr (7, oM r (upd i 91 (u_25.1 0)) j)), ((r 90), .inl (cI, 12, .inl (u_25.2.2.1 0)))] := hD
  refine lv_aload_n hx hb dX7_image_28 rfl (lv_at hl 0 rfl) ?_
  refine lv_aload_n hx hb dX7_image_29 rfl (lv_at hl 0 rfl) ?_
  refine k_get (D := (dC, dI)) (ci := 7) (v := .ref (r 51)) (C := RX7) (T := TX7) (N := 92) hx hb hts hinX7 hown hK hP 4 rfl rfl 51 (by decide) w_2 rfl rfl dX7_image_30 ?_
  refine lv_iconst (v := 0) hx hb dX7_image_33 (by decide +kernel) ?_
  refine k_iald (v := (f51 0)) hx hb hK hP 2 0 0 rfl rfl rfl (Nat.le_of_ble_eq_true rfl) (Nat.le_of_ble_eq_true rfl) rfl dX7_image_34 ?_
  refine lv_bipush (v := 8) hx hb dX7_image_35 (by decide +kernel) ?_
  refine lv_ishr hx hb dX7_image_37 ?_
  refine lv_topi (fun y_37 ey_37 => ?_)
  refine k_cv (wc := [(h, .inr (7, oM r (upd i 91 (u_25.1 0)) j)), ((r 90), .inl (cI, 12, .inl (u_25.2.2.1 0)))]) (wr := [((r 49), .inl (cI, 22, .inl f49)), ((r 50), .inl (cI, 22, .inl f50)), ((r 51), .inl (cI, 22, .inl f51)), ((r 52), .inl (cI, 22, .inl f52))]) (fun hPc hDc hFc => va_runV (As := [.int y_37]) (rest := []) ⟨hx, hb, hml, hown, hts⟩ (s_X7_writes_v11 l dC dI cI cJ cZ cM h r (upd i 91 (u_25.1 0)) j y_37 (u_25.2.2.1 0) (show iR (u_25.1 0) 2 2 from g_25_0) (mR_upd 91 hI (show iR _ (loI 91) (hiI 91) from (iR_w g_25_0 (by decide +kernel)))) H.size) (cwV 1 hts gX7_image_X7_writes rfl rfl rfl (by decide +kernel) ⟨(Nat.le_of_ble_eq_true rfl), (Nat.le_of_ble_eq_true rfl)⟩) (k_pV hPc hDc hK hN hC hS hFc hP (q0 := 4) (ci := 7) rfl rfl) rfl rfl hl.1 rfl (lv_room (Nat.le_of_ble_eq_true rfl)) dX7_image_38 ⟨(Nat.le_of_ble_eq_true rfl), (Nat.le_of_ble_eq_true rfl)⟩) hP hD hS hA [4, 5] [0, 1, 2, 3] rfl rfl rfl rfl (by decide) (fun _ => rfl) 0 0 rfl rfl (fun u_38 H locs hw hP hD hS => ?_)
  have g_38_0 := hw
  have hP : va_P (dC, dI) vwCl [((r 49), .inl (cI, 22, .inl f49)), ((r 50), .inl (cI, 22, .inl f50)), ((r 51), .inl (cI, 22, .inl f51)), ((r 52), .inl (cI, 22, .inl f52)), (h, .inr (7, oM r (upd i 91 (u_38.1 0)) j)), ((r 90), .inl (cI, 12, .inl (u_38.2.2.1 0)))] H := hP
  have hD : va_D A [((r 49), .inl (cI, 22, .inl f49)), ((r 50), .inl (cI, 22, .inl f50)), ((r 51), .inl (cI, 22, .inl f51)), ((r 52), .inl (cI, 22, .inl f52)), (h, .inr (7, oM r (upd i 91 (u_38.1 0)) j)), ((r 90), .inl (cI, 12, .inl (u_38.2.2.1 0)))] := hD
  refine lv_aload_n hx hb dX7_image_41 rfl (lv_at hl 0 rfl) ?_
  refine lv_aload_n hx hb dX7_image_42 rfl (lv_at hl 0 rfl) ?_
  refine k_get (D := (dC, dI)) (ci := 7) (v := .ref (r 51)) (C := RX7) (T := TX7) (N := 92) hx hb hts hinX7 hown hK hP 4 rfl rfl 51 (by decide) w_2 rfl rfl dX7_image_43 ?_
  refine lv_iconst (v := 0) hx hb dX7_image_46 (by decide +kernel) ?_
  refine k_iald (v := (f51 0)) hx hb hK hP 2 0 0 rfl rfl rfl (Nat.le_of_ble_eq_true rfl) (Nat.le_of_ble_eq_true rfl) rfl dX7_image_47 ?_
  refine k_cv (wc := [(h, .inr (7, oM r (upd i 91 (u_38.1 0)) j)), ((r 90), .inl (cI, 12, .inl (u_38.2.2.1 0)))]) (wr := [((r 49), .inl (cI, 22, .inl f49)), ((r 50), .inl (cI, 22, .inl f50)), ((r 51), .inl (cI, 22, .inl f51)), ((r 52), .inl (cI, 22, .inl f52))]) (fun hPc hDc hFc => va_runV (As := [.int (f51 0)]) (rest := []) ⟨hx, hb, hml, hown, hts⟩ (s_X7_writes_v12 l dC dI cI cJ cZ cM h r (upd i 91 (u_38.1 0)) j (f51 0) (u_38.2.2.1 0) (show iR (u_38.1 0) 3 3 from g_38_0) (mR_upd 91 hI (show iR _ (loI 91) (hiI 91) from (iR_w g_38_0 (by decide +kernel)))) H.size) (cwV 1 hts gX7_image_X7_writes rfl rfl rfl (by decide +kernel) ⟨(Nat.le_of_ble_eq_true rfl), (Nat.le_of_ble_eq_true rfl)⟩) (k_pV hPc hDc hK hN hC hS hFc hP (q0 := 4) (ci := 7) rfl rfl) rfl rfl hl.1 rfl (lv_room (Nat.le_of_ble_eq_true rfl)) dX7_image_48 ⟨(Nat.le_of_ble_eq_true rfl), (Nat.le_of_ble_eq_true rfl)⟩) hP hD hS hA [4, 5] [0, 1, 2, 3] rfl rfl rfl rfl (by decide) (fun _ => rfl) 0 0 rfl rfl (fun u_48 H locs hw hP hD hS => ?_)
  have g_48_0 := hw
  have hP : va_P (dC, dI) vwCl [((r 49), .inl (cI, 22, .inl f49)), ((r 50), .inl (cI, 22, .inl f50)), ((r 51), .inl (cI, 22, .inl f51)), ((r 52), .inl (cI, 22, .inl f52)), (h, .inr (7, oM r (upd i 91 (u_48.1 0)) j)), ((r 90), .inl (cI, 12, .inl (u_48.2.2.1 0)))] H := hP
  have hD : va_D A [((r 49), .inl (cI, 22, .inl f49)), ((r 50), .inl (cI, 22, .inl f50)), ((r 51), .inl (cI, 22, .inl f51)), ((r 52), .inl (cI, 22, .inl f52)), (h, .inr (7, oM r (upd i 91 (u_48.1 0)) j)), ((r 90), .inl (cI, 12, .inl (u_48.2.2.1 0)))] := hD
  refine lv_aload_n hx hb dX7_image_51 rfl (lv_at hl 0 rfl) ?_
  refine lv_aload_n hx hb dX7_image_52 rfl (lv_at hl 0 rfl) ?_
  refine k_get (D := (dC, dI)) (ci := 7) (v := .ref (r 50)) (C := RX7) (T := TX7) (N := 92) hx hb hts hinX7 hown hK hP 4 rfl rfl 50 (by decide) w_3 rfl rfl dX7_image_53 ?_
  refine lv_iconst (v := 0) hx hb dX7_image_56 (by decide +kernel) ?_
  refine k_iald (v := (f50 0)) hx hb hK hP 1 0 0 rfl rfl rfl (Nat.le_of_ble_eq_true rfl) (Nat.le_of_ble_eq_true rfl) rfl dX7_image_57 ?_
  have f_57_1 : iR (f50 0) 0 999 := hf50 _
  refine lv_bipush (v := 8) hx hb dX7_image_58 (by decide +kernel) ?_
  refine lv_ishr hx hb dX7_image_60 ?_
  refine lv_topi (fun y_60 ey_60 => ?_)
  have f_60_2 : iR y_60 0 3 := iR_shr 8 ey_60 f_57_1 (iR_c (n := 8) (a := 8) (b := 8) (by decide +kernel) (by decide +kernel)) (by decide +kernel)
  refine k_cv (wc := [(h, .inr (7, oM r (upd i 91 (u_48.1 0)) j)), ((r 90), .inl (cI, 12, .inl (u_48.2.2.1 0)))]) (wr := [((r 49), .inl (cI, 22, .inl f49)), ((r 50), .inl (cI, 22, .inl f50)), ((r 51), .inl (cI, 22, .inl f51)), ((r 52), .inl (cI, 22, .inl f52))]) (fun hPc hDc hFc => va_runV (As := [.int y_60]) (rest := []) ⟨hx, hb, hml, hown, hts⟩ (s_X7_writes_v13 l dC dI cI cJ cZ cM h r (upd i 91 (u_48.1 0)) j y_60 (u_48.2.2.1 0) (show iR (u_48.1 0) 4 4 from g_48_0) (mR_upd 91 hI (show iR _ (loI 91) (hiI 91) from (iR_w g_48_0 (by decide +kernel)))) H.size) (cwV 1 hts gX7_image_X7_writes rfl rfl rfl (by decide +kernel) ⟨(Nat.le_of_ble_eq_true rfl), (Nat.le_of_ble_eq_true rfl)⟩) (k_pV hPc hDc hK hN hC hS hFc hP (q0 := 4) (ci := 7) rfl rfl) rfl rfl hl.1 rfl (lv_room (Nat.le_of_ble_eq_true rfl)) dX7_image_61 ⟨(Nat.le_of_ble_eq_true rfl), (Nat.le_of_ble_eq_true rfl)⟩) hP hD hS hA [4, 5] [0, 1, 2, 3] rfl rfl rfl rfl (by decide) (fun _ => rfl) 0 0 rfl rfl (fun u_61 H locs hw hP hD hS => ?_)
  have g_61_0 := hw
  have hP : va_P (dC, dI) vwCl [((r 49), .inl (cI, 22, .inl f49)), ((r 50), .inl (cI, 22, .inl f50)), ((r 51), .inl (cI, 22, .inl f51)), ((r 52), .inl (cI, 22, .inl f52)), (h, .inr (7, oM r (upd i 91 (u_61.1 0)) j)), ((r 90), .inl (cI, 12, .inl (u_61.2.2.1 0)))] H := hP
  have hD : va_D A [((r 49), .inl (cI, 22, .inl f49)), ((r 50), .inl (cI, 22, .inl f50)), ((r 51), .inl (cI, 22, .inl f51)), ((r 52), .inl (cI, 22, .inl f52)), (h, .inr (7, oM r (upd i 91 (u_61.1 0)) j)), ((r 90), .inl (cI, 12, .inl (u_61.2.2.1 0)))] := hD
  refine lv_aload_n hx hb dX7_image_64 rfl (lv_at hl 0 rfl) ?_
  refine lv_aload_n hx hb dX7_image_65 rfl (lv_at hl 0 rfl) ?_
  refine k_get (D := (dC, dI)) (ci := 7) (v := .ref (r 50)) (C := RX7) (T := TX7) (N := 92) hx hb hts hinX7 hown hK hP 4 rfl rfl 50 (by decide) w_3 rfl rfl dX7_image_66 ?_
  refine lv_iconst (v := 0) hx hb dX7_image_69 (by decide +kernel) ?_
  refine k_iald (v := (f50 0)) hx hb hK hP 1 0 0 rfl rfl rfl (Nat.le_of_ble_eq_true rfl) (Nat.le_of_ble_eq_true rfl) rfl dX7_image_70 ?_
  refine k_cv (wc := [(h, .inr (7, oM r (upd i 91 (u_61.1 0)) j)), ((r 90), .inl (cI, 12, .inl (u_61.2.2.1 0)))]) (wr := [((r 49), .inl (cI, 22, .inl f49)), ((r 50), .inl (cI, 22, .inl f50)), ((r 51), .inl (cI, 22, .inl f51)), ((r 52), .inl (cI, 22, .inl f52))]) (fun hPc hDc hFc => va_runV (As := [.int (f50 0)]) (rest := []) ⟨hx, hb, hml, hown, hts⟩ (s_X7_writes_v14 l dC dI cI cJ cZ cM h r (upd i 91 (u_61.1 0)) j (f50 0) (u_61.2.2.1 0) (show iR (u_61.1 0) 5 5 from g_61_0) (mR_upd 91 hI (show iR _ (loI 91) (hiI 91) from (iR_w g_61_0 (by decide +kernel)))) H.size) (cwV 1 hts gX7_image_X7_writes rfl rfl rfl (by decide +kernel) ⟨(Nat.le_of_ble_eq_true rfl), (Nat.le_of_ble_eq_true rfl)⟩) (k_pV hPc hDc hK hN hC hS hFc hP (q0 := 4) (ci := 7) rfl rfl) rfl rfl hl.1 rfl (lv_room (Nat.le_of_ble_eq_true rfl)) dX7_image_71 ⟨(Nat.le_of_ble_eq_true rfl), (Nat.le_of_ble_eq_true rfl)⟩) hP hD hS hA [4, 5] [0, 1, 2, 3] rfl rfl rfl rfl (by decide) (fun _ => rfl) 0 0 rfl rfl (fun u_71 H locs hw hP hD hS => ?_)
  have g_71_0 := hw
  have hP : va_P (dC, dI) vwCl [((r 49), .inl (cI, 22, .inl f49)), ((r 50), .inl (cI, 22, .inl f50)), ((r 51), .inl (cI, 22, .inl f51)), ((r 52), .inl (cI, 22, .inl f52)), (h, .inr (7, oM r (upd i 91 (u_71.1 0)) j)), ((r 90), .inl (cI, 12, .inl (u_71.2.2.1 0)))] H := hP
  have hD : va_D A [((r 49), .inl (cI, 22, .inl f49)), ((r 50), .inl (cI, 22, .inl f50)), ((r 51), .inl (cI, 22, .inl f51)), ((r 52), .inl (cI, 22, .inl f52)), (h, .inr (7, oM r (upd i 91 (u_71.1 0)) j)), ((r 90), .inl (cI, 12, .inl (u_71.2.2.1 0)))] := hD
  refine lv_aload_n hx hb dX7_image_74 rfl (lv_at hl 0 rfl) ?_
  refine lv_aload_n hx hb dX7_image_75 rfl (lv_at hl 0 rfl) ?_
  refine k_get (D := (dC, dI)) (ci := 7) (v := .ref (r 49)) (C := RX7) (T := TX7) (N := 92) hx hb hts hinX7 hown hK hP 4 rfl rfl 49 (by decide) w_4 rfl rfl dX7_image_76 ?_
  refine lv_iconst (v := 0) hx hb dX7_image_79 (by decide +kernel) ?_
  refine k_iald (v := (f49 0)) hx hb hK hP 0 0 0 rfl rfl rfl (Nat.le_of_ble_eq_true rfl) (Nat.le_of_ble_eq_true rfl) rfl dX7_image_80 ?_
  have f_80_3 : iR (f49 0) 0 1023 := hf49 _
  refine lv_bipush (v := 8) hx hb dX7_image_81 (by decide +kernel) ?_
  refine lv_ishr hx hb dX7_image_83 ?_
  refine lv_topi (fun y_83 ey_83 => ?_)
  have f_83_4 : iR y_83 0 3 := iR_shr 8 ey_83 f_80_3 (iR_c (n := 8) (a := 8) (b := 8) (by decide +kernel) (by decide +kernel)) (by decide +kernel)
  refine k_cv (wc := [(h, .inr (7, oM r (upd i 91 (u_71.1 0)) j)), ((r 90), .inl (cI, 12, .inl (u_71.2.2.1 0)))]) (wr := [((r 49), .inl (cI, 22, .inl f49)), ((r 50), .inl (cI, 22, .inl f50)), ((r 51), .inl (cI, 22, .inl f51)), ((r 52), .inl (cI, 22, .inl f52))]) (fun hPc hDc hFc => va_runV (As := [.int y_83]) (rest := []) ⟨hx, hb, hml, hown, hts⟩ (s_X7_writes_v15 l dC dI cI cJ cZ cM h r (upd i 91 (u_71.1 0)) j y_83 (u_71.2.2.1 0) (show iR (u_71.1 0) 6 6 from g_71_0) (mR_upd 91 hI (show iR _ (loI 91) (hiI 91) from (iR_w g_71_0 (by decide +kernel)))) H.size) (cwV 1 hts gX7_image_X7_writes rfl rfl rfl (by decide +kernel) ⟨(Nat.le_of_ble_eq_true rfl), (Nat.le_of_ble_eq_true rfl)⟩) (k_pV hPc hDc hK hN hC hS hFc hP (q0 := 4) (ci := 7) rfl rfl) rfl rfl hl.1 rfl (lv_room (Nat.le_of_ble_eq_true rfl)) dX7_image_84 ⟨(Nat.le_of_ble_eq_true rfl), (Nat.le_of_ble_eq_true rfl)⟩) hP hD hS hA [4, 5] [0, 1, 2, 3] rfl rfl rfl rfl (by decide) (fun _ => rfl) 0 0 rfl rfl (fun u_84 H locs hw hP hD hS => ?_)
  have g_84_0 := hw
  have hP : va_P (dC, dI) vwCl [((r 49), .inl (cI, 22, .inl f49)), ((r 50), .inl (cI, 22, .inl f50)), ((r 51), .inl (cI, 22, .inl f51)), ((r 52), .inl (cI, 22, .inl f52)), (h, .inr (7, oM r (upd i 91 (u_84.1 0)) j)), ((r 90), .inl (cI, 12, .inl (u_84.2.2.1 0)))] H := hP
  have hD : va_D A [((r 49), .inl (cI, 22, .inl f49)), ((r 50), .inl (cI, 22, .inl f50)), ((r 51), .inl (cI, 22, .inl f51)), ((r 52), .inl (cI, 22, .inl f52)), (h, .inr (7, oM r (upd i 91 (u_84.1 0)) j)), ((r 90), .inl (cI, 12, .inl (u_84.2.2.1 0)))] := hD
  refine lv_aload_n hx hb dX7_image_87 rfl (lv_at hl 0 rfl) ?_
  refine lv_aload_n hx hb dX7_image_88 rfl (lv_at hl 0 rfl) ?_
  refine k_get (D := (dC, dI)) (ci := 7) (v := .ref (r 49)) (C := RX7) (T := TX7) (N := 92) hx hb hts hinX7 hown hK hP 4 rfl rfl 49 (by decide) w_4 rfl rfl dX7_image_89 ?_
  refine lv_iconst (v := 0) hx hb dX7_image_92 (by decide +kernel) ?_
  refine k_iald (v := (f49 0)) hx hb hK hP 0 0 0 rfl rfl rfl (Nat.le_of_ble_eq_true rfl) (Nat.le_of_ble_eq_true rfl) rfl dX7_image_93 ?_
  refine k_cv (wc := [(h, .inr (7, oM r (upd i 91 (u_84.1 0)) j)), ((r 90), .inl (cI, 12, .inl (u_84.2.2.1 0)))]) (wr := [((r 49), .inl (cI, 22, .inl f49)), ((r 50), .inl (cI, 22, .inl f50)), ((r 51), .inl (cI, 22, .inl f51)), ((r 52), .inl (cI, 22, .inl f52))]) (fun hPc hDc hFc => va_runV (As := [.int (f49 0)]) (rest := []) ⟨hx, hb, hml, hown, hts⟩ (s_X7_writes_v16 l dC dI cI cJ cZ cM h r (upd i 91 (u_84.1 0)) j (f49 0) (u_84.2.2.1 0) (show iR (u_84.1 0) 7 7 from g_84_0) (mR_upd 91 hI (show iR _ (loI 91) (hiI 91) from (iR_w g_84_0 (by decide +kernel)))) H.size) (cwV 1 hts gX7_image_X7_writes rfl rfl rfl (by decide +kernel) ⟨(Nat.le_of_ble_eq_true rfl), (Nat.le_of_ble_eq_true rfl)⟩) (k_pV hPc hDc hK hN hC hS hFc hP (q0 := 4) (ci := 7) rfl rfl) rfl rfl hl.1 rfl (lv_room (Nat.le_of_ble_eq_true rfl)) dX7_image_94 ⟨(Nat.le_of_ble_eq_true rfl), (Nat.le_of_ble_eq_true rfl)⟩) hP hD hS hA [4, 5] [0, 1, 2, 3] rfl rfl rfl rfl (by decide) (fun _ => rfl) 0 0 rfl rfl (fun u_94 H locs hw hP hD hS => ?_)
  have g_94_0 := hw
  have hP : va_P (dC, dI) vwCl [((r 49), .inl (cI, 22, .inl f49)), ((r 50), .inl (cI, 22, .inl f50)), ((r 51), .inl (cI, 22, .inl f51)), ((r 52), .inl (cI, 22, .inl f52)), (h, .inr (7, oM r (upd i 91 (u_94.1 0)) j)), ((r 90), .inl (cI, 12, .inl (u_94.2.2.1 0)))] H := hP
  have hD : va_D A [((r 49), .inl (cI, 22, .inl f49)), ((r 50), .inl (cI, 22, .inl f50)), ((r 51), .inl (cI, 22, .inl f51)), ((r 52), .inl (cI, 22, .inl f52)), (h, .inr (7, oM r (upd i 91 (u_94.1 0)) j)), ((r 90), .inl (cI, 12, .inl (u_94.2.2.1 0)))] := hD
  refine lv_bipush (v := 97) hx hb dX7_image_97 (by decide +kernel) ?_
  refine lv_istore_n (lv' := [(1, .int 97), (0, .ref h)]) hx hb dX7_image_99 rfl hl (by decide) rfl (fun ls hl => ?_)
  refine lv_iconst (v := 0) hx hb dX7_image_100 (by decide +kernel) ?_
  have J_102 : ∀ (n_102 : Nat) (j102_L1 : Int32) (j102_L2 : Int32) (hj102_L2 : iR j102_L2 0 8) (hm_102 : (8 - j102_L2.toInt).toNat < n_102) (H : Heap) (locs : List Loc) (ls : Array Slot), va_P (dC, dI) vwCl [(h, .inr (7, oM r (upd i 91 (u_94.1 0)) j)), ((r 49), .inl (cI, 22, .inl f49)), ((r 50), .inl (cI, 22, .inl f50)), ((r 51), .inl (cI, 22, .inl f51)), ((r 52), .inl (cI, 22, .inl f52)), ((r 90), .inl (cI, 12, .inl (u_94.2.2.1 0)))] H → va_D A [(h, .inr (7, oM r (upd i 91 (u_94.1 0)) j)), ((r 49), .inl (cI, 22, .inl f49)), ((r 50), .inl (cI, 22, .inl f50)), ((r 51), .inl (cI, 22, .inl f51)), ((r 52), .inl (cI, 22, .inl f52)), ((r 90), .inl (cI, 12, .inl (u_94.2.2.1 0)))] → va_S A s.heap H locs → lv_has ls 3 [(0, .ref h), (1, .int j102_L1), (2, .int j102_L2)] → W p l e ({ frames := 2, cells := 0, slots := 0, locals := 61 }) s m args below meth c H locs 0 0 (MQ below (va_Qi (fun (r9 : Int32) (u9 : SU) => (iR r9 9 9) ∧ (iR (u9.1 0) 9 9)) (fun u => k_B (dC, dI) vwCl (tyy cI cJ cZ cM) A ((fun (u9 : SU) => [(h, .inr (7, oM r (upd i 91 (u9.1 0)) j)), ((r 49), .inl (cI, 22, .inl f49)), ((r 50), .inl (cI, 22, .inl f50)), ((r 51), .inl (cI, 22, .inl f51)), ((r 52), .inl (cI, 22, .inl f52)), ((r 90), .inl (cI, 12, .inl (u9.2.2.1 0)))]) u)) A) args s 0 0 A) (F0 m 102 ls []) := by
    intro n_102
    induction n_102 with
    | zero => intro j102_L1 j102_L2 hj102_L2 hm_102; exact absurd hm_102 (Nat.not_lt_zero _)
    | succ n_102 ih_102 =>
      intro j102_L1 j102_L2 hj102_L2 hm_102 H locs ls hP hD hS hl
      refine lv_iload_n hx hb dX7_image_102 rfl (lv_at hl 2 rfl) ?_
      refine lv_aload_n hx hb dX7_image_103 rfl (lv_at hl 0 rfl) ?_
      refine k_get (D := (dC, dI)) (ci := 7) (v := .int (u_94.1 0)) (C := RX7) (T := TX7) (N := 92) hx hb hts hinX7 hown hK hP 0 rfl rfl 91 (by decide) w_0 rfl rfl dX7_image_104 ?_
      refine lv_icmp_ge (tgt := 131) hx hb dX7_image_107 (by decide) (fun c_107 => ?_) (fun c_107 => ?_)
      · have c_107 : (u_94.1 0) ≤ j102_L2 := c_107
        have f_131_1 : iR j102_L2 8 8 := iR_leR c_107 g_94_0 hj102_L2 (by decide +kernel)
        refine lv_aload_n hx hb dX7_image_131 rfl (lv_at hl 0 rfl) ?_
        refine lv_iload_n hx hb dX7_image_132 rfl (lv_at hl 1 rfl) ?_
        refine k_cv (wc := [(h, .inr (7, oM r (upd i 91 (u_94.1 0)) j)), ((r 90), .inl (cI, 12, .inl (u_94.2.2.1 0)))]) (wr := [((r 49), .inl (cI, 22, .inl f49)), ((r 50), .inl (cI, 22, .inl f50)), ((r 51), .inl (cI, 22, .inl f51)), ((r 52), .inl (cI, 22, .inl f52))]) (fun hPc hDc hFc => va_runV (As := [.int j102_L1]) (rest := []) ⟨hx, hb, hml, hown, hts⟩ (s_X7_writes_v17 l dC dI cI cJ cZ cM h r (upd i 91 (u_94.1 0)) j j102_L1 (u_94.2.2.1 0) (show iR (u_94.1 0) 8 8 from g_94_0) (mR_upd 91 hI (show iR _ (loI 91) (hiI 91) from (iR_w g_94_0 (by decide +kernel)))) H.size) (cwV 1 hts gX7_image_X7_writes rfl rfl rfl (by decide +kernel) ⟨(Nat.le_of_ble_eq_true rfl), (Nat.le_of_ble_eq_true rfl)⟩) (k_pV hPc hDc hK hN hC hS hFc hP (q0 := 0) (ci := 7) rfl rfl) rfl rfl hl.1 rfl (lv_room (Nat.le_of_ble_eq_true rfl)) dX7_image_133 ⟨(Nat.le_of_ble_eq_true rfl), (Nat.le_of_ble_eq_true rfl)⟩) hP hD hS hA [0, 5] [1, 2, 3, 4] rfl rfl rfl rfl (by decide) (fun _ => rfl) 0 0 rfl rfl (fun u_133 H locs hw hP hD hS => ?_)
        have g_133_0 := hw
        have hP : va_P (dC, dI) vwCl [((r 49), .inl (cI, 22, .inl f49)), ((r 50), .inl (cI, 22, .inl f50)), ((r 51), .inl (cI, 22, .inl f51)), ((r 52), .inl (cI, 22, .inl f52)), (h, .inr (7, oM r (upd i 91 (u_133.1 0)) j)), ((r 90), .inl (cI, 12, .inl (u_133.2.2.1 0)))] H := hP
        have hD : va_D A [((r 49), .inl (cI, 22, .inl f49)), ((r 50), .inl (cI, 22, .inl f50)), ((r 51), .inl (cI, 22, .inl f51)), ((r 52), .inl (cI, 22, .inl f52)), (h, .inr (7, oM r (upd i 91 (u_133.1 0)) j)), ((r 90), .inl (cI, 12, .inl (u_133.2.2.1 0)))] := hD
        refine lv_aload_n hx hb dX7_image_136 rfl (lv_at hl 0 rfl) ?_
        refine k_get (D := (dC, dI)) (ci := 7) (v := .int (u_133.1 0)) (C := RX7) (T := TX7) (N := 92) hx hb hts hinX7 hown hK hP 4 rfl rfl 91 (by decide) w_0 rfl rfl dX7_image_137 ?_
        exact k_ri B hP hD hS dX7_image_140 ((fun k9 => match k9 with | 0 => (u_133.1 0) | _ => 0), (fun _ => 0), (fun k9 => match k9 with | 0 => (u_133.2.2.1 0) | _ => (fun _ => 0)), (fun _ => (fun _ => 0)), (fun _ => 0)) [4, 0, 1, 2, 3, 5] rfl rfl rfl (Nat.le_of_ble_eq_true rfl) (Nat.le_of_ble_eq_true rfl) ⟨(show iR (u_133.1 0) 9 9 from g_133_0), (show iR (u_133.1 0) 9 9 from g_133_0)⟩
      · have c_107 : j102_L2 < (u_94.1 0) := i_nle c_107
        have f_110_1 : iR j102_L2 0 7 := iR_ltL c_107 hj102_L2 g_94_0 (by decide +kernel)
        refine lv_iconst (v := 5) hx hb dX7_image_110 (by decide +kernel) ?_
        refine lv_iload_n hx hb dX7_image_111 rfl (lv_at hl 1 rfl) ?_
        refine lv_imul hx hb dX7_image_112 ?_
        refine lv_topi (fun y_112 ey_112 => ?_)
        refine lv_aload_n hx hb dX7_image_113 rfl (lv_at hl 0 rfl) ?_
        refine k_get (D := (dC, dI)) (ci := 7) (v := .ref (r 90)) (C := RX7) (T := TX7) (N := 92) hx hb hts hinX7 hown hK hP 0 rfl rfl 90 (by decide) w_5 rfl rfl dX7_image_114 ?_
        refine lv_iload_n hx hb dX7_image_117 rfl (lv_at hl 2 rfl) ?_
        refine va_iald hx hb hK hP 5 0 rfl rfl (iR_vp f_110_1 (by decide +kernel)) dX7_image_118 ?_
        refine lv_iadd hx hb dX7_image_119 ?_
        refine lv_topi (fun y_119 ey_119 => ?_)
        refine lv_sipush (v := 251) hx hb dX7_image_120 (by decide +kernel) ?_
        refine lv_irem hx hb dX7_image_123 (i_nz (iR_c (n := 251) (a := 251) (b := 251) (by decide +kernel) (by decide +kernel)) (by decide +kernel)) ?_
        refine lv_topi (fun y_123 ey_123 => ?_)
        refine lv_istore_n (lv' := [(1, .int y_123), (0, .ref h), (2, .int j102_L2)]) hx hb dX7_image_124 rfl hl (by decide) rfl (fun ls hl => ?_)
        obtain ⟨y_125, ey_125⟩ : ∃ y : Int32, y = j102_L2 + 1 := ⟨_, rfl⟩
        refine lv_iinc (v := y_125) (lv' := [(2, .int y_125), (1, .int y_123), (0, .ref h)]) hx hb dX7_image_125 hl (k := 2) rfl ey_125.symm (by decide) rfl (fun ls hl => ?_)
        have f_125_2 : iR y_125 1 8 := iR_add ey_125 f_110_1 (iR_c (n := 1) (a := 1) (b := 1) (by decide +kernel) (by decide +kernel)) (by decide +kernel)
        refine lv_goto (tgt := 102) hx hb dX7_image_128 (by decide) ?_
        exact ih_102 y_123 y_125 (iR_w f_125_2 (by decide +kernel)) (m_up (B := 8) hm_102 ey_125 f_110_1 (by decide +kernel)) H locs ls hP hD hS (lv_sub hl [2, 1, 0] rfl)
  refine lv_istore_n (lv' := [(2, .int 0), (1, .int 97), (0, .ref h)]) hx hb dX7_image_101 rfl hl (by decide) rfl (fun ls hl => ?_)
  exact J_102 _ 97 0 (iR_c (n := 0) (a := 0) (b := 8) (by decide +kernel) (by decide +kernel)) (Nat.lt_succ_self _) H locs ls (hP.sub [4, 0, 1, 2, 3, 5] rfl) (hD.sub [4, 0, 1, 2, 3, 5] (by decide +kernel) rfl) hS (lv_sub hl [2, 1, 0] rfl)
