set_option maxHeartbeats 8000000 in
set_option maxRecDepth 100000 in
theorem s_X7_kept_v0 (l : Launch) (dC : Nat → ClassId) (dI : Nat → Nat → Nat) (cI cJ cZ cM : ClassId) (h : Nat) (r : Nat → Nat) (i : Nat → Int32) (j : Nat → Int64) (x1 : Int32) (x2 : Int32) (f53 : Nat → Int32) (f54 : Nat → Int32) (f55 : Nat → Int32) (f56 : Nat → Int32) (f57 : Nat → Int32) (hI : mR i) (hf53 : aR f53 0 50) : k_Mi l yX7_kept wsX7_kept ({ frames := 2, cells := 0, slots := 0, locals := 62 }) (dC, dI) vwCl (tyy cI cJ cZ cM) [(h, .inr (7, oM r i j)), ((r 53), .inl (cI, 22, .inl f53)), ((r 54), .inl (cI, 1100, .inl f54)), ((r 55), .inl (cI, 1100, .inl f55)), ((r 56), .inl (cI, 1100, .inl f56)), ((r 57), .inl (cI, 1100, .inl f57))] [.ref h, .int x1, .int x2] 0 0 (fun (u9 : Unit) => [(h, .inr (7, oM r i j)), ((r 53), .inl (cI, 22, .inl f53)), ((r 54), .inl (cI, 1100, .inl f54)), ((r 55), .inl (cI, 1100, .inl f55)), ((r 56), .inl (cI, 1100, .inl f56)), ((r 57), .inl (cI, 1100, .inl f57))]) (fun (r9 : Int32) (u9 : Unit) => True) := by
  refine fun sz => k_enter (cc := cX7_kept) (maxL := 3) (ret := some (.int)) (Qc := fun A => va_Qi (fun (r9 : Int32) (u9 : Unit) => True) (fun u => k_B (dC, dI) vwCl (tyy cI cJ cZ cM) A ((fun (u9 : Unit) => [(h, .inr (7, oM r i j)), ((r 53), .inl (cI, 22, .inl f53)), ((r 54), .inl (cI, 1100, .inl f54)), ((r 55), .inl (cI, 1100, .inl f55)), ((r 56), .inl (cI, 1100, .inl f56)), ((r 57), .inl (cI, 1100, .inl f57))]) u)) A) sz (by decide +kernel) rfl (Nat.le_of_ble_eq_true rfl) (fun p e s m args below meth c A ls H locs B hP hD hS hl => ?_)
  obtain ⟨hx, hb, hml, hown, hts, hr, hlk, hnm, hK, hA, hN, hC⟩ := id B
  have hown : s.vm.findClass RX7 = some m.cls := hown
  have hl : lv_has ls 3 [(0, .ref h), (1, .int x1), (2, .int x2)] := hl
  have w_0 : (Cond.fieldLink RX7 174 "WishSeaModel" "keptMany" "[I").before args s = true := hts _ (List.mem_of_getElem? (i := 1) rfl)
  have w_1 : (Cond.fieldLink RX7 186 "WishSeaModel" "keptFell" "[I").before args s = true := hts _ (List.mem_of_getElem? (i := 5) rfl)
  have w_2 : (Cond.fieldLink RX7 183 "WishSeaModel" "keptSea" "[I").before args s = true := hts _ (List.mem_of_getElem? (i := 4) rfl)
  have w_3 : (Cond.fieldLink RX7 180 "WishSeaModel" "keptWish" "[I").before args s = true := hts _ (List.mem_of_getElem? (i := 3) rfl)
  have w_4 : (Cond.fieldLink RX7 177 "WishSeaModel" "keptDay" "[I").before args s = true := hts _ (List.mem_of_getElem? (i := 2) rfl)
  have hinX7 : ∀ w ∈ u_ws RX7 TX7 92, w ∈ wsX7_kept := fun _ h => List.mem_cons_of_mem _ (List.mem_append_right _ h)
  refine lv_iload_n hx hb dX7_kept_0 rfl (lv_at hl 1 rfl) ?_
  refine lv_iconst (v := 0) hx hb dX7_kept_1 (by decide +kernel) ?_
  refine lv_aload_n hx hb dX7_kept_2 rfl (lv_at hl 0 rfl) ?_
  refine k_get (D := (dC, dI)) (ci := 7) (v := .ref (r 53)) (C := RX7) (T := TX7) (N := 92) hx hb hts hinX7 hown hK hP 0 rfl rfl 53 (by decide) w_0 rfl rfl dX7_kept_3 ?_
  refine lv_iconst (v := 0) hx hb dX7_kept_6 (by decide +kernel) ?_
  refine k_iald (v := (f53 0)) hx hb hK hP 1 0 0 rfl rfl rfl (Nat.le_of_ble_eq_true rfl) (Nat.le_of_ble_eq_true rfl) rfl dX7_kept_7 ?_
  have f_7_1 : iR (f53 0) 0 50 := hf53 _
  refine lv_iconst (v := 1) hx hb dX7_kept_8 (by decide +kernel) ?_
  refine lv_isub hx hb dX7_kept_9 ?_
  refine lv_topi (fun y_9 ey_9 => ?_)
  have f_9_2 : iR y_9 (-1) 49 := iR_sub ey_9 f_7_1 (iR_c (n := 1) (by decide +kernel) (by decide +kernel)) (by decide +kernel)
  refine k_ci (wc := []) (wr := [(h, .inr (7, oM r i j)), ((r 53), .inl (cI, 22, .inl f53)), ((r 54), .inl (cI, 1100, .inl f54)), ((r 55), .inl (cI, 1100, .inl f55)), ((r 56), .inl (cI, 1100, .inl f56)), ((r 57), .inl (cI, 1100, .inl f57))]) (fun hPc hDc hFc => va_runS (As := [.int x1, .int 0, .int y_9]) (rest := []) ⟨hx, hb, hml, hown, hts⟩ (s_X7_is_v0 l dC dI cI cJ cZ cM x1 0 y_9 H.size) (va_cwS 3 hts gX7_kept_X7_is rfl rfl rfl (by decide +kernel) ⟨(Nat.le_of_ble_eq_true rfl), (Nat.le_of_ble_eq_true rfl)⟩) (k_pS hPc hDc hK hN hC hS hFc) rfl rfl hl.1 rfl (lv_room (Nat.le_of_ble_eq_true rfl)) dX7_kept_10 ⟨(Nat.le_of_ble_eq_true rfl), (Nat.le_of_ble_eq_true rfl)⟩) hP hD hS hA [] [0, 1, 2, 3, 4, 5] rfl rfl rfl rfl (by decide) (fun _ => rfl) 0 0 rfl rfl (fun r_10 u_10 H locs hw hP hD hS => ?_)
  obtain ⟨g_10_0, g_10_1⟩ := hw
  have hP : va_P (dC, dI) vwCl [(h, .inr (7, oM r i j)), ((r 53), .inl (cI, 22, .inl f53)), ((r 54), .inl (cI, 1100, .inl f54)), ((r 55), .inl (cI, 1100, .inl f55)), ((r 56), .inl (cI, 1100, .inl f56)), ((r 57), .inl (cI, 1100, .inl f57))] H := hP
  have hD : va_D A [(h, .inr (7, oM r i j)), ((r 53), .inl (cI, 22, .inl f53)), ((r 54), .inl (cI, 1100, .inl f54)), ((r 55), .inl (cI, 1100, .inl f55)), ((r 56), .inl (cI, 1100, .inl f56)), ((r 57), .inl (cI, 1100, .inl f57))] := hD
  have J_25 : ∀   (H : Heap) (locs : List Loc) (ls : Array Slot), va_P (dC, dI) vwCl [(h, .inr (7, oM r i j)), ((r 53), .inl (cI, 22, .inl f53)), ((r 54), .inl (cI, 1100, .inl f54)), ((r 55), .inl (cI, 1100, .inl f55)), ((r 56), .inl (cI, 1100, .inl f56)), ((r 57), .inl (cI, 1100, .inl f57))] H → va_D A [(h, .inr (7, oM r i j)), ((r 53), .inl (cI, 22, .inl f53)), ((r 54), .inl (cI, 1100, .inl f54)), ((r 55), .inl (cI, 1100, .inl f55)), ((r 56), .inl (cI, 1100, .inl f56)), ((r 57), .inl (cI, 1100, .inl f57))] → va_S A s.heap H locs → lv_has ls 3 [] → W p l e ({ frames := 2, cells := 0, slots := 0, locals := 62 }) s m args below meth c H locs 0 0 (MQ below (va_Qi (fun (r9 : Int32) (u9 : Unit) => True) (fun u => k_B (dC, dI) vwCl (tyy cI cJ cZ cM) A ((fun (u9 : Unit) => [(h, .inr (7, oM r i j)), ((r 53), .inl (cI, 22, .inl f53)), ((r 54), .inl (cI, 1100, .inl f54)), ((r 55), .inl (cI, 1100, .inl f55)), ((r 56), .inl (cI, 1100, .inl f56)), ((r 57), .inl (cI, 1100, .inl f57))]) u)) A) args s 0 0 A) (F0 m 25 ls []) := by
    intro   H locs ls hP hD hS hl
    refine lv_iconst (v := (-1)) hx hb dX7_kept_25 (by decide +kernel) ?_
    exact k_ri B hP hD hS dX7_kept_26 () [0, 1, 2, 3, 4, 5] rfl rfl rfl (Nat.le_of_ble_eq_true rfl) (Nat.le_of_ble_eq_true rfl) trivial
  refine lv_if_eq (tgt := 25) hx hb dX7_kept_13 (by decide) (fun c_13 => ?_) (fun c_13 => ?_)
  · have c_13 : r_10 = 0 := c_13
    have f_25_3 : iR r_10 0 0 := iR_eqL c_13 g_10_0 (iR_c (n := 0) (by decide +kernel) (by decide +kernel)) (by decide +kernel)
    exact J_25   H locs ls hP hD hS (lv_sub hl [] rfl)
  · have c_13 : ¬ r_10 = 0 := c_13
    have f_16_3 : iR r_10 1 1 := iR_neL c_13 g_10_0 (iR_c (n := 0) (by decide +kernel) (by decide +kernel)) (by decide +kernel)
    obtain ⟨d_13_1_0, d_13_1_1⟩ := g_10_1.resolve_left c_13
    have f_16_4 : iR x1 0 2147483647 := iR_leR d_13_1_0 (iR_c (n := 0) (by decide +kernel) (by decide +kernel)) (iR_top _) (by decide +kernel)
    have f_16_5 : iR x1 0 49 := iR_leL d_13_1_1 f_16_4 f_9_2 (by decide +kernel)
    have f_16_6 : iR y_9 0 49 := iR_leR d_13_1_1 f_16_4 f_9_2 (by decide +kernel)
    refine lv_iload_n hx hb dX7_kept_16 rfl (lv_at hl 2 rfl) ?_
    refine lv_iconst (v := 0) hx hb dX7_kept_17 (by decide +kernel) ?_
    refine lv_iconst (v := 3) hx hb dX7_kept_18 (by decide +kernel) ?_
    refine k_ci (wc := []) (wr := [(h, .inr (7, oM r i j)), ((r 53), .inl (cI, 22, .inl f53)), ((r 54), .inl (cI, 1100, .inl f54)), ((r 55), .inl (cI, 1100, .inl f55)), ((r 56), .inl (cI, 1100, .inl f56)), ((r 57), .inl (cI, 1100, .inl f57))]) (fun hPc hDc hFc => va_runS (As := [.int x2, .int 0, .int 3]) (rest := []) ⟨hx, hb, hml, hown, hts⟩ (s_X7_is_v0 l dC dI cI cJ cZ cM x2 0 3 H.size) (va_cwS 3 hts gX7_kept_X7_is rfl rfl rfl (by decide +kernel) ⟨(Nat.le_of_ble_eq_true rfl), (Nat.le_of_ble_eq_true rfl)⟩) (k_pS hPc hDc hK hN hC hS hFc) rfl rfl hl.1 rfl (lv_room (Nat.le_of_ble_eq_true rfl)) dX7_kept_19 ⟨(Nat.le_of_ble_eq_true rfl), (Nat.le_of_ble_eq_true rfl)⟩) hP hD hS hA [] [0, 1, 2, 3, 4, 5] rfl rfl rfl rfl (by decide) (fun _ => rfl) 0 0 rfl rfl (fun r_19 u_19 H locs hw hP hD hS => ?_)
    obtain ⟨g_19_0, g_19_1⟩ := hw
    have hP : va_P (dC, dI) vwCl [(h, .inr (7, oM r i j)), ((r 53), .inl (cI, 22, .inl f53)), ((r 54), .inl (cI, 1100, .inl f54)), ((r 55), .inl (cI, 1100, .inl f55)), ((r 56), .inl (cI, 1100, .inl f56)), ((r 57), .inl (cI, 1100, .inl f57))] H := hP
    have hD : va_D A [(h, .inr (7, oM r i j)), ((r 53), .inl (cI, 22, .inl f53)), ((r 54), .inl (cI, 1100, .inl f54)), ((r 55), .inl (cI, 1100, .inl f55)), ((r 56), .inl (cI, 1100, .inl f56)), ((r 57), .inl (cI, 1100, .inl f57))] := hD
    refine lv_if_ne (tgt := 27) hx hb dX7_kept_22 (by decide) (fun c_22 => ?_) (fun c_22 => ?_)
    · have c_22 : ¬ r_19 = 0 := c_22
      have f_27_7 : iR r_19 1 1 := iR_neL c_22 g_19_0 (iR_c (n := 0) (by decide +kernel) (by decide +kernel)) (by decide +kernel)
      obtain ⟨d_22_2_0, d_22_2_1⟩ := g_19_1.resolve_left c_22
      have f_27_8 : iR x2 0 2147483647 := iR_leR d_22_2_0 (iR_c (n := 0) (by decide +kernel) (by decide +kernel)) (iR_top _) (by decide +kernel)
      have f_27_9 : iR x2 0 3 := iR_leL d_22_2_1 f_27_8 (iR_c (n := 3) (by decide +kernel) (by decide +kernel)) (by decide +kernel)
      refine lv_iload_n hx hb dX7_kept_27 rfl (lv_at hl 2 rfl) ?_
      refine lv_if_ne (tgt := 40) hx hb dX7_kept_28 (by decide) (fun c_28 => ?_) (fun c_28 => ?_)
      · have c_28 : ¬ x2 = 0 := c_28
        have f_40_10 : iR x2 1 3 := iR_ltR (i_ltne d_22_2_0 (fun q => c_28 q.symm)) (iR_c (n := 0) (by decide +kernel) (by decide +kernel)) f_27_9 (by decide +kernel)
        refine lv_iload_n hx hb dX7_kept_40 rfl (lv_at hl 2 rfl) ?_
        refine lv_iconst (v := 1) hx hb dX7_kept_41 (by decide +kernel) ?_
        refine lv_icmp_ne (tgt := 54) hx hb dX7_kept_42 (by decide) (fun c_42 => ?_) (fun c_42 => ?_)
        · have c_42 : ¬ x2 = 1 := c_42
          have f_54_11 : iR x2 2 3 := iR_neL c_42 f_40_10 (iR_c (n := 1) (by decide +kernel) (by decide +kernel)) (by decide +kernel)
          refine lv_iload_n hx hb dX7_kept_54 rfl (lv_at hl 2 rfl) ?_
          refine lv_iconst (v := 2) hx hb dX7_kept_55 (by decide +kernel) ?_
          refine lv_icmp_ne (tgt := 68) hx hb dX7_kept_56 (by decide) (fun c_56 => ?_) (fun c_56 => ?_)
          · have c_56 : ¬ x2 = 2 := c_56
            have f_68_12 : iR x2 3 3 := iR_neL c_56 f_54_11 (iR_c (n := 2) (by decide +kernel) (by decide +kernel)) (by decide +kernel)
            refine lv_aload_n hx hb dX7_kept_68 rfl (lv_at hl 0 rfl) ?_
            refine k_get (D := (dC, dI)) (ci := 7) (v := .ref (r 57)) (C := RX7) (T := TX7) (N := 92) hx hb hts hinX7 hown hK hP 0 rfl rfl 57 (by decide) w_1 rfl rfl dX7_kept_69 ?_
            refine lv_iload_n hx hb dX7_kept_72 rfl (lv_at hl 1 rfl) ?_
            refine va_iald hx hb hK hP 5 0 rfl rfl (iR_vp f_16_5 (by decide +kernel)) dX7_kept_73 ?_
            exact k_ri B hP hD hS dX7_kept_74 () [0, 1, 2, 3, 4, 5] rfl rfl rfl (Nat.le_of_ble_eq_true rfl) (Nat.le_of_ble_eq_true rfl) trivial
          · have c_56 : x2 = 2 := c_56
            have f_59_12 : iR x2 2 2 := iR_eqL c_56 f_54_11 (iR_c (n := 2) (by decide +kernel) (by decide +kernel)) (by decide +kernel)
            refine lv_aload_n hx hb dX7_kept_59 rfl (lv_at hl 0 rfl) ?_
            refine k_get (D := (dC, dI)) (ci := 7) (v := .ref (r 56)) (C := RX7) (T := TX7) (N := 92) hx hb hts hinX7 hown hK hP 0 rfl rfl 56 (by decide) w_2 rfl rfl dX7_kept_60 ?_
            refine lv_iload_n hx hb dX7_kept_63 rfl (lv_at hl 1 rfl) ?_
            refine va_iald hx hb hK hP 4 0 rfl rfl (iR_vp f_16_5 (by decide +kernel)) dX7_kept_64 ?_
            refine lv_goto (tgt := 74) hx hb dX7_kept_65 (by decide) ?_
            exact k_ri B hP hD hS dX7_kept_74 () [0, 1, 2, 3, 4, 5] rfl rfl rfl (Nat.le_of_ble_eq_true rfl) (Nat.le_of_ble_eq_true rfl) trivial
        · have c_42 : x2 = 1 := c_42
          have f_45_11 : iR x2 1 1 := iR_eqL c_42 f_40_10 (iR_c (n := 1) (by decide +kernel) (by decide +kernel)) (by decide +kernel)
          refine lv_aload_n hx hb dX7_kept_45 rfl (lv_at hl 0 rfl) ?_
          refine k_get (D := (dC, dI)) (ci := 7) (v := .ref (r 55)) (C := RX7) (T := TX7) (N := 92) hx hb hts hinX7 hown hK hP 0 rfl rfl 55 (by decide) w_3 rfl rfl dX7_kept_46 ?_
          refine lv_iload_n hx hb dX7_kept_49 rfl (lv_at hl 1 rfl) ?_
          refine va_iald hx hb hK hP 3 0 rfl rfl (iR_vp f_16_5 (by decide +kernel)) dX7_kept_50 ?_
          refine lv_goto (tgt := 74) hx hb dX7_kept_51 (by decide) ?_
          exact k_ri B hP hD hS dX7_kept_74 () [0, 1, 2, 3, 4, 5] rfl rfl rfl (Nat.le_of_ble_eq_true rfl) (Nat.le_of_ble_eq_true rfl) trivial
      · have c_28 : x2 = 0 := c_28
        have f_31_10 : iR x2 0 0 := iR_eqL c_28 f_27_9 (iR_c (n := 0) (by decide +kernel) (by decide +kernel)) (by decide +kernel)
        refine lv_aload_n hx hb dX7_kept_31 rfl (lv_at hl 0 rfl) ?_
        refine k_get (D := (dC, dI)) (ci := 7) (v := .ref (r 54)) (C := RX7) (T := TX7) (N := 92) hx hb hts hinX7 hown hK hP 0 rfl rfl 54 (by decide) w_4 rfl rfl dX7_kept_32 ?_
        refine lv_iload_n hx hb dX7_kept_35 rfl (lv_at hl 1 rfl) ?_
        refine va_iald hx hb hK hP 2 0 rfl rfl (iR_vp f_16_5 (by decide +kernel)) dX7_kept_36 ?_
        refine lv_goto (tgt := 74) hx hb dX7_kept_37 (by decide) ?_
        exact k_ri B hP hD hS dX7_kept_74 () [0, 1, 2, 3, 4, 5] rfl rfl rfl (Nat.le_of_ble_eq_true rfl) (Nat.le_of_ble_eq_true rfl) trivial
    · have c_22 : r_19 = 0 := c_22
      have f_25_7 : iR r_19 0 0 := iR_eqL c_22 g_19_0 (iR_c (n := 0) (by decide +kernel) (by decide +kernel)) (by decide +kernel)
      exact J_25   H locs ls hP hD hS (lv_sub hl [] rfl)
set_option maxHeartbeats 8000000 in
set_option maxRecDepth 100000 in
theorem s_X7_briefOnes_v3 (l : Launch) (dC : Nat → ClassId) (dI : Nat → Nat → Nat) (cI cJ cZ cM : ClassId) (h : Nat) (r : Nat → Nat) (i : Nat → Int32) (j : Nat → Int64) (f14 : Nat → Int32) (f17 : Nat → Int32) (hI : mR i) (hf14 : aR f14 0 10) (hf17 : aR f17 0 1) : k_Mi l yX7_briefOnes wsX7_briefOnes ({ frames := 1, cells := 0, slots := 0, locals := 40 }) (dC, dI) vwCl (tyy cI cJ cZ cM) [(h, .inr (7, oM r i j)), ((r 14), .inl (cI, 2, .inl f14)), ((r 17), .inl (cI, 20, .inl f17))] [.ref h] 0 0 (fun (u9 : Unit) => [(h, .inr (7, oM r i j)), ((r 14), .inl (cI, 2, .inl f14)), ((r 17), .inl (cI, 20, .inl f17))]) (fun (r9 : Int32) (u9 : Unit) => (iR r9 0 1023)) := by
  refine fun sz => k_enter (cc := cX7_briefOnes) (maxL := 3) (ret := some (.int)) (Qc := fun A => va_Qi (fun (r9 : Int32) (u9 : Unit) => (iR r9 0 1023)) (fun u => k_B (dC, dI) vwCl (tyy cI cJ cZ cM) A ((fun (u9 : Unit) => [(h, .inr (7, oM r i j)), ((r 14), .inl (cI, 2, .inl f14)), ((r 17), .inl (cI, 20, .inl f17))]) u)) A) sz (by decide +kernel) rfl (Nat.le_of_ble_eq_true rfl) (fun p e s m args below meth c A ls H locs B hP hD hS hl => ?_)
  obtain ⟨hx, hb, hml, hown, hts, hr, hlk, hnm, hK, hA, hN, hC⟩ := id B
  have hown : s.vm.findClass RX7 = some m.cls := hown
  have hl : lv_has ls 3 [(0, .ref h)] := hl
  have w_0 : (Cond.fieldLink RX7 54 "WishSeaModel" "things" "[I").before args s = true := hts _ (List.mem_of_getElem? (i := 1) rfl)
  have w_1 : (Cond.fieldLink RX7 51 "WishSeaModel" "bank" "I").before args s = true := hts _ (List.mem_of_getElem? (i := 2) rfl)
  have w_2 : (Cond.fieldLink RX7 63 "WishSeaModel" "thingBrief" "[I").before args s = true := hts _ (List.mem_of_getElem? (i := 3) rfl)
  have hinX7 : ∀ w ∈ u_ws RX7 TX7 92, w ∈ wsX7_briefOnes := fun _ h => List.mem_cons_of_mem _ (List.mem_append_right _ h)
  refine lv_iconst (v := 0) hx hb dX7_briefOnes_0 (by decide +kernel) ?_
  refine lv_istore_n (lv' := [(1, .int 0), (0, .ref h)]) hx hb dX7_briefOnes_1 rfl hl (by decide) rfl (fun ls hl => ?_)
  refine lv_iconst (v := 0) hx hb dX7_briefOnes_2 (by decide +kernel) ?_
  have J_4 : ∀ (n_4 : Nat) (j4_L1 : Int32) (j4_L2 : Int32) (hj4_L1 : iR j4_L1 0 1023) (hj4_L2 : iR j4_L2 0 10) (hm_4 : (10 - j4_L2.toInt).toNat < n_4) (H : Heap) (locs : List Loc) (ls : Array Slot), va_P (dC, dI) vwCl [(h, .inr (7, oM r i j)), ((r 14), .inl (cI, 2, .inl f14)), ((r 17), .inl (cI, 20, .inl f17))] H → va_D A [(h, .inr (7, oM r i j)), ((r 14), .inl (cI, 2, .inl f14)), ((r 17), .inl (cI, 20, .inl f17))] → va_S A s.heap H locs → lv_has ls 3 [(0, .ref h), (1, .int j4_L1), (2, .int j4_L2)] → W p l e ({ frames := 1, cells := 0, slots := 0, locals := 40 }) s m args below meth c H locs 0 0 (MQ below (va_Qi (fun (r9 : Int32) (u9 : Unit) => (iR r9 0 1023)) (fun u => k_B (dC, dI) vwCl (tyy cI cJ cZ cM) A ((fun (u9 : Unit) => [(h, .inr (7, oM r i j)), ((r 14), .inl (cI, 2, .inl f14)), ((r 17), .inl (cI, 20, .inl f17))]) u)) A) args s 0 0 A) (F0 m 4 ls []) := by
    intro n_4
    induction n_4 with
    | zero => intro j4_L1 j4_L2 hj4_L1 hj4_L2 hm_4; exact absurd hm_4 (Nat.not_lt_zero _)
    | succ n_4 ih_4 =>
      intro j4_L1 j4_L2 hj4_L1 hj4_L2 hm_4 H locs ls hP hD hS hl
      refine lv_iload_n hx hb dX7_briefOnes_4 rfl (lv_at hl 2 rfl) ?_
      refine lv_aload_n hx hb dX7_briefOnes_5 rfl (lv_at hl 0 rfl) ?_
      refine k_get (D := (dC, dI)) (ci := 7) (v := .ref (r 14)) (C := RX7) (T := TX7) (N := 92) hx hb hts hinX7 hown hK hP 0 rfl rfl 14 (by decide) w_0 rfl rfl dX7_briefOnes_6 ?_
      refine lv_aload_n hx hb dX7_briefOnes_9 rfl (lv_at hl 0 rfl) ?_
      have f_10_1 : iR (i 13) 0 1 := hI 13
      refine k_get (D := (dC, dI)) (ci := 7) (v := .int (i 13)) (C := RX7) (T := TX7) (N := 92) hx hb hts hinX7 hown hK hP 0 rfl rfl 13 (by decide) w_1 rfl rfl dX7_briefOnes_10 ?_
      refine va_iald hx hb hK hP 1 0 rfl rfl (iR_vp f_10_1 (by decide +kernel)) dX7_briefOnes_13 ?_
      have f_13_2 : iR (f14 (i 13).toNatClampNeg) 0 10 := hf14 _
      refine lv_icmp_ge (tgt := 42) hx hb dX7_briefOnes_14 (by decide) (fun c_14 => ?_) (fun c_14 => ?_)
      · have c_14 : (f14 (i 13).toNatClampNeg) ≤ j4_L2 := c_14
        refine lv_iload_n hx hb dX7_briefOnes_42 rfl (lv_at hl 1 rfl) ?_
        exact k_ri B hP hD hS dX7_briefOnes_43 () [0, 1, 2] rfl rfl rfl (Nat.le_of_ble_eq_true rfl) (Nat.le_of_ble_eq_true rfl) hj4_L1
      · have c_14 : j4_L2 < (f14 (i 13).toNatClampNeg) := i_nle c_14
        have f_17_3 : iR j4_L2 0 9 := iR_ltL c_14 hj4_L2 f_13_2 (by decide +kernel)
        have f_17_4 : iR (f14 (i 13).toNatClampNeg) 1 10 := iR_ltR c_14 hj4_L2 f_13_2 (by decide +kernel)
        refine lv_iload_n hx hb dX7_briefOnes_17 rfl (lv_at hl 1 rfl) ?_
        refine lv_aload_n hx hb dX7_briefOnes_18 rfl (lv_at hl 0 rfl) ?_
        refine k_get (D := (dC, dI)) (ci := 7) (v := .ref (r 17)) (C := RX7) (T := TX7) (N := 92) hx hb hts hinX7 hown hK hP 0 rfl rfl 17 (by decide) w_2 rfl rfl dX7_briefOnes_19 ?_
        refine lv_bipush (v := 10) hx hb dX7_briefOnes_22 (by decide +kernel) ?_
        refine lv_aload_n hx hb dX7_briefOnes_24 rfl (lv_at hl 0 rfl) ?_
        refine k_get (D := (dC, dI)) (ci := 7) (v := .int (i 13)) (C := RX7) (T := TX7) (N := 92) hx hb hts hinX7 hown hK hP 0 rfl rfl 13 (by decide) w_1 rfl rfl dX7_briefOnes_25 ?_
        refine lv_imul hx hb dX7_briefOnes_28 ?_
        refine lv_topi (fun y_28 ey_28 => ?_)
        have f_28_5 : iR y_28 0 10 := iR_mul ey_28 (iR_c (n := 10) (by decide +kernel) (by decide +kernel)) f_10_1 (by decide +kernel)
        refine lv_iload_n hx hb dX7_briefOnes_29 rfl (lv_at hl 2 rfl) ?_
        refine lv_iadd hx hb dX7_briefOnes_30 ?_
        refine lv_topi (fun y_30 ey_30 => ?_)
        have f_30_6 : iR y_30 0 19 := iR_add ey_30 f_28_5 f_17_3 (by decide +kernel)
        refine va_iald hx hb hK hP 2 0 rfl rfl (iR_vp f_30_6 (by decide +kernel)) dX7_briefOnes_31 ?_
        have f_31_7 : iR (f17 y_30.toNatClampNeg) 0 1 := hf17 _
        refine lv_iload_n hx hb dX7_briefOnes_32 rfl (lv_at hl 2 rfl) ?_
        refine lv_ishl hx hb dX7_briefOnes_33 ?_
        refine lv_topi (fun y_33 ey_33 => ?_)
        have f_33_8 : iR y_33 0 512 := iR_shl 9 ey_33 f_31_7 f_17_3 (by decide +kernel)
        refine lv_ior hx hb dX7_briefOnes_34 ?_
        refine lv_topi (fun y_34 ey_34 => ?_)
        have f_34_9 : iR y_34 0 1023 := iR_or 10 ey_34 hj4_L1 f_33_8 (by decide +kernel)
        refine lv_istore_n (lv' := [(1, .int y_34), (0, .ref h), (2, .int j4_L2)]) hx hb dX7_briefOnes_35 rfl hl (by decide) rfl (fun ls hl => ?_)
        obtain ⟨y_36, ey_36⟩ : ∃ y : Int32, y = j4_L2 + 1 := ⟨_, rfl⟩
        refine lv_iinc (v := y_36) (lv' := [(2, .int y_36), (1, .int y_34), (0, .ref h)]) hx hb dX7_briefOnes_36 hl (k := 2) rfl ey_36.symm (by decide) rfl (fun ls hl => ?_)
        have f_36_10 : iR y_36 1 10 := iR_add ey_36 f_17_3 (iR_c (n := 1) (by decide +kernel) (by decide +kernel)) (by decide +kernel)
        refine lv_goto (tgt := 4) hx hb dX7_briefOnes_39 (by decide) ?_
        exact ih_4 y_34 y_36 f_34_9 (iR_w f_36_10 (by decide +kernel)) (m_up (B := 10) hm_4 ey_36 f_17_3 (by decide +kernel)) H locs ls hP hD hS (lv_sub hl [2, 1, 0] rfl)
  refine lv_istore_n (lv' := [(2, .int 0), (1, .int 0), (0, .ref h)]) hx hb dX7_briefOnes_3 rfl hl (by decide) rfl (fun ls hl => ?_)
  exact J_4 _ 0 0 (iR_c (n := 0) (by decide +kernel) (by decide +kernel)) (iR_c (n := 0) (by decide +kernel) (by decide +kernel)) (Nat.lt_succ_self _) H locs ls hP hD hS (lv_sub hl [2, 1, 0] rfl)
set_option maxHeartbeats 8000000 in
set_option maxRecDepth 100000 in
theorem s_X7_before_v0 (l : Launch) (dC : Nat → ClassId) (dI : Nat → Nat → Nat) (cI cJ cZ cM : ClassId) (h : Nat) (r : Nat → Nat) (i : Nat → Int32) (j : Nat → Int64) (x1 : Int32) (f14 : Nat → Int32) (f17 : Nat → Int32) (f49 : Nat → Int32) (hI : mR i) (hf14 : aR f14 0 10) (hf17 : aR f17 0 1) (hf49 : aR f49 0 1023) : k_Mi l yX7_before wsX7_before ({ frames := 2, cells := 0, slots := 0, locals := 62 }) (dC, dI) vwCl (tyy cI cJ cZ cM) [(h, .inr (7, oM r i j)), ((r 14), .inl (cI, 2, .inl f14)), ((r 17), .inl (cI, 20, .inl f17)), ((r 49), .inl (cI, 22, .inl f49))] [.ref h, .int x1] 0 0 (fun (u9 : Unit) => [(h, .inr (7, oM r i j)), ((r 14), .inl (cI, 2, .inl f14)), ((r 17), .inl (cI, 20, .inl f17)), ((r 49), .inl (cI, 22, .inl f49))]) (fun (r9 : Int32) (u9 : Unit) => True) := by
  refine fun sz => k_enter (cc := cX7_before) (maxL := 3) (ret := some (.int)) (Qc := fun A => va_Qi (fun (r9 : Int32) (u9 : Unit) => True) (fun u => k_B (dC, dI) vwCl (tyy cI cJ cZ cM) A ((fun (u9 : Unit) => [(h, .inr (7, oM r i j)), ((r 14), .inl (cI, 2, .inl f14)), ((r 17), .inl (cI, 20, .inl f17)), ((r 49), .inl (cI, 22, .inl f49))]) u)) A) sz (by decide +kernel) rfl (Nat.le_of_ble_eq_true rfl) (fun p e s m args below meth c A ls H locs B hP hD hS hl => ?_)
  obtain ⟨hx, hb, hml, hown, hts, hr, hlk, hnm, hK, hA, hN, hC⟩ := id B
  have hown : s.vm.findClass RX7 = some m.cls := hown
  have hl : lv_has ls 3 [(0, .ref h), (1, .int x1)] := hl
  have w_0 : (Cond.fieldLink RX7 162 "WishSeaModel" "hadOf" "[I").before args s = true := hts _ (List.mem_of_getElem? (i := 1) rfl)
  have hinX7 : ∀ w ∈ u_ws RX7 TX7 92, w ∈ wsX7_before := fun _ h => List.mem_cons_of_mem _ (List.mem_append_right _ h)
  refine lv_iload_n hx hb dX7_before_0 rfl (lv_at hl 1 rfl) ?_
  refine lv_iconst (v := 0) hx hb dX7_before_1 (by decide +kernel) ?_
  refine lv_iconst (v := 2) hx hb dX7_before_2 (by decide +kernel) ?_
  refine k_ci (wc := []) (wr := [(h, .inr (7, oM r i j)), ((r 14), .inl (cI, 2, .inl f14)), ((r 17), .inl (cI, 20, .inl f17)), ((r 49), .inl (cI, 22, .inl f49))]) (fun hPc hDc hFc => va_runS (As := [.int x1, .int 0, .int 2]) (rest := []) ⟨hx, hb, hml, hown, hts⟩ (s_X7_is_v0 l dC dI cI cJ cZ cM x1 0 2 H.size) (va_cwS 3 hts gX7_before_X7_is rfl rfl rfl (by decide +kernel) ⟨(Nat.le_of_ble_eq_true rfl), (Nat.le_of_ble_eq_true rfl)⟩) (k_pS hPc hDc hK hN hC hS hFc) rfl rfl hl.1 rfl (lv_room (Nat.le_of_ble_eq_true rfl)) dX7_before_3 ⟨(Nat.le_of_ble_eq_true rfl), (Nat.le_of_ble_eq_true rfl)⟩) hP hD hS hA [] [0, 1, 2, 3] rfl rfl rfl rfl (by decide) (fun _ => rfl) 0 0 rfl rfl (fun r_3 u_3 H locs hw hP hD hS => ?_)
  obtain ⟨g_3_0, g_3_1⟩ := hw
  have hP : va_P (dC, dI) vwCl [(h, .inr (7, oM r i j)), ((r 14), .inl (cI, 2, .inl f14)), ((r 17), .inl (cI, 20, .inl f17)), ((r 49), .inl (cI, 22, .inl f49))] H := hP
  have hD : va_D A [(h, .inr (7, oM r i j)), ((r 14), .inl (cI, 2, .inl f14)), ((r 17), .inl (cI, 20, .inl f17)), ((r 49), .inl (cI, 22, .inl f49))] := hD
  refine lv_if_ne (tgt := 11) hx hb dX7_before_6 (by decide) (fun c_6 => ?_) (fun c_6 => ?_)
  · have c_6 : ¬ r_3 = 0 := c_6
    have f_11_1 : iR r_3 1 1 := iR_neL c_6 g_3_0 (iR_c (n := 0) (by decide +kernel) (by decide +kernel)) (by decide +kernel)
    obtain ⟨d_6_1_0, d_6_1_1⟩ := g_3_1.resolve_left c_6
    have f_11_2 : iR x1 0 2147483647 := iR_leR d_6_1_0 (iR_c (n := 0) (by decide +kernel) (by decide +kernel)) (iR_top _) (by decide +kernel)
    have f_11_3 : iR x1 0 2 := iR_leL d_6_1_1 f_11_2 (iR_c (n := 2) (by decide +kernel) (by decide +kernel)) (by decide +kernel)
    refine lv_aload_n hx hb dX7_before_11 rfl (lv_at hl 0 rfl) ?_
    refine k_ci (wc := [(h, .inr (7, oM r i j)), ((r 14), .inl (cI, 2, .inl f14)), ((r 17), .inl (cI, 20, .inl f17))]) (wr := [((r 49), .inl (cI, 22, .inl f49))]) (fun hPc hDc hFc => va_runV (As := []) (rest := []) ⟨hx, hb, hml, hown, hts⟩ (s_X7_briefOnes_v3 l dC dI cI cJ cZ cM h r i j f14 f17 hI hf14 hf17 H.size) (cwV 0 hts gX7_before_X7_briefOnes rfl rfl rfl (by decide +kernel) ⟨(Nat.le_of_ble_eq_true rfl), (Nat.le_of_ble_eq_true rfl)⟩) (k_pV hPc hDc hK hN hC hS hFc hP (q0 := 0) (ci := 7) rfl rfl) rfl rfl hl.1 rfl (lv_room (Nat.le_of_ble_eq_true rfl)) dX7_before_12 ⟨(Nat.le_of_ble_eq_true rfl), (Nat.le_of_ble_eq_true rfl)⟩) hP hD hS hA [0, 1, 2] [3] rfl rfl rfl rfl (by decide) (fun _ => rfl) 0 0 rfl rfl (fun r_12 u_12 H locs hw hP hD hS => ?_)
    obtain g_12_0 := hw
    have hP : va_P (dC, dI) vwCl [((r 49), .inl (cI, 22, .inl f49)), (h, .inr (7, oM r i j)), ((r 14), .inl (cI, 2, .inl f14)), ((r 17), .inl (cI, 20, .inl f17))] H := hP
    have hD : va_D A [((r 49), .inl (cI, 22, .inl f49)), (h, .inr (7, oM r i j)), ((r 14), .inl (cI, 2, .inl f14)), ((r 17), .inl (cI, 20, .inl f17))] := hD
    refine lv_istore_n (lv' := [(2, .int r_12), (0, .ref h), (1, .int x1)]) hx hb dX7_before_15 rfl hl (by decide) rfl (fun ls hl => ?_)
    refine lv_aload_n hx hb dX7_before_16 rfl (lv_at hl 1 rfl) ?_
    refine k_get (D := (dC, dI)) (ci := 7) (v := .ref (r 49)) (C := RX7) (T := TX7) (N := 92) hx hb hts hinX7 hown hK hP 1 rfl rfl 49 (by decide) w_0 rfl rfl dX7_before_17 ?_
    refine lv_iconst (v := 0) hx hb dX7_before_20 (by decide +kernel) ?_
    refine k_iald (v := (f49 0)) hx hb hK hP 0 0 0 rfl rfl rfl (Nat.le_of_ble_eq_true rfl) (Nat.le_of_ble_eq_true rfl) rfl dX7_before_21 ?_
    have f_21_4 : iR (f49 0) 0 1023 := hf49 _
    refine lv_iload_n hx hb dX7_before_22 rfl (lv_at hl 0 rfl) ?_
    refine lv_iand hx hb dX7_before_23 ?_
    refine lv_topi (fun y_23 ey_23 => ?_)
    have f_23_5 : iR y_23 0 1023 := iR_andR ey_23 g_12_0 (by decide +kernel)
    refine lv_if_eq (tgt := 37) hx hb dX7_before_24 (by decide) (fun c_24 => ?_) (fun c_24 => ?_)
    · have c_24 : y_23 = 0 := c_24
      have f_37_6 : iR y_23 0 0 := iR_eqL c_24 f_23_5 (iR_c (n := 0) (by decide +kernel) (by decide +kernel)) (by decide +kernel)
      refine lv_iload_n hx hb dX7_before_37 rfl (lv_at hl 2 rfl) ?_
      refine lv_if_ne (tgt := 50) hx hb dX7_before_38 (by decide) (fun c_38 => ?_) (fun c_38 => ?_)
      · have c_38 : ¬ x1 = 0 := c_38
        have f_50_7 : iR x1 1 2 := iR_ltR (i_ltne d_6_1_0 (fun q => c_38 q.symm)) (iR_c (n := 0) (by decide +kernel) (by decide +kernel)) f_11_3 (by decide +kernel)
        refine lv_iload_n hx hb dX7_before_50 rfl (lv_at hl 2 rfl) ?_
        refine lv_iconst (v := 1) hx hb dX7_before_51 (by decide +kernel) ?_
        refine lv_icmp_ne (tgt := 64) hx hb dX7_before_52 (by decide) (fun c_52 => ?_) (fun c_52 => ?_)
        · have c_52 : ¬ x1 = 1 := c_52
          have f_64_8 : iR x1 2 2 := iR_neL c_52 f_50_7 (iR_c (n := 1) (by decide +kernel) (by decide +kernel)) (by decide +kernel)
          refine lv_aload_n hx hb dX7_before_64 rfl (lv_at hl 1 rfl) ?_
          refine k_get (D := (dC, dI)) (ci := 7) (v := .ref (r 49)) (C := RX7) (T := TX7) (N := 92) hx hb hts hinX7 hown hK hP 1 rfl rfl 49 (by decide) w_0 rfl rfl dX7_before_65 ?_
          refine lv_iconst (v := 0) hx hb dX7_before_68 (by decide +kernel) ?_
          refine k_iald (v := (f49 0)) hx hb hK hP 0 0 0 rfl rfl rfl (Nat.le_of_ble_eq_true rfl) (Nat.le_of_ble_eq_true rfl) rfl dX7_before_69 ?_
          refine lv_iload_n hx hb dX7_before_70 rfl (lv_at hl 0 rfl) ?_
          refine lv_ior hx hb dX7_before_71 ?_
          refine lv_topi (fun y_71 ey_71 => ?_)
          have f_71_9 : iR y_71 0 1023 := iR_or 10 ey_71 f_21_4 g_12_0 (by decide +kernel)
          exact k_ri B hP hD hS dX7_before_72 () [1, 2, 3, 0] rfl rfl rfl (Nat.le_of_ble_eq_true rfl) (Nat.le_of_ble_eq_true rfl) trivial
        · have c_52 : x1 = 1 := c_52
          have f_55_8 : iR x1 1 1 := iR_eqL c_52 f_50_7 (iR_c (n := 1) (by decide +kernel) (by decide +kernel)) (by decide +kernel)
          refine lv_aload_n hx hb dX7_before_55 rfl (lv_at hl 1 rfl) ?_
          refine k_get (D := (dC, dI)) (ci := 7) (v := .ref (r 49)) (C := RX7) (T := TX7) (N := 92) hx hb hts hinX7 hown hK hP 1 rfl rfl 49 (by decide) w_0 rfl rfl dX7_before_56 ?_
          refine lv_iconst (v := 0) hx hb dX7_before_59 (by decide +kernel) ?_
          refine k_iald (v := (f49 0)) hx hb hK hP 0 0 0 rfl rfl rfl (Nat.le_of_ble_eq_true rfl) (Nat.le_of_ble_eq_true rfl) rfl dX7_before_60 ?_
          refine lv_goto (tgt := 72) hx hb dX7_before_61 (by decide) ?_
          exact k_ri B hP hD hS dX7_before_72 () [1, 2, 3, 0] rfl rfl rfl (Nat.le_of_ble_eq_true rfl) (Nat.le_of_ble_eq_true rfl) trivial
      · have c_38 : x1 = 0 := c_38
        have f_41_7 : iR x1 0 0 := iR_eqL c_38 f_11_3 (iR_c (n := 0) (by decide +kernel) (by decide +kernel)) (by decide +kernel)
        refine lv_iconst (v := 1) hx hb dX7_before_41 (by decide +kernel) ?_
        refine lv_iload_n hx hb dX7_before_42 rfl (lv_at hl 0 rfl) ?_
        refine k_ci (wc := []) (wr := [((r 49), .inl (cI, 22, .inl f49)), (h, .inr (7, oM r i j)), ((r 14), .inl (cI, 2, .inl f14)), ((r 17), .inl (cI, 20, .inl f17))]) (fun hPc hDc hFc => va_runS (As := [.int r_12]) (rest := [.int 1]) ⟨hx, hb, hml, hown, hts⟩ (s_X7_bits_v0 l dC dI cI cJ cZ cM r_12 H.size) (va_cwS 1 hts gX7_before_X7_bits rfl rfl rfl (by decide +kernel) ⟨(Nat.le_of_ble_eq_true rfl), (Nat.le_of_ble_eq_true rfl)⟩) (k_pS hPc hDc hK hN hC hS hFc) rfl rfl hl.1 rfl (lv_room (Nat.le_of_ble_eq_true rfl)) dX7_before_43 ⟨(Nat.le_of_ble_eq_true rfl), (Nat.le_of_ble_eq_true rfl)⟩) hP hD hS hA [] [0, 1, 2, 3] rfl rfl rfl rfl (by decide) (fun _ => rfl) 0 0 rfl rfl (fun r_43 u_43 H locs hw hP hD hS => ?_)
        have hP : va_P (dC, dI) vwCl [((r 49), .inl (cI, 22, .inl f49)), (h, .inr (7, oM r i j)), ((r 14), .inl (cI, 2, .inl f14)), ((r 17), .inl (cI, 20, .inl f17))] H := hP
        have hD : va_D A [((r 49), .inl (cI, 22, .inl f49)), (h, .inr (7, oM r i j)), ((r 14), .inl (cI, 2, .inl f14)), ((r 17), .inl (cI, 20, .inl f17))] := hD
        refine lv_ishl hx hb dX7_before_46 ?_
        refine lv_topi (fun y_46 ey_46 => ?_)
        refine lv_goto (tgt := 72) hx hb dX7_before_47 (by decide) ?_
        exact k_ri B hP hD hS dX7_before_72 () [1, 2, 3, 0] rfl rfl rfl (Nat.le_of_ble_eq_true rfl) (Nat.le_of_ble_eq_true rfl) trivial
    · have c_24 : ¬ y_23 = 0 := c_24
      have f_27_6 : iR y_23 1 1023 := iR_neL c_24 f_23_5 (iR_c (n := 0) (by decide +kernel) (by decide +kernel)) (by decide +kernel)
      refine lv_iload_n hx hb dX7_before_27 rfl (lv_at hl 2 rfl) ?_
      refine lv_if_ne (tgt := 35) hx hb dX7_before_28 (by decide) (fun c_28 => ?_) (fun c_28 => ?_)
      · have c_28 : ¬ x1 = 0 := c_28
        have f_35_7 : iR x1 1 2 := iR_ltR (i_ltne d_6_1_0 (fun q => c_28 q.symm)) (iR_c (n := 0) (by decide +kernel) (by decide +kernel)) f_11_3 (by decide +kernel)
        refine lv_iconst (v := (-1)) hx hb dX7_before_35 (by decide +kernel) ?_
        exact k_ri B hP hD hS dX7_before_36 () [1, 2, 3, 0] rfl rfl rfl (Nat.le_of_ble_eq_true rfl) (Nat.le_of_ble_eq_true rfl) trivial
      · have c_28 : x1 = 0 := c_28
        have f_31_7 : iR x1 0 0 := iR_eqL c_28 f_11_3 (iR_c (n := 0) (by decide +kernel) (by decide +kernel)) (by decide +kernel)
        refine lv_iconst (v := 0) hx hb dX7_before_31 (by decide +kernel) ?_
        refine lv_goto (tgt := 36) hx hb dX7_before_32 (by decide) ?_
        exact k_ri B hP hD hS dX7_before_36 () [1, 2, 3, 0] rfl rfl rfl (Nat.le_of_ble_eq_true rfl) (Nat.le_of_ble_eq_true rfl) trivial
  · have c_6 : r_3 = 0 := c_6
    have f_9_1 : iR r_3 0 0 := iR_eqL c_6 g_3_0 (iR_c (n := 0) (by decide +kernel) (by decide +kernel)) (by decide +kernel)
    refine lv_iconst (v := (-1)) hx hb dX7_before_9 (by decide +kernel) ?_
    exact k_ri B hP hD hS dX7_before_10 () [0, 1, 2, 3] rfl rfl rfl (Nat.le_of_ble_eq_true rfl) (Nat.le_of_ble_eq_true rfl) trivial
set_option maxHeartbeats 8000000 in
set_option maxRecDepth 100000 in
theorem s_X7_must_v1 (l : Launch) (dC : Nat → ClassId) (dI : Nat → Nat → Nat) (cI cJ cZ cM : ClassId) (h : Nat) (r : Nat → Nat) (i : Nat → Int32) (j : Nat → Int64) (x1 : Int32) (f0 : Nat → Int32) (hI : mR i) (hf0 : aR f0 0 255) : k_Mv l yX7_must wsX7_must ({ frames := 3, cells := 0, slots := 0, locals := 87 }) (dC, dI) vwCl (tyy cI cJ cZ cM) [(h, .inr (7, oM r i j)), ((r 0), .inl (cI, 1800, .inl f0))] [.ref h, .int x1] 0 0 (fun (u9 : SU) => [(h, .inr (7, oM r (upd (upd (upd (upd (upd (upd (upd i 3 (u9.1 0)) 4 (u9.1 1)) 5 (u9.1 2)) 6 (u9.1 3)) 8 (u9.1 4)) 9 (u9.1 5)) 12 (u9.1 6)) (vp_updL j 7 (u9.2.1 0)))), ((r 0), .inl (cI, 1800, .inl f0))]) (fun (u9 : SU) => (iR (u9.1 0) 0 3) ∧ (iR (u9.1 1) 0 1600) ∧ (iR (u9.1 2) 0 1600) ∧ (iR (u9.1 4) 0 6)) := by
  refine fun sz => k_enter (cc := cX7_must) (maxL := 2) (ret := none) (Qc := fun A => va_Qv (fun (u9 : SU) => (iR (u9.1 0) 0 3) ∧ (iR (u9.1 1) 0 1600) ∧ (iR (u9.1 2) 0 1600) ∧ (iR (u9.1 4) 0 6)) (fun u => k_B (dC, dI) vwCl (tyy cI cJ cZ cM) A ((fun (u9 : SU) => [(h, .inr (7, oM r (upd (upd (upd (upd (upd (upd (upd i 3 (u9.1 0)) 4 (u9.1 1)) 5 (u9.1 2)) 6 (u9.1 3)) 8 (u9.1 4)) 9 (u9.1 5)) 12 (u9.1 6)) (vp_updL j 7 (u9.2.1 0)))), ((r 0), .inl (cI, 1800, .inl f0))]) u)) A) sz (by decide +kernel) rfl (Nat.le_of_ble_eq_true rfl) (fun p e s m args below meth c A ls H locs B hP hD hS hl => ?_)
  obtain ⟨hx, hb, hml, hown, hts, hr, hlk, hnm, hK, hA, hN, hC⟩ := id B
  have hown : s.vm.findClass RX7 = some m.cls := hown
  have hl : lv_has ls 2 [(0, .ref h), (1, .int x1)] := hl
  have w_0 : (Cond.fieldLink RX7 36 "WishSeaModel" "faultKind" "I").before args s = true := hts _ (List.mem_of_getElem? (i := 2) rfl)
  have w_1 : (Cond.fieldLink RX7 23 "WishSeaModel" "signAt" "I").before args s = true := hts _ (List.mem_of_getElem? (i := 1) rfl)
  have hinX7 : ∀ w ∈ u_ws RX7 TX7 92, w ∈ wsX7_must := fun _ h => List.mem_cons_of_mem _ (List.mem_append_right _ h)
  refine lv_aload_n hx hb dX7_must_0 rfl (lv_at hl 0 rfl) ?_
  refine k_cv (wc := [(h, .inr (7, oM r i j))]) (wr := [((r 0), .inl (cI, 1800, .inl f0))]) (fun hPc hDc hFc => va_runV (As := []) (rest := []) ⟨hx, hb, hml, hown, hts⟩ (s_X7_lex_v1 l dC dI cI cJ cZ cM h r i j hI H.size) (cwV 0 hts gX7_must_X7_lex rfl rfl rfl (by decide +kernel) ⟨(Nat.le_of_ble_eq_true rfl), (Nat.le_of_ble_eq_true rfl)⟩) (k_pV hPc hDc hK hN hC hS hFc hP (q0 := 0) (ci := 7) rfl rfl) rfl rfl hl.1 rfl (lv_room (Nat.le_of_ble_eq_true rfl)) dX7_must_1 ⟨(Nat.le_of_ble_eq_true rfl), (Nat.le_of_ble_eq_true rfl)⟩) hP hD hS hA [0] [1] rfl rfl rfl rfl (by decide) (fun _ => rfl) 0 0 rfl rfl (fun u_1 H locs hw hP hD hS => ?_)
  obtain g_1_0 := hw
  have hP : va_P (dC, dI) vwCl [((r 0), .inl (cI, 1800, .inl f0)), (h, .inr (7, oM r (upd (upd i 8 (u_1.1 0)) 9 (u_1.1 1)) j))] H := hP
  have hD : va_D A [((r 0), .inl (cI, 1800, .inl f0)), (h, .inr (7, oM r (upd (upd i 8 (u_1.1 0)) 9 (u_1.1 1)) j))] := hD
  refine lv_aload_n hx hb dX7_must_4 rfl (lv_at hl 0 rfl) ?_
  refine lv_iload_n hx hb dX7_must_5 rfl (lv_at hl 1 rfl) ?_
  refine k_ci (wc := [(h, .inr (7, oM r (upd (upd i 8 (u_1.1 0)) 9 (u_1.1 1)) j))]) (wr := [((r 0), .inl (cI, 1800, .inl f0))]) (fun hPc hDc hFc => va_runV (As := [.int x1]) (rest := []) ⟨hx, hb, hml, hown, hts⟩ (s_X7_isSign_v1 l dC dI cI cJ cZ cM h r (upd (upd i 8 (u_1.1 0)) 9 (u_1.1 1)) j x1 (mR_upd 9 (mR_upd 8 hI (show iR _ (loI 8) (hiI 8) from g_1_0)) (show iR _ (loI 9) (hiI 9) from (iR_top _))) H.size) (cwV 1 hts gX7_must_X7_isSign rfl rfl rfl (by decide +kernel) ⟨(Nat.le_of_ble_eq_true rfl), (Nat.le_of_ble_eq_true rfl)⟩) (k_pV hPc hDc hK hN hC hS hFc hP (q0 := 1) (ci := 7) rfl rfl) rfl rfl hl.1 rfl (lv_room (Nat.le_of_ble_eq_true rfl)) dX7_must_6 ⟨(Nat.le_of_ble_eq_true rfl), (Nat.le_of_ble_eq_true rfl)⟩) hP hD hS hA [1] [0] rfl rfl rfl rfl (by decide) (fun _ => rfl) 0 0 rfl rfl (fun r_6 u_6 H locs hw hP hD hS => ?_)
  obtain g_6_0 := hw
  have hP : va_P (dC, dI) vwCl [((r 0), .inl (cI, 1800, .inl f0)), (h, .inr (7, oM r (upd (upd i 8 (u_1.1 0)) 9 (u_1.1 1)) j))] H := hP
  have hD : va_D A [((r 0), .inl (cI, 1800, .inl f0)), (h, .inr (7, oM r (upd (upd i 8 (u_1.1 0)) 9 (u_1.1 1)) j))] := hD
  have J_21 : ∀ (j21_M0_8 : Int32) (j21_M0_9 : Int32) (hj21_M0_8 : iR j21_M0_8 0 6) (H : Heap) (locs : List Loc) (ls : Array Slot), va_P (dC, dI) vwCl [(h, .inr (7, oM r (upd (upd i 8 j21_M0_8) 9 j21_M0_9) j)), ((r 0), .inl (cI, 1800, .inl f0))] H → va_D A [(h, .inr (7, oM r (upd (upd i 8 j21_M0_8) 9 j21_M0_9) j)), ((r 0), .inl (cI, 1800, .inl f0))] → va_S A s.heap H locs → lv_has ls 2 [(0, .ref h)] → W p l e ({ frames := 3, cells := 0, slots := 0, locals := 87 }) s m args below meth c H locs 0 0 (MQ below (va_Qv (fun (u9 : SU) => (iR (u9.1 0) 0 3) ∧ (iR (u9.1 1) 0 1600) ∧ (iR (u9.1 2) 0 1600) ∧ (iR (u9.1 4) 0 6)) (fun u => k_B (dC, dI) vwCl (tyy cI cJ cZ cM) A ((fun (u9 : SU) => [(h, .inr (7, oM r (upd (upd (upd (upd (upd (upd (upd i 3 (u9.1 0)) 4 (u9.1 1)) 5 (u9.1 2)) 6 (u9.1 3)) 8 (u9.1 4)) 9 (u9.1 5)) 12 (u9.1 6)) (vp_updL j 7 (u9.2.1 0)))), ((r 0), .inl (cI, 1800, .inl f0))]) u)) A) args s 0 0 A) (F0 m 21 ls []) := by
    intro j21_M0_8 j21_M0_9 hj21_M0_8 H locs ls hP hD hS hl
    refine lv_aload_n hx hb dX7_must_21 rfl (lv_at hl 0 rfl) ?_
    refine k_get (D := (dC, dI)) (ci := 7) (v := .int j21_M0_8) (C := RX7) (T := TX7) (N := 92) hx hb hts hinX7 hown hK hP 0 rfl rfl 8 (by decide) w_0 rfl rfl dX7_must_22 ?_
    have J_32 : ∀ (j32_M0_3 : Int32) (j32_M0_4 : Int32) (j32_M0_5 : Int32) (j32_M0_6 : Int32) (j32_M0_7 : Int64) (j32_M0_12 : Int32) (hj32_M0_3 : iR j32_M0_3 0 3) (hj32_M0_4 : iR j32_M0_4 0 1600) (hj32_M0_5 : iR j32_M0_5 0 1600) (H : Heap) (locs : List Loc) (ls : Array Slot), va_P (dC, dI) vwCl [(h, .inr (7, oM r (upd (upd (upd (upd (upd (upd (upd i 3 j32_M0_3) 4 j32_M0_4) 5 j32_M0_5) 6 j32_M0_6) 8 j21_M0_8) 9 j21_M0_9) 12 j32_M0_12) (vp_updL j 7 j32_M0_7))), ((r 0), .inl (cI, 1800, .inl f0))] H → va_D A [(h, .inr (7, oM r (upd (upd (upd (upd (upd (upd (upd i 3 j32_M0_3) 4 j32_M0_4) 5 j32_M0_5) 6 j32_M0_6) 8 j21_M0_8) 9 j21_M0_9) 12 j32_M0_12) (vp_updL j 7 j32_M0_7))), ((r 0), .inl (cI, 1800, .inl f0))] → va_S A s.heap H locs → lv_has ls 2 [] → W p l e ({ frames := 3, cells := 0, slots := 0, locals := 87 }) s m args below meth c H locs 0 0 (MQ below (va_Qv (fun (u9 : SU) => (iR (u9.1 0) 0 3) ∧ (iR (u9.1 1) 0 1600) ∧ (iR (u9.1 2) 0 1600) ∧ (iR (u9.1 4) 0 6)) (fun u => k_B (dC, dI) vwCl (tyy cI cJ cZ cM) A ((fun (u9 : SU) => [(h, .inr (7, oM r (upd (upd (upd (upd (upd (upd (upd i 3 (u9.1 0)) 4 (u9.1 1)) 5 (u9.1 2)) 6 (u9.1 3)) 8 (u9.1 4)) 9 (u9.1 5)) 12 (u9.1 6)) (vp_updL j 7 (u9.2.1 0)))), ((r 0), .inl (cI, 1800, .inl f0))]) u)) A) args s 0 0 A) (F0 m 32 ls []) := by
      intro j32_M0_3 j32_M0_4 j32_M0_5 j32_M0_6 j32_M0_7 j32_M0_12 hj32_M0_3 hj32_M0_4 hj32_M0_5 H locs ls hP hD hS hl
      exact k_rv B hP hD hS dX7_must_32 ((fun k9 => match k9 with | 0 => j32_M0_3 | 1 => j32_M0_4 | 2 => j32_M0_5 | 3 => j32_M0_6 | 4 => j21_M0_8 | 5 => j21_M0_9 | 6 => j32_M0_12 | _ => 0), (fun k9 => match k9 with | 0 => j32_M0_7 | _ => 0), (fun _ => (fun _ => 0)), (fun _ => (fun _ => 0)), (fun _ => 0)) [0, 1] rfl rfl (Nat.le_of_ble_eq_true rfl) (Nat.le_of_ble_eq_true rfl) ⟨hj32_M0_3, hj32_M0_4, hj32_M0_5, hj21_M0_8⟩
    refine lv_if_ne (tgt := 32) hx hb dX7_must_25 (by decide) (fun c_25 => ?_) (fun c_25 => ?_)
    · have c_25 : ¬ j21_M0_8 = 0 := c_25
      have f_32_1 : iR j21_M0_8 1 6 := iR_neL c_25 hj21_M0_8 (iR_c (n := 0) (by decide +kernel) (by decide +kernel)) (by decide +kernel)
      exact J_32 (i 3) (i 4) (i 5) (i 6) (j 7) (i 12) (show iR (i 3) 0 3 from hI 3) (show iR (i 4) 0 1600 from hI 4) (show iR (i 5) 0 1600 from hI 5) H locs ls hP hD hS (lv_sub hl [] rfl)
    · have c_25 : j21_M0_8 = 0 := c_25
      have f_28_1 : iR j21_M0_8 0 0 := iR_eqL c_25 hj21_M0_8 (iR_c (n := 0) (by decide +kernel) (by decide +kernel)) (by decide +kernel)
      refine lv_aload_n hx hb dX7_must_28 rfl (lv_at hl 0 rfl) ?_
      refine k_cv (wc := [(h, .inr (7, oM r (upd (upd i 8 j21_M0_8) 9 j21_M0_9) j)), ((r 0), .inl (cI, 1800, .inl f0))]) (wr := []) (fun hPc hDc hFc => va_runV (As := []) (rest := []) ⟨hx, hb, hml, hown, hts⟩ (s_X7_ahead_v1 l dC dI cI cJ cZ cM h r (upd (upd i 8 j21_M0_8) 9 j21_M0_9) j f0 (mR_upd 9 (mR_upd 8 hI (show iR _ (loI 8) (hiI 8) from (iR_w f_28_1 (by decide +kernel)))) (show iR _ (loI 9) (hiI 9) from (iR_top _))) hf0 H.size) (cwV 0 hts gX7_must_X7_ahead rfl rfl rfl (by decide +kernel) ⟨(Nat.le_of_ble_eq_true rfl), (Nat.le_of_ble_eq_true rfl)⟩) (k_pV hPc hDc hK hN hC hS hFc hP (q0 := 0) (ci := 7) rfl rfl) rfl rfl hl.1 rfl (lv_room (Nat.le_of_ble_eq_true rfl)) dX7_must_29 ⟨(Nat.le_of_ble_eq_true rfl), (Nat.le_of_ble_eq_true rfl)⟩) hP hD hS hA [0, 1] [] rfl rfl rfl rfl (by decide) (fun _ => rfl) 0 0 rfl rfl (fun u_29 H locs hw hP hD hS => ?_)
      obtain ⟨g_29_0, g_29_1, g_29_2, g_29_3⟩ := hw
      have hP : va_P (dC, dI) vwCl [(h, .inr (7, oM r (upd (upd (upd (upd (upd (upd (upd i 3 (u_29.1 0)) 4 (u_29.1 1)) 5 (u_29.1 2)) 6 (u_29.1 3)) 8 j21_M0_8) 9 j21_M0_9) 12 (u_29.1 4)) (vp_updL j 7 (u_29.2.1 0)))), ((r 0), .inl (cI, 1800, .inl f0))] H := hP
      have hD : va_D A [(h, .inr (7, oM r (upd (upd (upd (upd (upd (upd (upd i 3 (u_29.1 0)) 4 (u_29.1 1)) 5 (u_29.1 2)) 6 (u_29.1 3)) 8 j21_M0_8) 9 j21_M0_9) 12 (u_29.1 4)) (vp_updL j 7 (u_29.2.1 0)))), ((r 0), .inl (cI, 1800, .inl f0))] := hD
      exact J_32 (u_29.1 0) (u_29.1 1) (u_29.1 2) (u_29.1 3) (u_29.2.1 0) (u_29.1 4) g_29_0 g_29_1 g_29_2 H locs ls hP hD hS (lv_sub hl [] rfl)
  refine lv_if_ne (tgt := 21) hx hb dX7_must_9 (by decide) (fun c_9 => ?_) (fun c_9 => ?_)
  · have c_9 : ¬ r_6 = 0 := c_9
    have f_21_1 : iR r_6 1 1 := iR_neL c_9 g_6_0 (iR_c (n := 0) (by decide +kernel) (by decide +kernel)) (by decide +kernel)
    exact J_21 (u_1.1 0) (u_1.1 1) g_1_0 H locs ls (hP.sub [1, 0] rfl) (hD.sub [1, 0] (by decide +kernel) rfl) hS (lv_sub hl [0] rfl)
  · have c_9 : r_6 = 0 := c_9
    have f_12_1 : iR r_6 0 0 := iR_eqL c_9 g_6_0 (iR_c (n := 0) (by decide +kernel) (by decide +kernel)) (by decide +kernel)
    refine lv_aload_n hx hb dX7_must_12 rfl (lv_at hl 0 rfl) ?_
    refine lv_iconst (v := 1) hx hb dX7_must_13 (by decide +kernel) ?_
    refine lv_aload_n hx hb dX7_must_14 rfl (lv_at hl 0 rfl) ?_
    have f_15_2 : iR (i 4) 0 1600 := hI 4
    refine k_get (D := (dC, dI)) (ci := 7) (v := .int (i 4)) (C := RX7) (T := TX7) (N := 92) hx hb hts hinX7 hown hK hP 1 rfl rfl 4 (by decide) w_1 rfl rfl dX7_must_15 ?_
    refine k_cv (wc := [(h, .inr (7, oM r (upd (upd i 8 (u_1.1 0)) 9 (u_1.1 1)) j))]) (wr := [((r 0), .inl (cI, 1800, .inl f0))]) (fun hPc hDc hFc => va_runV (As := [.int 1, .int (i 4)]) (rest := []) ⟨hx, hb, hml, hown, hts⟩ (s_X7_blame_v2 l dC dI cI cJ cZ cM h r (upd (upd i 8 (u_1.1 0)) 9 (u_1.1 1)) j 1 (i 4) (iR_c (n := 1) (by decide +kernel) (by decide +kernel)) (mR_upd 9 (mR_upd 8 hI (show iR _ (loI 8) (hiI 8) from g_1_0)) (show iR _ (loI 9) (hiI 9) from (iR_top _))) H.size) (cwV 2 hts gX7_must_X7_blame rfl rfl rfl (by decide +kernel) ⟨(Nat.le_of_ble_eq_true rfl), (Nat.le_of_ble_eq_true rfl)⟩) (k_pV hPc hDc hK hN hC hS hFc hP (q0 := 1) (ci := 7) rfl rfl) rfl rfl hl.1 rfl (lv_room (Nat.le_of_ble_eq_true rfl)) dX7_must_18 ⟨(Nat.le_of_ble_eq_true rfl), (Nat.le_of_ble_eq_true rfl)⟩) hP hD hS hA [1] [0] rfl rfl rfl rfl (by decide) (fun _ => rfl) 0 0 rfl rfl (fun u_18 H locs hw hP hD hS => ?_)
    obtain g_18_0 := hw
    have hP : va_P (dC, dI) vwCl [((r 0), .inl (cI, 1800, .inl f0)), (h, .inr (7, oM r (upd (upd i 8 (u_18.1 0)) 9 (u_18.1 1)) j))] H := hP
    have hD : va_D A [((r 0), .inl (cI, 1800, .inl f0)), (h, .inr (7, oM r (upd (upd i 8 (u_18.1 0)) 9 (u_18.1 1)) j))] := hD
    exact J_21 (u_18.1 0) (u_18.1 1) (iR_w g_18_0 (by decide +kernel)) H locs ls (hP.sub [1, 0] rfl) (hD.sub [1, 0] (by decide +kernel) rfl) hS (lv_sub hl [0] rfl)
set_option maxHeartbeats 8000000 in
set_option maxRecDepth 100000 in
theorem s_X7_finishes_v0 (l : Launch) (dC : Nat → ClassId) (dI : Nat → Nat → Nat) (cI cJ cZ cM : ClassId) (h : Nat) (r : Nat → Nat) (i : Nat → Int32) (j : Nat → Int64) (x1 : Int32) (f0 : Nat → Int32) (hI : mR i) (hf0 : aR f0 0 255) : k_Mv l yX7_finishes wsX7_finishes ({ frames := 4, cells := 0, slots := 0, locals := 108 }) (dC, dI) vwCl (tyy cI cJ cZ cM) [(h, .inr (7, oM r i j)), ((r 0), .inl (cI, 1800, .inl f0))] [.ref h, .int x1] 0 0 (fun (u9 : SU) => [(h, .inr (7, oM r (upd (upd (upd (upd (upd (upd (upd i 3 (u9.1 0)) 4 (u9.1 1)) 5 (u9.1 2)) 6 (u9.1 3)) 8 (u9.1 4)) 9 (u9.1 5)) 12 (u9.1 6)) (vp_updL j 7 (u9.2.1 0)))), ((r 0), .inl (cI, 1800, .inl f0))]) (fun (u9 : SU) => (iR (u9.1 0) 0 3) ∧ (iR (u9.1 1) 0 1600) ∧ (iR (u9.1 2) 0 1600) ∧ (iR (u9.1 4) 0 6)) := by
  refine fun sz => k_enter (cc := cX7_finishes) (maxL := 3) (ret := none) (Qc := fun A => va_Qv (fun (u9 : SU) => (iR (u9.1 0) 0 3) ∧ (iR (u9.1 1) 0 1600) ∧ (iR (u9.1 2) 0 1600) ∧ (iR (u9.1 4) 0 6)) (fun u => k_B (dC, dI) vwCl (tyy cI cJ cZ cM) A ((fun (u9 : SU) => [(h, .inr (7, oM r (upd (upd (upd (upd (upd (upd (upd i 3 (u9.1 0)) 4 (u9.1 1)) 5 (u9.1 2)) 6 (u9.1 3)) 8 (u9.1 4)) 9 (u9.1 5)) 12 (u9.1 6)) (vp_updL j 7 (u9.2.1 0)))), ((r 0), .inl (cI, 1800, .inl f0))]) u)) A) sz (by decide +kernel) rfl (Nat.le_of_ble_eq_true rfl) (fun p e s m args below meth c A ls H locs B hP hD hS hl => ?_)
  obtain ⟨hx, hb, hml, hown, hts, hr, hlk, hnm, hK, hA, hN, hC⟩ := id B
  have hown : s.vm.findClass RX7 = some m.cls := hown
  have hl : lv_has ls 3 [(0, .ref h), (1, .int x1)] := hl
  have w_0 : (Cond.fieldLink RX7 36 "WishSeaModel" "faultKind" "I").before args s = true := hts _ (List.mem_of_getElem? (i := 1) rfl)
  have w_1 : (Cond.fieldLink RX7 26 "WishSeaModel" "signEnd" "I").before args s = true := hts _ (List.mem_of_getElem? (i := 2) rfl)
  have w_2 : (Cond.fieldLink RX7 17 "WishSeaModel" "size" "I").before args s = true := hts _ (List.mem_of_getElem? (i := 3) rfl)
  have w_3 : (Cond.fieldLink RX7 7 "WishSeaModel" "tape" "[I").before args s = true := hts _ (List.mem_of_getElem? (i := 4) rfl)
  have hinX7 : ∀ w ∈ u_ws RX7 TX7 92, w ∈ wsX7_finishes := fun _ h => List.mem_cons_of_mem _ (List.mem_append_right _ h)
  refine lv_aload_n hx hb dX7_finishes_0 rfl (lv_at hl 0 rfl) ?_
  refine k_cv (wc := [(h, .inr (7, oM r i j))]) (wr := [((r 0), .inl (cI, 1800, .inl f0))]) (fun hPc hDc hFc => va_runV (As := []) (rest := []) ⟨hx, hb, hml, hown, hts⟩ (s_X7_lex_v1 l dC dI cI cJ cZ cM h r i j hI H.size) (cwV 0 hts gX7_finishes_X7_lex rfl rfl rfl (by decide +kernel) ⟨(Nat.le_of_ble_eq_true rfl), (Nat.le_of_ble_eq_true rfl)⟩) (k_pV hPc hDc hK hN hC hS hFc hP (q0 := 0) (ci := 7) rfl rfl) rfl rfl hl.1 rfl (lv_room (Nat.le_of_ble_eq_true rfl)) dX7_finishes_1 ⟨(Nat.le_of_ble_eq_true rfl), (Nat.le_of_ble_eq_true rfl)⟩) hP hD hS hA [0] [1] rfl rfl rfl rfl (by decide) (fun _ => rfl) 0 0 rfl rfl (fun u_1 H locs hw hP hD hS => ?_)
  obtain g_1_0 := hw
  have hP : va_P (dC, dI) vwCl [((r 0), .inl (cI, 1800, .inl f0)), (h, .inr (7, oM r (upd (upd i 8 (u_1.1 0)) 9 (u_1.1 1)) j))] H := hP
  have hD : va_D A [((r 0), .inl (cI, 1800, .inl f0)), (h, .inr (7, oM r (upd (upd i 8 (u_1.1 0)) 9 (u_1.1 1)) j))] := hD
  refine lv_aload_n hx hb dX7_finishes_4 rfl (lv_at hl 0 rfl) ?_
  refine k_get (D := (dC, dI)) (ci := 7) (v := .int (u_1.1 0)) (C := RX7) (T := TX7) (N := 92) hx hb hts hinX7 hown hK hP 1 rfl rfl 8 (by decide) w_0 rfl rfl dX7_finishes_5 ?_
  refine lv_if_le (tgt := 12) hx hb dX7_finishes_8 (by decide) (fun c_8 => ?_) (fun c_8 => ?_)
  · have c_8 : (u_1.1 0) ≤ 0 := c_8
    have f_12_1 : iR (u_1.1 0) 0 0 := iR_leL c_8 g_1_0 (iR_c (n := 0) (by decide +kernel) (by decide +kernel)) (by decide +kernel)
    refine lv_aload_n hx hb dX7_finishes_12 rfl (lv_at hl 0 rfl) ?_
    have f_13_2 : iR (i 5) 0 1600 := hI 5
    refine k_get (D := (dC, dI)) (ci := 7) (v := .int (i 5)) (C := RX7) (T := TX7) (N := 92) hx hb hts hinX7 hown hK hP 1 rfl rfl 5 (by decide) w_1 rfl rfl dX7_finishes_13 ?_
    have J_17 : ∀ (n_17 : Nat) (j17_L2 : Int32) (hj17_L2 : iR j17_L2 0 1600) (hm_17 : (1600 - j17_L2.toInt).toNat < n_17) (H : Heap) (locs : List Loc) (ls : Array Slot), va_P (dC, dI) vwCl [(h, .inr (7, oM r (upd (upd i 8 (u_1.1 0)) 9 (u_1.1 1)) j)), ((r 0), .inl (cI, 1800, .inl f0))] H → va_D A [(h, .inr (7, oM r (upd (upd i 8 (u_1.1 0)) 9 (u_1.1 1)) j)), ((r 0), .inl (cI, 1800, .inl f0))] → va_S A s.heap H locs → lv_has ls 3 [(0, .ref h), (1, .int x1), (2, .int j17_L2)] → W p l e ({ frames := 4, cells := 0, slots := 0, locals := 108 }) s m args below meth c H locs 0 0 (MQ below (va_Qv (fun (u9 : SU) => (iR (u9.1 0) 0 3) ∧ (iR (u9.1 1) 0 1600) ∧ (iR (u9.1 2) 0 1600) ∧ (iR (u9.1 4) 0 6)) (fun u => k_B (dC, dI) vwCl (tyy cI cJ cZ cM) A ((fun (u9 : SU) => [(h, .inr (7, oM r (upd (upd (upd (upd (upd (upd (upd i 3 (u9.1 0)) 4 (u9.1 1)) 5 (u9.1 2)) 6 (u9.1 3)) 8 (u9.1 4)) 9 (u9.1 5)) 12 (u9.1 6)) (vp_updL j 7 (u9.2.1 0)))), ((r 0), .inl (cI, 1800, .inl f0))]) u)) A) args s 0 0 A) (F0 m 17 ls []) := by
      intro n_17
      induction n_17 with
      | zero => intro j17_L2 hj17_L2 hm_17; exact absurd hm_17 (Nat.not_lt_zero _)
      | succ n_17 ih_17 =>
        intro j17_L2 hj17_L2 hm_17 H locs ls hP hD hS hl
        refine lv_iload_n hx hb dX7_finishes_17 rfl (lv_at hl 2 rfl) ?_
        refine lv_aload_n hx hb dX7_finishes_18 rfl (lv_at hl 0 rfl) ?_
        have f_19_1 : iR (i 2) 0 1600 := hI 2
        refine k_get (D := (dC, dI)) (ci := 7) (v := .int (i 2)) (C := RX7) (T := TX7) (N := 92) hx hb hts hinX7 hown hK hP 0 rfl rfl 2 (by decide) w_2 rfl rfl dX7_finishes_19 ?_
        have J_53 : ∀   (H : Heap) (locs : List Loc) (ls : Array Slot), va_P (dC, dI) vwCl [(h, .inr (7, oM r (upd (upd i 8 (u_1.1 0)) 9 (u_1.1 1)) j)), ((r 0), .inl (cI, 1800, .inl f0))] H → va_D A [(h, .inr (7, oM r (upd (upd i 8 (u_1.1 0)) 9 (u_1.1 1)) j)), ((r 0), .inl (cI, 1800, .inl f0))] → va_S A s.heap H locs → lv_has ls 3 [(0, .ref h), (1, .int x1), (2, .int j17_L2)] → W p l e ({ frames := 4, cells := 0, slots := 0, locals := 108 }) s m args below meth c H locs 0 0 (MQ below (va_Qv (fun (u9 : SU) => (iR (u9.1 0) 0 3) ∧ (iR (u9.1 1) 0 1600) ∧ (iR (u9.1 2) 0 1600) ∧ (iR (u9.1 4) 0 6)) (fun u => k_B (dC, dI) vwCl (tyy cI cJ cZ cM) A ((fun (u9 : SU) => [(h, .inr (7, oM r (upd (upd (upd (upd (upd (upd (upd i 3 (u9.1 0)) 4 (u9.1 1)) 5 (u9.1 2)) 6 (u9.1 3)) 8 (u9.1 4)) 9 (u9.1 5)) 12 (u9.1 6)) (vp_updL j 7 (u9.2.1 0)))), ((r 0), .inl (cI, 1800, .inl f0))]) u)) A) args s 0 0 A) (F0 m 53 ls []) := by
          intro   H locs ls hP hD hS hl
          refine lv_aload_n hx hb dX7_finishes_53 rfl (lv_at hl 0 rfl) ?_
          refine lv_bipush (v := 59) hx hb dX7_finishes_54 (by decide +kernel) ?_
          refine k_ci (wc := [(h, .inr (7, oM r (upd (upd i 8 (u_1.1 0)) 9 (u_1.1 1)) j))]) (wr := [((r 0), .inl (cI, 1800, .inl f0))]) (fun hPc hDc hFc => va_runV (As := [.int 59]) (rest := []) ⟨hx, hb, hml, hown, hts⟩ (s_X7_isSign_v1 l dC dI cI cJ cZ cM h r (upd (upd i 8 (u_1.1 0)) 9 (u_1.1 1)) j 59 (mR_upd 9 (mR_upd 8 hI (show iR _ (loI 8) (hiI 8) from (iR_w f_12_1 (by decide +kernel)))) (show iR _ (loI 9) (hiI 9) from (iR_top _))) H.size) (cwV 1 hts gX7_finishes_X7_isSign rfl rfl rfl (by decide +kernel) ⟨(Nat.le_of_ble_eq_true rfl), (Nat.le_of_ble_eq_true rfl)⟩) (k_pV hPc hDc hK hN hC hS hFc hP (q0 := 0) (ci := 7) rfl rfl) rfl rfl hl.1 rfl (lv_room (Nat.le_of_ble_eq_true rfl)) dX7_finishes_56 ⟨(Nat.le_of_ble_eq_true rfl), (Nat.le_of_ble_eq_true rfl)⟩) hP hD hS hA [0] [1] rfl rfl rfl rfl (by decide) (fun _ => rfl) 0 0 rfl rfl (fun r_56 u_56 H locs hw hP hD hS => ?_)
          obtain g_56_0 := hw
          have hP : va_P (dC, dI) vwCl [((r 0), .inl (cI, 1800, .inl f0)), (h, .inr (7, oM r (upd (upd i 8 (u_1.1 0)) 9 (u_1.1 1)) j))] H := hP
          have hD : va_D A [((r 0), .inl (cI, 1800, .inl f0)), (h, .inr (7, oM r (upd (upd i 8 (u_1.1 0)) 9 (u_1.1 1)) j))] := hD
          have J_83 : ∀ (j83_M0_8 : Int32) (j83_M0_9 : Int32) (hj83_M0_8 : iR j83_M0_8 0 6) (H : Heap) (locs : List Loc) (ls : Array Slot), va_P (dC, dI) vwCl [(h, .inr (7, oM r (upd (upd i 8 j83_M0_8) 9 j83_M0_9) j)), ((r 0), .inl (cI, 1800, .inl f0))] H → va_D A [(h, .inr (7, oM r (upd (upd i 8 j83_M0_8) 9 j83_M0_9) j)), ((r 0), .inl (cI, 1800, .inl f0))] → va_S A s.heap H locs → lv_has ls 3 [(0, .ref h)] → W p l e ({ frames := 4, cells := 0, slots := 0, locals := 108 }) s m args below meth c H locs 0 0 (MQ below (va_Qv (fun (u9 : SU) => (iR (u9.1 0) 0 3) ∧ (iR (u9.1 1) 0 1600) ∧ (iR (u9.1 2) 0 1600) ∧ (iR (u9.1 4) 0 6)) (fun u => k_B (dC, dI) vwCl (tyy cI cJ cZ cM) A ((fun (u9 : SU) => [(h, .inr (7, oM r (upd (upd (upd (upd (upd (upd (upd i 3 (u9.1 0)) 4 (u9.1 1)) 5 (u9.1 2)) 6 (u9.1 3)) 8 (u9.1 4)) 9 (u9.1 5)) 12 (u9.1 6)) (vp_updL j 7 (u9.2.1 0)))), ((r 0), .inl (cI, 1800, .inl f0))]) u)) A) args s 0 0 A) (F0 m 83 ls []) := by
            intro j83_M0_8 j83_M0_9 hj83_M0_8 H locs ls hP hD hS hl
            refine lv_aload_n hx hb dX7_finishes_83 rfl (lv_at hl 0 rfl) ?_
            refine lv_bipush (v := 59) hx hb dX7_finishes_84 (by decide +kernel) ?_
            refine k_cv (wc := [(h, .inr (7, oM r (upd (upd i 8 j83_M0_8) 9 j83_M0_9) j)), ((r 0), .inl (cI, 1800, .inl f0))]) (wr := []) (fun hPc hDc hFc => va_runV (As := [.int 59]) (rest := []) ⟨hx, hb, hml, hown, hts⟩ (s_X7_must_v1 l dC dI cI cJ cZ cM h r (upd (upd i 8 j83_M0_8) 9 j83_M0_9) j 59 f0 (mR_upd 9 (mR_upd 8 hI (show iR _ (loI 8) (hiI 8) from hj83_M0_8)) (show iR _ (loI 9) (hiI 9) from (iR_top _))) hf0 H.size) (cwV 1 hts gX7_finishes_X7_must rfl rfl rfl (by decide +kernel) ⟨(Nat.le_of_ble_eq_true rfl), (Nat.le_of_ble_eq_true rfl)⟩) (k_pV hPc hDc hK hN hC hS hFc hP (q0 := 0) (ci := 7) rfl rfl) rfl rfl hl.1 rfl (lv_room (Nat.le_of_ble_eq_true rfl)) dX7_finishes_86 ⟨(Nat.le_of_ble_eq_true rfl), (Nat.le_of_ble_eq_true rfl)⟩) hP hD hS hA [0, 1] [] rfl rfl rfl rfl (by decide) (fun _ => rfl) 0 0 rfl rfl (fun u_86 H locs hw hP hD hS => ?_)
            obtain ⟨g_86_0, g_86_1, g_86_2, g_86_3⟩ := hw
            have hP : va_P (dC, dI) vwCl [(h, .inr (7, oM r (upd (upd (upd (upd (upd (upd (upd i 3 (u_86.1 0)) 4 (u_86.1 1)) 5 (u_86.1 2)) 6 (u_86.1 3)) 8 (u_86.1 4)) 9 (u_86.1 5)) 12 (u_86.1 6)) (vp_updL j 7 (u_86.2.1 0)))), ((r 0), .inl (cI, 1800, .inl f0))] H := hP
            have hD : va_D A [(h, .inr (7, oM r (upd (upd (upd (upd (upd (upd (upd i 3 (u_86.1 0)) 4 (u_86.1 1)) 5 (u_86.1 2)) 6 (u_86.1 3)) 8 (u_86.1 4)) 9 (u_86.1 5)) 12 (u_86.1 6)) (vp_updL j 7 (u_86.2.1 0)))), ((r 0), .inl (cI, 1800, .inl f0))] := hD
            exact k_rv B hP hD hS dX7_finishes_89 ((fun k9 => match k9 with | 0 => (u_86.1 0) | 1 => (u_86.1 1) | 2 => (u_86.1 2) | 3 => (u_86.1 3) | 4 => (u_86.1 4) | 5 => (u_86.1 5) | 6 => (u_86.1 6) | _ => 0), (fun k9 => match k9 with | 0 => (u_86.2.1 0) | _ => 0), (fun _ => (fun _ => 0)), (fun _ => (fun _ => 0)), (fun _ => 0)) [0, 1] rfl rfl (Nat.le_of_ble_eq_true rfl) (Nat.le_of_ble_eq_true rfl) ⟨g_86_0, g_86_1, g_86_2, g_86_3⟩
          refine lv_if_eq (tgt := 83) hx hb dX7_finishes_59 (by decide) (fun c_59 => ?_) (fun c_59 => ?_)
          · have c_59 : r_56 = 0 := c_59
            have f_83_1 : iR r_56 0 0 := iR_eqL c_59 g_56_0 (iR_c (n := 0) (by decide +kernel) (by decide +kernel)) (by decide +kernel)
            exact J_83 (u_1.1 0) (u_1.1 1) (iR_w f_12_1 (by decide +kernel)) H locs ls (hP.sub [1, 0] rfl) (hD.sub [1, 0] (by decide +kernel) rfl) hS (lv_sub hl [0] rfl)
          · have c_59 : ¬ r_56 = 0 := c_59
            have f_62_1 : iR r_56 1 1 := iR_neL c_59 g_56_0 (iR_c (n := 0) (by decide +kernel) (by decide +kernel)) (by decide +kernel)
            refine lv_iload_n hx hb dX7_finishes_62 rfl (lv_at hl 1 rfl) ?_
            refine lv_bipush (v := 80) hx hb dX7_finishes_63 (by decide +kernel) ?_
            refine lv_icmp_ne (tgt := 83) hx hb dX7_finishes_65 (by decide) (fun c_65 => ?_) (fun c_65 => ?_)
            · have c_65 : ¬ x1 = 80 := c_65
              exact J_83 (u_1.1 0) (u_1.1 1) (iR_w f_12_1 (by decide +kernel)) H locs ls (hP.sub [1, 0] rfl) (hD.sub [1, 0] (by decide +kernel) rfl) hS (lv_sub hl [0] rfl)
            · have c_65 : x1 = 80 := c_65
              have f_68_2 : iR x1 80 80 := iR_eqL c_65 (iR_top _) (iR_c (n := 80) (by decide +kernel) (by decide +kernel)) (by decide +kernel)
              refine lv_iload_n hx hb dX7_finishes_68 rfl (lv_at hl 2 rfl) ?_
              refine lv_aload_n hx hb dX7_finishes_69 rfl (lv_at hl 0 rfl) ?_
              refine k_get (D := (dC, dI)) (ci := 7) (v := .int (i 2)) (C := RX7) (T := TX7) (N := 92) hx hb hts hinX7 hown hK hP 1 rfl rfl 2 (by decide) w_2 rfl rfl dX7_finishes_70 ?_
              refine lv_icmp_ge (tgt := 83) hx hb dX7_finishes_73 (by decide) (fun c_73 => ?_) (fun c_73 => ?_)
              · have c_73 : (i 2) ≤ j17_L2 := c_73
                exact J_83 (u_1.1 0) (u_1.1 1) (iR_w f_12_1 (by decide +kernel)) H locs ls (hP.sub [1, 0] rfl) (hD.sub [1, 0] (by decide +kernel) rfl) hS (lv_sub hl [0] rfl)
              · have c_73 : j17_L2 < (i 2) := i_nle c_73
                have f_76_3 : iR j17_L2 0 1599 := iR_ltL c_73 hj17_L2 f_19_1 (by decide +kernel)
                have f_76_4 : iR (i 2) 1 1600 := iR_ltR c_73 hj17_L2 f_19_1 (by decide +kernel)
                refine lv_aload_n hx hb dX7_finishes_76 rfl (lv_at hl 0 rfl) ?_
                refine lv_bipush (v := 6) hx hb dX7_finishes_77 (by decide +kernel) ?_
                refine lv_iload_n hx hb dX7_finishes_79 rfl (lv_at hl 2 rfl) ?_
                refine k_cv (wc := [(h, .inr (7, oM r (upd (upd i 8 (u_1.1 0)) 9 (u_1.1 1)) j))]) (wr := [((r 0), .inl (cI, 1800, .inl f0))]) (fun hPc hDc hFc => va_runV (As := [.int 6, .int j17_L2]) (rest := []) ⟨hx, hb, hml, hown, hts⟩ (s_X7_blame_v2 l dC dI cI cJ cZ cM h r (upd (upd i 8 (u_1.1 0)) 9 (u_1.1 1)) j 6 j17_L2 (iR_c (n := 6) (by decide +kernel) (by decide +kernel)) (mR_upd 9 (mR_upd 8 hI (show iR _ (loI 8) (hiI 8) from (iR_w f_12_1 (by decide +kernel)))) (show iR _ (loI 9) (hiI 9) from (iR_top _))) H.size) (cwV 2 hts gX7_finishes_X7_blame rfl rfl rfl (by decide +kernel) ⟨(Nat.le_of_ble_eq_true rfl), (Nat.le_of_ble_eq_true rfl)⟩) (k_pV hPc hDc hK hN hC hS hFc hP (q0 := 1) (ci := 7) rfl rfl) rfl rfl hl.1 rfl (lv_room (Nat.le_of_ble_eq_true rfl)) dX7_finishes_80 ⟨(Nat.le_of_ble_eq_true rfl), (Nat.le_of_ble_eq_true rfl)⟩) hP hD hS hA [1] [0] rfl rfl rfl rfl (by decide) (fun _ => rfl) 0 0 rfl rfl (fun u_80 H locs hw hP hD hS => ?_)
                obtain g_80_0 := hw
                have hP : va_P (dC, dI) vwCl [((r 0), .inl (cI, 1800, .inl f0)), (h, .inr (7, oM r (upd (upd i 8 (u_80.1 0)) 9 (u_80.1 1)) j))] H := hP
                have hD : va_D A [((r 0), .inl (cI, 1800, .inl f0)), (h, .inr (7, oM r (upd (upd i 8 (u_80.1 0)) 9 (u_80.1 1)) j))] := hD
                exact J_83 (u_80.1 0) (u_80.1 1) (iR_w g_80_0 (by decide +kernel)) H locs ls (hP.sub [1, 0] rfl) (hD.sub [1, 0] (by decide +kernel) rfl) hS (lv_sub hl [0] rfl)
        refine lv_icmp_ge (tgt := 53) hx hb dX7_finishes_22 (by decide) (fun c_22 => ?_) (fun c_22 => ?_)
        · have c_22 : (i 2) ≤ j17_L2 := c_22
          exact J_53   H locs ls hP hD hS (lv_sub hl [0, 1, 2] rfl)
        · have c_22 : j17_L2 < (i 2) := i_nle c_22
          have f_25_2 : iR j17_L2 0 1599 := iR_ltL c_22 hj17_L2 f_19_1 (by decide +kernel)
          have f_25_3 : iR (i 2) 1 1600 := iR_ltR c_22 hj17_L2 f_19_1 (by decide +kernel)
          refine lv_aload_n hx hb dX7_finishes_25 rfl (lv_at hl 0 rfl) ?_
          refine k_get (D := (dC, dI)) (ci := 7) (v := .ref (r 0)) (C := RX7) (T := TX7) (N := 92) hx hb hts hinX7 hown hK hP 0 rfl rfl 0 (by decide) w_3 rfl rfl dX7_finishes_26 ?_
          refine lv_iload_n hx hb dX7_finishes_29 rfl (lv_at hl 2 rfl) ?_
          refine va_iald hx hb hK hP 1 0 rfl rfl (iR_vp f_25_2 (by decide +kernel)) dX7_finishes_30 ?_
          have f_30_4 : iR (f0 j17_L2.toNatClampNeg) 0 255 := hf0 _
          refine lv_bipush (v := 32) hx hb dX7_finishes_31 (by decide +kernel) ?_
          have J_47 : ∀  (k47_0 : iR (f0 j17_L2.toNatClampNeg) 10 32) (H : Heap) (locs : List Loc) (ls : Array Slot), va_P (dC, dI) vwCl [(h, .inr (7, oM r (upd (upd i 8 (u_1.1 0)) 9 (u_1.1 1)) j)), ((r 0), .inl (cI, 1800, .inl f0))] H → va_D A [(h, .inr (7, oM r (upd (upd i 8 (u_1.1 0)) 9 (u_1.1 1)) j)), ((r 0), .inl (cI, 1800, .inl f0))] → va_S A s.heap H locs → lv_has ls 3 [(0, .ref h), (1, .int x1), (2, .int j17_L2)] → W p l e ({ frames := 4, cells := 0, slots := 0, locals := 108 }) s m args below meth c H locs 0 0 (MQ below (va_Qv (fun (u9 : SU) => (iR (u9.1 0) 0 3) ∧ (iR (u9.1 1) 0 1600) ∧ (iR (u9.1 2) 0 1600) ∧ (iR (u9.1 4) 0 6)) (fun u => k_B (dC, dI) vwCl (tyy cI cJ cZ cM) A ((fun (u9 : SU) => [(h, .inr (7, oM r (upd (upd (upd (upd (upd (upd (upd i 3 (u9.1 0)) 4 (u9.1 1)) 5 (u9.1 2)) 6 (u9.1 3)) 8 (u9.1 4)) 9 (u9.1 5)) 12 (u9.1 6)) (vp_updL j 7 (u9.2.1 0)))), ((r 0), .inl (cI, 1800, .inl f0))]) u)) A) args s 0 0 A) (F0 m 47 ls []) := by
            intro  k47_0 H locs ls hP hD hS hl
            obtain ⟨y_47, ey_47⟩ : ∃ y : Int32, y = j17_L2 + 1 := ⟨_, rfl⟩
            refine lv_iinc (v := y_47) (lv' := [(2, .int y_47), (0, .ref h), (1, .int x1)]) hx hb dX7_finishes_47 hl (k := 2) rfl ey_47.symm (by decide) rfl (fun ls hl => ?_)
            have f_47_1 : iR y_47 1 1600 := iR_add ey_47 f_25_2 (iR_c (n := 1) (by decide +kernel) (by decide +kernel)) (by decide +kernel)
            refine lv_goto (tgt := 17) hx hb dX7_finishes_50 (by decide) ?_
            exact ih_17 y_47 (iR_w f_47_1 (by decide +kernel)) (m_up (B := 1600) hm_17 ey_47 f_25_2 (by decide +kernel)) H locs ls hP hD hS (lv_sub hl [1, 2, 0] rfl)
          refine lv_icmp_eq (tgt := 47) hx hb dX7_finishes_33 (by decide) (fun c_33 => ?_) (fun c_33 => ?_)
          · have c_33 : (f0 j17_L2.toNatClampNeg) = 32 := c_33
            have f_47_5 : iR (f0 j17_L2.toNatClampNeg) 32 32 := iR_eqL c_33 f_30_4 (iR_c (n := 32) (by decide +kernel) (by decide +kernel)) (by decide +kernel)
            exact J_47  (iR_w f_47_5 (by decide +kernel)) H locs ls hP hD hS (lv_sub hl [0, 1, 2] rfl)
          · have c_33 : ¬ (f0 j17_L2.toNatClampNeg) = 32 := c_33
            refine lv_aload_n hx hb dX7_finishes_36 rfl (lv_at hl 0 rfl) ?_
            refine k_get (D := (dC, dI)) (ci := 7) (v := .ref (r 0)) (C := RX7) (T := TX7) (N := 92) hx hb hts hinX7 hown hK hP 0 rfl rfl 0 (by decide) w_3 rfl rfl dX7_finishes_37 ?_
            refine lv_iload_n hx hb dX7_finishes_40 rfl (lv_at hl 2 rfl) ?_
            refine va_iald hx hb hK hP 1 0 rfl rfl (iR_vp f_25_2 (by decide +kernel)) dX7_finishes_41 ?_
            refine lv_bipush (v := 10) hx hb dX7_finishes_42 (by decide +kernel) ?_
            refine lv_icmp_ne (tgt := 53) hx hb dX7_finishes_44 (by decide) (fun c_44 => ?_) (fun c_44 => ?_)
            · have c_44 : ¬ (f0 j17_L2.toNatClampNeg) = 10 := c_44
              exact J_53   H locs ls hP hD hS (lv_sub hl [0, 1, 2] rfl)
            · have c_44 : (f0 j17_L2.toNatClampNeg) = 10 := c_44
              have f_47_5 : iR (f0 j17_L2.toNatClampNeg) 10 10 := iR_eqL c_44 f_30_4 (iR_c (n := 10) (by decide +kernel) (by decide +kernel)) (by decide +kernel)
              exact J_47  (iR_w f_47_5 (by decide +kernel)) H locs ls hP hD hS (lv_sub hl [0, 1, 2] rfl)
    refine lv_istore_n (lv' := [(2, .int (i 5)), (0, .ref h), (1, .int x1)]) hx hb dX7_finishes_16 rfl hl (by decide) rfl (fun ls hl => ?_)
    exact J_17 _ (i 5) f_13_2 (Nat.lt_succ_self _) H locs ls (hP.sub [1, 0] rfl) (hD.sub [1, 0] (by decide +kernel) rfl) hS (lv_sub hl [1, 2, 0] rfl)
  · have c_8 : 0 < (u_1.1 0) := i_nle c_8
    have f_11_1 : iR (u_1.1 0) 1 6 := iR_ltR c_8 (iR_c (n := 0) (by decide +kernel) (by decide +kernel)) g_1_0 (by decide +kernel)
    exact k_rv B hP hD hS dX7_finishes_11 ((fun k9 => match k9 with | 0 => (i 3) | 1 => (i 4) | 2 => (i 5) | 3 => (i 6) | 4 => (u_1.1 0) | 5 => (u_1.1 1) | 6 => (i 12) | _ => 0), (fun k9 => match k9 with | 0 => (j 7) | _ => 0), (fun _ => (fun _ => 0)), (fun _ => (fun _ => 0)), (fun _ => 0)) [1, 0] rfl rfl (Nat.le_of_ble_eq_true rfl) (Nat.le_of_ble_eq_true rfl) ⟨(hI 3), (hI 4), (hI 5), (iR_w f_11_1 (by decide +kernel))⟩
set_option maxHeartbeats 8000000 in
set_option maxRecDepth 100000 in
theorem s_X7_canBear_v1 (l : Launch) (dC : Nat → ClassId) (dI : Nat → Nat → Nat) (cI cJ cZ cM : ClassId) (h : Nat) (r : Nat → Nat) (i : Nat → Int32) (j : Nat → Int64) (x1 : Int32) (f78 : Nat → Int32) (f79 : Nat → Int32) (hI : mR i) : k_Mi l yX7_canBear wsX7_canBear ({ frames := 1, cells := 0, slots := 0, locals := 40 }) (dC, dI) vwCl (tyy cI cJ cZ cM) [(h, .inr (7, oM r i j)), ((r 78), .inl (cI, 20, .inl f78)), ((r 79), .inl (cI, 20, .inl f79))] [.ref h, .int x1] 0 0 (fun (u9 : Unit) => [(h, .inr (7, oM r i j)), ((r 78), .inl (cI, 20, .inl f78)), ((r 79), .inl (cI, 20, .inl f79))]) (fun (r9 : Int32) (u9 : Unit) => (iR r9 0 1)) := by
  refine fun sz => k_enter (cc := cX7_canBear) (maxL := 3) (ret := some (.boolean)) (Qc := fun A => va_Qi (fun (r9 : Int32) (u9 : Unit) => (iR r9 0 1)) (fun u => k_B (dC, dI) vwCl (tyy cI cJ cZ cM) A ((fun (u9 : Unit) => [(h, .inr (7, oM r i j)), ((r 78), .inl (cI, 20, .inl f78)), ((r 79), .inl (cI, 20, .inl f79))]) u)) A) sz (by decide +kernel) rfl (Nat.le_of_ble_eq_true rfl) (fun p e s m args below meth c A ls H locs B hP hD hS hl => ?_)
  obtain ⟨hx, hb, hml, hown, hts, hr, hlk, hnm, hK, hA, hN, hC⟩ := id B
  have hown : s.vm.findClass RX7 = some m.cls := hown
  have hl : lv_has ls 3 [(0, .ref h), (1, .int x1)] := hl
  have w_0 : (Cond.fieldLink RX7 246 "WishSeaModel" "fallMany" "I").before args s = true := hts _ (List.mem_of_getElem? (i := 1) rfl)
  have w_1 : (Cond.fieldLink RX7 249 "WishSeaModel" "fallDark" "[I").before args s = true := hts _ (List.mem_of_getElem? (i := 2) rfl)
  have w_2 : (Cond.fieldLink RX7 252 "WishSeaModel" "fallIs" "[I").before args s = true := hts _ (List.mem_of_getElem? (i := 3) rfl)
  have hinX7 : ∀ w ∈ u_ws RX7 TX7 92, w ∈ wsX7_canBear := fun _ h => List.mem_cons_of_mem _ (List.mem_append_right _ h)
  refine lv_iconst (v := 0) hx hb dX7_canBear_0 (by decide +kernel) ?_
  have J_2 : ∀ (n_2 : Nat) (j2_L2 : Int32) (hj2_L2 : iR j2_L2 0 20) (hm_2 : (20 - j2_L2.toInt).toNat < n_2) (H : Heap) (locs : List Loc) (ls : Array Slot), va_P (dC, dI) vwCl [(h, .inr (7, oM r i j)), ((r 78), .inl (cI, 20, .inl f78)), ((r 79), .inl (cI, 20, .inl f79))] H → va_D A [(h, .inr (7, oM r i j)), ((r 78), .inl (cI, 20, .inl f78)), ((r 79), .inl (cI, 20, .inl f79))] → va_S A s.heap H locs → lv_has ls 3 [(0, .ref h), (1, .int x1), (2, .int j2_L2)] → W p l e ({ frames := 1, cells := 0, slots := 0, locals := 40 }) s m args below meth c H locs 0 0 (MQ below (va_Qi (fun (r9 : Int32) (u9 : Unit) => (iR r9 0 1)) (fun u => k_B (dC, dI) vwCl (tyy cI cJ cZ cM) A ((fun (u9 : Unit) => [(h, .inr (7, oM r i j)), ((r 78), .inl (cI, 20, .inl f78)), ((r 79), .inl (cI, 20, .inl f79))]) u)) A) args s 0 0 A) (F0 m 2 ls []) := by
    intro n_2
    induction n_2 with
    | zero => intro j2_L2 hj2_L2 hm_2; exact absurd hm_2 (Nat.not_lt_zero _)
    | succ n_2 ih_2 =>
      intro j2_L2 hj2_L2 hm_2 H locs ls hP hD hS hl
      refine lv_iload_n hx hb dX7_canBear_2 rfl (lv_at hl 2 rfl) ?_
      refine lv_aload_n hx hb dX7_canBear_3 rfl (lv_at hl 0 rfl) ?_
      have f_4_1 : iR (i 77) 0 20 := hI 77
      refine k_get (D := (dC, dI)) (ci := 7) (v := .int (i 77)) (C := RX7) (T := TX7) (N := 92) hx hb hts hinX7 hown hK hP 0 rfl rfl 77 (by decide) w_0 rfl rfl dX7_canBear_4 ?_
      refine lv_icmp_ge (tgt := 42) hx hb dX7_canBear_7 (by decide) (fun c_7 => ?_) (fun c_7 => ?_)
      · have c_7 : (i 77) ≤ j2_L2 := c_7
        refine lv_iconst (v := 1) hx hb dX7_canBear_42 (by decide +kernel) ?_
        exact k_ri B hP hD hS dX7_canBear_43 () [0, 1, 2] rfl rfl rfl (Nat.le_of_ble_eq_true rfl) (Nat.le_of_ble_eq_true rfl) (iR_c (n := 1) (by decide +kernel) (by decide +kernel))
      · have c_7 : j2_L2 < (i 77) := i_nle c_7
        have f_10_2 : iR j2_L2 0 19 := iR_ltL c_7 hj2_L2 f_4_1 (by decide +kernel)
        have f_10_3 : iR (i 77) 1 20 := iR_ltR c_7 hj2_L2 f_4_1 (by decide +kernel)
        refine lv_aload_n hx hb dX7_canBear_10 rfl (lv_at hl 0 rfl) ?_
        refine k_get (D := (dC, dI)) (ci := 7) (v := .ref (r 78)) (C := RX7) (T := TX7) (N := 92) hx hb hts hinX7 hown hK hP 0 rfl rfl 78 (by decide) w_1 rfl rfl dX7_canBear_11 ?_
        refine lv_iload_n hx hb dX7_canBear_14 rfl (lv_at hl 2 rfl) ?_
        refine va_iald hx hb hK hP 1 0 rfl rfl (iR_vp f_10_2 (by decide +kernel)) dX7_canBear_15 ?_
        refine lv_iload_n hx hb dX7_canBear_16 rfl (lv_at hl 1 rfl) ?_
        have J_25 : ∀ (j25_S0 : Int32) (hj25_S0 : iR j25_S0 0 1) (H : Heap) (locs : List Loc) (ls : Array Slot), va_P (dC, dI) vwCl [(h, .inr (7, oM r i j)), ((r 78), .inl (cI, 20, .inl f78)), ((r 79), .inl (cI, 20, .inl f79))] H → va_D A [(h, .inr (7, oM r i j)), ((r 78), .inl (cI, 20, .inl f78)), ((r 79), .inl (cI, 20, .inl f79))] → va_S A s.heap H locs → lv_has ls 3 [(0, .ref h), (1, .int x1), (2, .int j2_L2)] → W p l e ({ frames := 1, cells := 0, slots := 0, locals := 40 }) s m args below meth c H locs 0 0 (MQ below (va_Qi (fun (r9 : Int32) (u9 : Unit) => (iR r9 0 1)) (fun u => k_B (dC, dI) vwCl (tyy cI cJ cZ cM) A ((fun (u9 : Unit) => [(h, .inr (7, oM r i j)), ((r 78), .inl (cI, 20, .inl f78)), ((r 79), .inl (cI, 20, .inl f79))]) u)) A) args s 0 0 A) (F0 m 25 ls [.int j25_S0]) := by
          intro j25_S0 hj25_S0 H locs ls hP hD hS hl
          refine lv_aload_n hx hb dX7_canBear_25 rfl (lv_at hl 0 rfl) ?_
          refine k_get (D := (dC, dI)) (ci := 7) (v := .ref (r 79)) (C := RX7) (T := TX7) (N := 92) hx hb hts hinX7 hown hK hP 0 rfl rfl 79 (by decide) w_2 rfl rfl dX7_canBear_26 ?_
          refine lv_iload_n hx hb dX7_canBear_29 rfl (lv_at hl 2 rfl) ?_
          refine va_iald hx hb hK hP 2 0 rfl rfl (iR_vp f_10_2 (by decide +kernel)) dX7_canBear_30 ?_
          refine lv_icmp_eq (tgt := 36) hx hb dX7_canBear_31 (by decide) (fun c_31 => ?_) (fun c_31 => ?_)
          · have c_31 : j25_S0 = (f79 j2_L2.toNatClampNeg) := c_31
            have f_36_1 : iR (f79 j2_L2.toNatClampNeg) 0 1 := iR_eqR c_31 hj25_S0 (iR_top _) (by decide +kernel)
            obtain ⟨y_36, ey_36⟩ : ∃ y : Int32, y = j2_L2 + 1 := ⟨_, rfl⟩
            refine lv_iinc (v := y_36) (lv' := [(2, .int y_36), (0, .ref h), (1, .int x1)]) hx hb dX7_canBear_36 hl (k := 2) rfl ey_36.symm (by decide) rfl (fun ls hl => ?_)
            have f_36_2 : iR y_36 1 20 := iR_add ey_36 f_10_2 (iR_c (n := 1) (by decide +kernel) (by decide +kernel)) (by decide +kernel)
            refine lv_goto (tgt := 2) hx hb dX7_canBear_39 (by decide) ?_
            exact ih_2 y_36 (iR_w f_36_2 (by decide +kernel)) (m_up (B := 20) hm_2 ey_36 f_10_2 (by decide +kernel)) H locs ls hP hD hS (lv_sub hl [1, 2, 0] rfl)
          · have c_31 : ¬ j25_S0 = (f79 j2_L2.toNatClampNeg) := c_31
            refine lv_iconst (v := 0) hx hb dX7_canBear_34 (by decide +kernel) ?_
            exact k_ri B hP hD hS dX7_canBear_35 () [0, 1, 2] rfl rfl rfl (Nat.le_of_ble_eq_true rfl) (Nat.le_of_ble_eq_true rfl) (iR_c (n := 0) (by decide +kernel) (by decide +kernel))
        refine lv_icmp_le (tgt := 24) hx hb dX7_canBear_17 (by decide) (fun c_17 => ?_) (fun c_17 => ?_)
        · have c_17 : (f78 j2_L2.toNatClampNeg) ≤ x1 := c_17
          refine lv_iconst (v := 0) hx hb dX7_canBear_24 (by decide +kernel) ?_
          exact J_25 0 (iR_c (n := 0) (by decide +kernel) (by decide +kernel)) H locs ls hP hD hS (lv_sub hl [0, 1, 2] rfl)
        · have c_17 : x1 < (f78 j2_L2.toNatClampNeg) := i_nle c_17
          have f_20_4 : iR x1 (-2147483648) 2147483646 := iR_ltL c_17 (iR_top _) (iR_top _) (by decide +kernel)
          have f_20_5 : iR (f78 j2_L2.toNatClampNeg) (-2147483647) 2147483647 := iR_ltR c_17 (iR_top _) (iR_top _) (by decide +kernel)
          refine lv_iconst (v := 1) hx hb dX7_canBear_20 (by decide +kernel) ?_
          refine lv_goto (tgt := 25) hx hb dX7_canBear_21 (by decide) ?_
          exact J_25 1 (iR_c (n := 1) (by decide +kernel) (by decide +kernel)) H locs ls hP hD hS (lv_sub hl [0, 1, 2] rfl)
  refine lv_istore_n (lv' := [(2, .int 0), (0, .ref h), (1, .int x1)]) hx hb dX7_canBear_1 rfl hl (by decide) rfl (fun ls hl => ?_)
  exact J_2 _ 0 (iR_c (n := 0) (by decide +kernel) (by decide +kernel)) (Nat.lt_succ_self _) H locs ls hP hD hS (lv_sub hl [1, 2, 0] rfl)
set_option maxHeartbeats 8000000 in
set_option maxRecDepth 100000 in
theorem s_X7_bears_v0 (l : Launch) (dC : Nat → ClassId) (dI : Nat → Nat → Nat) (cI cJ cZ cM : ClassId) (h : Nat) (r : Nat → Nat) (i : Nat → Int32) (j : Nat → Int64) (x1 : Int32) (f78 : Nat → Int32) (f79 : Nat → Int32) (hI : mR i) : k_Mi l yX7_bears wsX7_bears ({ frames := 2, cells := 0, slots := 0, locals := 62 }) (dC, dI) vwCl (tyy cI cJ cZ cM) [(h, .inr (7, oM r i j)), ((r 78), .inl (cI, 20, .inl f78)), ((r 79), .inl (cI, 20, .inl f79))] [.ref h, .int x1] 0 0 (fun (u9 : Unit) => [(h, .inr (7, oM r i j)), ((r 78), .inl (cI, 20, .inl f78)), ((r 79), .inl (cI, 20, .inl f79))]) (fun (r9 : Int32) (u9 : Unit) => True) := by
  refine fun sz => k_enter (cc := cX7_bears) (maxL := 6) (ret := some (.int)) (Qc := fun A => va_Qi (fun (r9 : Int32) (u9 : Unit) => True) (fun u => k_B (dC, dI) vwCl (tyy cI cJ cZ cM) A ((fun (u9 : Unit) => [(h, .inr (7, oM r i j)), ((r 78), .inl (cI, 20, .inl f78)), ((r 79), .inl (cI, 20, .inl f79))]) u)) A) sz (by decide +kernel) rfl (Nat.le_of_ble_eq_true rfl) (fun p e s m args below meth c A ls H locs B hP hD hS hl => ?_)
  obtain ⟨hx, hb, hml, hown, hts, hr, hlk, hnm, hK, hA, hN, hC⟩ := id B
  have hown : s.vm.findClass RX7 = some m.cls := hown
  have hl : lv_has ls 6 [(0, .ref h), (1, .int x1)] := hl
  refine lv_iload_n hx hb dX7_bears_0 rfl (lv_at hl 1 rfl) ?_
  refine lv_iconst (v := 0) hx hb dX7_bears_1 (by decide +kernel) ?_
  refine lv_iconst (v := 2) hx hb dX7_bears_2 (by decide +kernel) ?_
  refine k_ci (wc := []) (wr := [(h, .inr (7, oM r i j)), ((r 78), .inl (cI, 20, .inl f78)), ((r 79), .inl (cI, 20, .inl f79))]) (fun hPc hDc hFc => va_runS (As := [.int x1, .int 0, .int 2]) (rest := []) ⟨hx, hb, hml, hown, hts⟩ (s_X7_is_v0 l dC dI cI cJ cZ cM x1 0 2 H.size) (va_cwS 3 hts gX7_bears_X7_is rfl rfl rfl (by decide +kernel) ⟨(Nat.le_of_ble_eq_true rfl), (Nat.le_of_ble_eq_true rfl)⟩) (k_pS hPc hDc hK hN hC hS hFc) rfl rfl hl.1 rfl (lv_room (Nat.le_of_ble_eq_true rfl)) dX7_bears_3 ⟨(Nat.le_of_ble_eq_true rfl), (Nat.le_of_ble_eq_true rfl)⟩) hP hD hS hA [] [0, 1, 2] rfl rfl rfl rfl (by decide) (fun _ => rfl) 0 0 rfl rfl (fun r_3 u_3 H locs hw hP hD hS => ?_)
  obtain ⟨g_3_0, g_3_1⟩ := hw
  have hP : va_P (dC, dI) vwCl [(h, .inr (7, oM r i j)), ((r 78), .inl (cI, 20, .inl f78)), ((r 79), .inl (cI, 20, .inl f79))] H := hP
  have hD : va_D A [(h, .inr (7, oM r i j)), ((r 78), .inl (cI, 20, .inl f78)), ((r 79), .inl (cI, 20, .inl f79))] := hD
  refine lv_if_ne (tgt := 11) hx hb dX7_bears_6 (by decide) (fun c_6 => ?_) (fun c_6 => ?_)
  · have c_6 : ¬ r_3 = 0 := c_6
    have f_11_1 : iR r_3 1 1 := iR_neL c_6 g_3_0 (iR_c (n := 0) (by decide +kernel) (by decide +kernel)) (by decide +kernel)
    obtain ⟨d_6_1_0, d_6_1_1⟩ := g_3_1.resolve_left c_6
    have f_11_2 : iR x1 0 2147483647 := iR_leR d_6_1_0 (iR_c (n := 0) (by decide +kernel) (by decide +kernel)) (iR_top _) (by decide +kernel)
    have f_11_3 : iR x1 0 2 := iR_leL d_6_1_1 f_11_2 (iR_c (n := 2) (by decide +kernel) (by decide +kernel)) (by decide +kernel)
    refine lv_iconst (v := 0) hx hb dX7_bears_11 (by decide +kernel) ?_
    refine lv_istore_n (lv' := [(2, .int 0), (0, .ref h), (1, .int x1)]) hx hb dX7_bears_12 rfl hl (by decide) rfl (fun ls hl => ?_)
    refine lv_iconst (v := (-1)) hx hb dX7_bears_13 (by decide +kernel) ?_
    refine lv_istore_n (lv' := [(3, .int (-1)), (2, .int 0), (0, .ref h), (1, .int x1)]) hx hb dX7_bears_14 rfl hl (by decide) rfl (fun ls hl => ?_)
    refine lv_iconst (v := (-1)) hx hb dX7_bears_15 (by decide +kernel) ?_
    refine lv_istore (lv' := [(4, .int (-1)), (3, .int (-1)), (2, .int 0), (0, .ref h), (1, .int x1)]) hx hb dX7_bears_16 hl (by decide) rfl (fun ls hl => ?_)
    refine lv_iconst (v := 1) hx hb dX7_bears_18 (by decide +kernel) ?_
    have J_21 : ∀ (n_21 : Nat) (j21_L2 : Int32) (j21_L3 : Int32) (j21_L4 : Int32) (j21_L5 : Int32) (hj21_L3 : iR j21_L3 (-1) 999) (hj21_L4 : iR j21_L4 (-1) 999) (hj21_L5 : iR j21_L5 1 1000) (hm_21 : (1000 - j21_L5.toInt).toNat < n_21) (H : Heap) (locs : List Loc) (ls : Array Slot), va_P (dC, dI) vwCl [(h, .inr (7, oM r i j)), ((r 78), .inl (cI, 20, .inl f78)), ((r 79), .inl (cI, 20, .inl f79))] H → va_D A [(h, .inr (7, oM r i j)), ((r 78), .inl (cI, 20, .inl f78)), ((r 79), .inl (cI, 20, .inl f79))] → va_S A s.heap H locs → lv_has ls 6 [(0, .ref h), (1, .int x1), (2, .int j21_L2), (3, .int j21_L3), (4, .int j21_L4), (5, .int j21_L5)] → W p l e ({ frames := 2, cells := 0, slots := 0, locals := 62 }) s m args below meth c H locs 0 0 (MQ below (va_Qi (fun (r9 : Int32) (u9 : Unit) => True) (fun u => k_B (dC, dI) vwCl (tyy cI cJ cZ cM) A ((fun (u9 : Unit) => [(h, .inr (7, oM r i j)), ((r 78), .inl (cI, 20, .inl f78)), ((r 79), .inl (cI, 20, .inl f79))]) u)) A) args s 0 0 A) (F0 m 21 ls []) := by
      intro n_21
      induction n_21 with
      | zero => intro j21_L2 j21_L3 j21_L4 j21_L5 hj21_L3 hj21_L4 hj21_L5 hm_21; exact absurd hm_21 (Nat.not_lt_zero _)
      | succ n_21 ih_21 =>
        intro j21_L2 j21_L3 j21_L4 j21_L5 hj21_L3 hj21_L4 hj21_L5 hm_21 H locs ls hP hD hS hl
        refine lv_iload hx hb dX7_bears_21 (lv_at hl 5 rfl) ?_
        refine lv_sipush (v := 999) hx hb dX7_bears_23 (by decide +kernel) ?_
        refine lv_icmp_gt (tgt := 66) hx hb dX7_bears_26 (by decide) (fun c_26 => ?_) (fun c_26 => ?_)
        · have c_26 : 999 < j21_L5 := c_26
          have f_66_1 : iR j21_L5 1000 1000 := iR_ltR c_26 (iR_c (n := 999) (by decide +kernel) (by decide +kernel)) hj21_L5 (by decide +kernel)
          refine lv_iload_n hx hb dX7_bears_66 rfl (lv_at hl 1 rfl) ?_
          refine lv_if_ne (tgt := 74) hx hb dX7_bears_67 (by decide) (fun c_67 => ?_) (fun c_67 => ?_)
          · have c_67 : ¬ x1 = 0 := c_67
            have f_74_2 : iR x1 1 2 := iR_ltR (i_ltne d_6_1_0 (fun q => c_67 q.symm)) (iR_c (n := 0) (by decide +kernel) (by decide +kernel)) f_11_3 (by decide +kernel)
            refine lv_iload_n hx hb dX7_bears_74 rfl (lv_at hl 1 rfl) ?_
            refine lv_iconst (v := 1) hx hb dX7_bears_75 (by decide +kernel) ?_
            refine lv_icmp_ne (tgt := 83) hx hb dX7_bears_76 (by decide) (fun c_76 => ?_) (fun c_76 => ?_)
            · have c_76 : ¬ x1 = 1 := c_76
              have f_83_3 : iR x1 2 2 := iR_neL c_76 f_74_2 (iR_c (n := 1) (by decide +kernel) (by decide +kernel)) (by decide +kernel)
              refine lv_iload hx hb dX7_bears_83 (lv_at hl 4 rfl) ?_
              exact k_ri B hP hD hS dX7_bears_85 () [0, 1, 2] rfl rfl rfl (Nat.le_of_ble_eq_true rfl) (Nat.le_of_ble_eq_true rfl) trivial
            · have c_76 : x1 = 1 := c_76
              have f_79_3 : iR x1 1 1 := iR_eqL c_76 f_74_2 (iR_c (n := 1) (by decide +kernel) (by decide +kernel)) (by decide +kernel)
              refine lv_iload_n hx hb dX7_bears_79 rfl (lv_at hl 3 rfl) ?_
              refine lv_goto (tgt := 85) hx hb dX7_bears_80 (by decide) ?_
              exact k_ri B hP hD hS dX7_bears_85 () [0, 1, 2] rfl rfl rfl (Nat.le_of_ble_eq_true rfl) (Nat.le_of_ble_eq_true rfl) trivial
          · have c_67 : x1 = 0 := c_67
            have f_70_2 : iR x1 0 0 := iR_eqL c_67 f_11_3 (iR_c (n := 0) (by decide +kernel) (by decide +kernel)) (by decide +kernel)
            refine lv_iload_n hx hb dX7_bears_70 rfl (lv_at hl 2 rfl) ?_
            refine lv_goto (tgt := 85) hx hb dX7_bears_71 (by decide) ?_
            exact k_ri B hP hD hS dX7_bears_85 () [0, 1, 2] rfl rfl rfl (Nat.le_of_ble_eq_true rfl) (Nat.le_of_ble_eq_true rfl) trivial
        · have c_26 : j21_L5 ≤ 999 := i_nlt c_26
          have f_29_1 : iR j21_L5 1 999 := iR_leL c_26 hj21_L5 (iR_c (n := 999) (by decide +kernel) (by decide +kernel)) (by decide +kernel)
          refine lv_aload_n hx hb dX7_bears_29 rfl (lv_at hl 0 rfl) ?_
          refine lv_iload hx hb dX7_bears_30 (lv_at hl 5 rfl) ?_
          refine k_ci (wc := [(h, .inr (7, oM r i j)), ((r 78), .inl (cI, 20, .inl f78)), ((r 79), .inl (cI, 20, .inl f79))]) (wr := []) (fun hPc hDc hFc => va_runV (As := [.int j21_L5]) (rest := []) ⟨hx, hb, hml, hown, hts⟩ (s_X7_canBear_v1 l dC dI cI cJ cZ cM h r i j j21_L5 f78 f79 hI H.size) (cwV 1 hts gX7_bears_X7_canBear rfl rfl rfl (by decide +kernel) ⟨(Nat.le_of_ble_eq_true rfl), (Nat.le_of_ble_eq_true rfl)⟩) (k_pV hPc hDc hK hN hC hS hFc hP (q0 := 0) (ci := 7) rfl rfl) rfl rfl hl.1 rfl (lv_room (Nat.le_of_ble_eq_true rfl)) dX7_bears_32 ⟨(Nat.le_of_ble_eq_true rfl), (Nat.le_of_ble_eq_true rfl)⟩) hP hD hS hA [0, 1, 2] [] rfl rfl rfl rfl (by decide) (fun _ => rfl) 0 0 rfl rfl (fun r_32 u_32 H locs hw hP hD hS => ?_)
          obtain g_32_0 := hw
          have hP : va_P (dC, dI) vwCl [(h, .inr (7, oM r i j)), ((r 78), .inl (cI, 20, .inl f78)), ((r 79), .inl (cI, 20, .inl f79))] H := hP
          have hD : va_D A [(h, .inr (7, oM r i j)), ((r 78), .inl (cI, 20, .inl f78)), ((r 79), .inl (cI, 20, .inl f79))] := hD
          have J_60 : ∀ (j60_L2 : Int32) (j60_L3 : Int32) (j60_L4 : Int32) (hj60_L3 : iR j60_L3 (-1) 999) (hj60_L4 : iR j60_L4 (-1) 999) (H : Heap) (locs : List Loc) (ls : Array Slot), va_P (dC, dI) vwCl [(h, .inr (7, oM r i j)), ((r 78), .inl (cI, 20, .inl f78)), ((r 79), .inl (cI, 20, .inl f79))] H → va_D A [(h, .inr (7, oM r i j)), ((r 78), .inl (cI, 20, .inl f78)), ((r 79), .inl (cI, 20, .inl f79))] → va_S A s.heap H locs → lv_has ls 6 [(0, .ref h), (1, .int x1), (2, .int j60_L2), (3, .int j60_L3), (4, .int j60_L4), (5, .int j21_L5)] → W p l e ({ frames := 2, cells := 0, slots := 0, locals := 62 }) s m args below meth c H locs 0 0 (MQ below (va_Qi (fun (r9 : Int32) (u9 : Unit) => True) (fun u => k_B (dC, dI) vwCl (tyy cI cJ cZ cM) A ((fun (u9 : Unit) => [(h, .inr (7, oM r i j)), ((r 78), .inl (cI, 20, .inl f78)), ((r 79), .inl (cI, 20, .inl f79))]) u)) A) args s 0 0 A) (F0 m 60 ls []) := by
            intro j60_L2 j60_L3 j60_L4 hj60_L3 hj60_L4 H locs ls hP hD hS hl
            obtain ⟨y_60, ey_60⟩ : ∃ y : Int32, y = j21_L5 + 1 := ⟨_, rfl⟩
            refine lv_iinc (v := y_60) (lv' := [(5, .int y_60), (0, .ref h), (1, .int x1), (2, .int j60_L2), (3, .int j60_L3), (4, .int j60_L4)]) hx hb dX7_bears_60 hl (k := 5) rfl ey_60.symm (by decide) rfl (fun ls hl => ?_)
            have f_60_1 : iR y_60 2 1000 := iR_add ey_60 f_29_1 (iR_c (n := 1) (by decide +kernel) (by decide +kernel)) (by decide +kernel)
            refine lv_goto (tgt := 21) hx hb dX7_bears_63 (by decide) ?_
            exact ih_21 j60_L2 j60_L3 j60_L4 y_60 hj60_L3 hj60_L4 (iR_w f_60_1 (by decide +kernel)) (m_up (B := 1000) hm_21 ey_60 f_29_1 (by decide +kernel)) H locs ls hP hD hS (lv_sub hl [1, 2, 3, 4, 5, 0] rfl)
          refine lv_if_ne (tgt := 41) hx hb dX7_bears_35 (by decide) (fun c_35 => ?_) (fun c_35 => ?_)
          · have c_35 : ¬ r_32 = 0 := c_35
            have f_41_2 : iR r_32 1 1 := iR_neL c_35 g_32_0 (iR_c (n := 0) (by decide +kernel) (by decide +kernel)) (by decide +kernel)
            obtain ⟨y_41, ey_41⟩ : ∃ y : Int32, y = j21_L2 + 1 := ⟨_, rfl⟩
            refine lv_iinc (v := y_41) (lv' := [(2, .int y_41), (0, .ref h), (1, .int x1), (3, .int j21_L3), (4, .int j21_L4), (5, .int j21_L5)]) hx hb dX7_bears_41 hl (k := 2) rfl ey_41.symm (by decide) rfl (fun ls hl => ?_)
            refine lv_iload_n hx hb dX7_bears_44 rfl (lv_at hl 3 rfl) ?_
            refine lv_iconst (v := (-1)) hx hb dX7_bears_45 (by decide +kernel) ?_
            have J_55 : ∀ (j55_S0 : Int32) (hj55_S0 : iR j55_S0 0 999) (H : Heap) (locs : List Loc) (ls : Array Slot), va_P (dC, dI) vwCl [(h, .inr (7, oM r i j)), ((r 78), .inl (cI, 20, .inl f78)), ((r 79), .inl (cI, 20, .inl f79))] H → va_D A [(h, .inr (7, oM r i j)), ((r 78), .inl (cI, 20, .inl f78)), ((r 79), .inl (cI, 20, .inl f79))] → va_S A s.heap H locs → lv_has ls 6 [(0, .ref h), (1, .int x1), (2, .int y_41), (5, .int j21_L5)] → W p l e ({ frames := 2, cells := 0, slots := 0, locals := 62 }) s m args below meth c H locs 0 0 (MQ below (va_Qi (fun (r9 : Int32) (u9 : Unit) => True) (fun u => k_B (dC, dI) vwCl (tyy cI cJ cZ cM) A ((fun (u9 : Unit) => [(h, .inr (7, oM r i j)), ((r 78), .inl (cI, 20, .inl f78)), ((r 79), .inl (cI, 20, .inl f79))]) u)) A) args s 0 0 A) (F0 m 55 ls [.int j55_S0]) := by
              intro j55_S0 hj55_S0 H locs ls hP hD hS hl
              refine lv_istore_n (lv' := [(3, .int j55_S0), (0, .ref h), (1, .int x1), (2, .int y_41), (5, .int j21_L5)]) hx hb dX7_bears_55 rfl hl (by decide) rfl (fun ls hl => ?_)
              refine lv_iload hx hb dX7_bears_56 (lv_at hl 4 rfl) ?_
              refine lv_istore (lv' := [(4, .int j21_L5), (3, .int j55_S0), (0, .ref h), (1, .int x1), (2, .int y_41), (5, .int j21_L5)]) hx hb dX7_bears_58 hl (by decide) rfl (fun ls hl => ?_)
              exact J_60 y_41 j55_S0 j21_L5 (iR_w hj55_S0 (by decide +kernel)) (iR_w f_29_1 (by decide +kernel)) H locs ls hP hD hS (lv_sub hl [2, 3, 4, 1, 0, 5] rfl)
            refine lv_icmp_ne (tgt := 54) hx hb dX7_bears_46 (by decide) (fun c_46 => ?_) (fun c_46 => ?_)
            · have c_46 : ¬ j21_L3 = (-1) := c_46
              have f_54_3 : iR j21_L3 0 999 := iR_neL c_46 hj21_L3 (iR_c (n := (-1)) (by decide +kernel) (by decide +kernel)) (by decide +kernel)
              refine lv_iload_n hx hb dX7_bears_54 rfl (lv_at hl 3 rfl) ?_
              exact J_55 j21_L3 f_54_3 H locs ls hP hD hS (lv_sub hl [1, 2, 0, 5] rfl)
            · have c_46 : j21_L3 = (-1) := c_46
              have f_49_3 : iR j21_L3 (-1) (-1) := iR_eqL c_46 hj21_L3 (iR_c (n := (-1)) (by decide +kernel) (by decide +kernel)) (by decide +kernel)
              refine lv_iload hx hb dX7_bears_49 (lv_at hl 5 rfl) ?_
              refine lv_goto (tgt := 55) hx hb dX7_bears_51 (by decide) ?_
              exact J_55 j21_L5 (iR_w f_29_1 (by decide +kernel)) H locs ls hP hD hS (lv_sub hl [1, 2, 0, 5] rfl)
          · have c_35 : r_32 = 0 := c_35
            have f_38_2 : iR r_32 0 0 := iR_eqL c_35 g_32_0 (iR_c (n := 0) (by decide +kernel) (by decide +kernel)) (by decide +kernel)
            refine lv_goto (tgt := 60) hx hb dX7_bears_38 (by decide) ?_
            exact J_60 j21_L2 j21_L3 j21_L4 hj21_L3 hj21_L4 H locs ls hP hD hS (lv_sub hl [0, 1, 2, 3, 4, 5] rfl)
    refine lv_istore (lv' := [(5, .int 1), (4, .int (-1)), (3, .int (-1)), (2, .int 0), (0, .ref h), (1, .int x1)]) hx hb dX7_bears_19 hl (by decide) rfl (fun ls hl => ?_)
    exact J_21 _ 0 (-1) (-1) 1 (iR_c (n := (-1)) (by decide +kernel) (by decide +kernel)) (iR_c (n := (-1)) (by decide +kernel) (by decide +kernel)) (iR_c (n := 1) (by decide +kernel) (by decide +kernel)) (Nat.lt_succ_self _) H locs ls hP hD hS (lv_sub hl [4, 5, 3, 2, 1, 0] rfl)
  · have c_6 : r_3 = 0 := c_6
    have f_9_1 : iR r_3 0 0 := iR_eqL c_6 g_3_0 (iR_c (n := 0) (by decide +kernel) (by decide +kernel)) (by decide +kernel)
    refine lv_iconst (v := (-1)) hx hb dX7_bears_9 (by decide +kernel) ?_
    exact k_ri B hP hD hS dX7_bears_10 () [0, 1, 2] rfl rfl rfl (Nat.le_of_ble_eq_true rfl) (Nat.le_of_ble_eq_true rfl) trivial
set_option maxHeartbeats 8000000 in
set_option maxRecDepth 100000 in
theorem s_X7_manyOf_v4 (l : Launch) (dC : Nat → ClassId) (dI : Nat → Nat → Nat) (cI cJ cZ cM : ClassId) (h : Nat) (r : Nat → Nat) (i : Nat → Int32) (j : Nat → Int64) (x1 : Int32) (f18 : Nat → Int32) (hx1 : iR x1 0 1) (hI : mR i) (hf18 : aR f18 0 12) : k_Mi l yX7_manyOf wsX7_manyOf ({ frames := 1, cells := 0, slots := 0, locals := 40 }) (dC, dI) vwCl (tyy cI cJ cZ cM) [(h, .inr (7, oM r i j)), ((r 18), .inl (cI, 2, .inl f18))] [.ref h, .int x1, .int 1] 0 0 (fun (u9 : Unit) => [(h, .inr (7, oM r i j)), ((r 18), .inl (cI, 2, .inl f18))]) (fun (r9 : Int32) (u9 : Unit) => (r9 = (f18 x1.toNatClampNeg))) := by
  refine fun sz => k_enter (cc := cX7_manyOf) (maxL := 3) (ret := some (.int)) (Qc := fun A => va_Qi (fun (r9 : Int32) (u9 : Unit) => (r9 = (f18 x1.toNatClampNeg))) (fun u => k_B (dC, dI) vwCl (tyy cI cJ cZ cM) A ((fun (u9 : Unit) => [(h, .inr (7, oM r i j)), ((r 18), .inl (cI, 2, .inl f18))]) u)) A) sz (by decide +kernel) rfl (Nat.le_of_ble_eq_true rfl) (fun p e s m args below meth c A ls H locs B hP hD hS hl => ?_)
  obtain ⟨hx, hb, hml, hown, hts, hr, hlk, hnm, hK, hA, hN, hC⟩ := id B
  have hown : s.vm.findClass RX7 = some m.cls := hown
  have hl : lv_has ls 3 [(0, .ref h), (1, .int x1), (2, .int 1)] := hl
  have w_0 : (Cond.fieldLink RX7 66 "WishSeaModel" "wishes" "[I").before args s = true := hts _ (List.mem_of_getElem? (i := 2) rfl)
  have hinX7 : ∀ w ∈ u_ws RX7 TX7 92, w ∈ wsX7_manyOf := fun _ h => List.mem_cons_of_mem _ (List.mem_append_right _ h)
  refine lv_iload_n hx hb dX7_manyOf_0 rfl (lv_at hl 2 rfl) ?_
  refine lv_if_ne (tgt := 13) hx hb dX7_manyOf_1 (by decide) (fun _ => ?_) (fun q9 => absurd q9 (by decide +kernel))
  refine lv_aload_n hx hb dX7_manyOf_13 rfl (lv_at hl 0 rfl) ?_
  refine k_get (D := (dC, dI)) (ci := 7) (v := .ref (r 18)) (C := RX7) (T := TX7) (N := 92) hx hb hts hinX7 hown hK hP 0 rfl rfl 18 (by decide) w_0 rfl rfl dX7_manyOf_14 ?_
  refine lv_iload_n hx hb dX7_manyOf_17 rfl (lv_at hl 1 rfl) ?_
  refine va_iald hx hb hK hP 1 0 rfl rfl (iR_vp hx1 (by decide +kernel)) dX7_manyOf_18 ?_
  have f_18_1 : iR (f18 x1.toNatClampNeg) 0 12 := hf18 _
  exact k_ri B hP hD hS dX7_manyOf_19 () [0, 1] rfl rfl rfl (Nat.le_of_ble_eq_true rfl) (Nat.le_of_ble_eq_true rfl) rfl
set_option maxHeartbeats 8000000 in
set_option maxRecDepth 100000 in
theorem s_X7_nameOf_v4 (l : Launch) (dC : Nat → ClassId) (dI : Nat → Nat → Nat) (cI cJ cZ cM : ClassId) (h : Nat) (r : Nat → Nat) (i : Nat → Int32) (j : Nat → Int64) (x1 : Int32) (x3 : Int32) (g35 : Nat → Int64) (hx1 : iR x1 0 1) (hx3 : iR x3 0 11) (hI : mR i) : k_Ml l yX7_nameOf wsX7_nameOf ({ frames := 1, cells := 0, slots := 0, locals := 40 }) (dC, dI) vwCl (tyy cI cJ cZ cM) [(h, .inr (7, oM r i j)), ((r 35), .inl (cJ, 24, .inr (.inl g35)))] [.ref h, .int x1, .int 1, .int x3] 0 0 (fun (u9 : Unit) => [(h, .inr (7, oM r i j)), ((r 35), .inl (cJ, 24, .inr (.inl g35)))]) (fun (r9 : Int64) (u9 : Unit) => True) := by
  refine fun sz => k_enter (cc := cX7_nameOf) (maxL := 4) (ret := some (.long)) (Qc := fun A => va_Ql (fun (r9 : Int64) (u9 : Unit) => True) (fun u => k_B (dC, dI) vwCl (tyy cI cJ cZ cM) A ((fun (u9 : Unit) => [(h, .inr (7, oM r i j)), ((r 35), .inl (cJ, 24, .inr (.inl g35)))]) u)) A) sz (by decide +kernel) rfl (Nat.le_of_ble_eq_true rfl) (fun p e s m args below meth c A ls H locs B hP hD hS hl => ?_)
  obtain ⟨hx, hb, hml, hown, hts, hr, hlk, hnm, hK, hA, hN, hC⟩ := id B
  have hown : s.vm.findClass RX7 = some m.cls := hown
  have hl : lv_has ls 4 [(0, .ref h), (1, .int x1), (2, .int 1), (3, .int x3)] := hl
  have w_0 : (Cond.fieldLink RX7 118 "WishSeaModel" "wishName" "[J").before args s = true := hts _ (List.mem_of_getElem? (i := 2) rfl)
  have hinX7 : ∀ w ∈ u_ws RX7 TX7 92, w ∈ wsX7_nameOf := fun _ h => List.mem_cons_of_mem _ (List.mem_append_right _ h)
  refine lv_iload_n hx hb dX7_nameOf_0 rfl (lv_at hl 2 rfl) ?_
  have J_29 : ∀ (j29_S0 : Int64)  (H : Heap) (locs : List Loc) (ls : Array Slot), va_P (dC, dI) vwCl [(h, .inr (7, oM r i j)), ((r 35), .inl (cJ, 24, .inr (.inl g35)))] H → va_D A [(h, .inr (7, oM r i j)), ((r 35), .inl (cJ, 24, .inr (.inl g35)))] → va_S A s.heap H locs → lv_has ls 4 [] → W p l e ({ frames := 1, cells := 0, slots := 0, locals := 40 }) s m args below meth c H locs 0 0 (MQ below (va_Ql (fun (r9 : Int64) (u9 : Unit) => True) (fun u => k_B (dC, dI) vwCl (tyy cI cJ cZ cM) A ((fun (u9 : Unit) => [(h, .inr (7, oM r i j)), ((r 35), .inl (cJ, 24, .inr (.inl g35)))]) u)) A) args s 0 0 A) (F0 m 29 ls [.long j29_S0]) := by
    intro j29_S0  H locs ls hP hD hS hl
    exact k_rl B hP hD hS dX7_nameOf_29 () [0, 1] rfl rfl (Nat.le_of_ble_eq_true rfl) (Nat.le_of_ble_eq_true rfl) trivial
  refine lv_if_ne (tgt := 18) hx hb dX7_nameOf_1 (by decide) (fun _ => ?_) (fun q9 => absurd q9 (by decide +kernel))
  refine lv_aload_n hx hb dX7_nameOf_18 rfl (lv_at hl 0 rfl) ?_
  refine k_get (D := (dC, dI)) (ci := 7) (v := .ref (r 35)) (C := RX7) (T := TX7) (N := 92) hx hb hts hinX7 hown hK hP 0 rfl rfl 35 (by decide) w_0 rfl rfl dX7_nameOf_19 ?_
  refine lv_bipush (v := 12) hx hb dX7_nameOf_22 (by decide +kernel) ?_
  refine lv_iload_n hx hb dX7_nameOf_24 rfl (lv_at hl 1 rfl) ?_
  refine lv_imul hx hb dX7_nameOf_25 ?_
  refine lv_topi (fun y_25 ey_25 => ?_)
  have f_25_1 : iR y_25 0 12 := iR_mul ey_25 (iR_c (n := 12) (by decide +kernel) (by decide +kernel)) hx1 (by decide +kernel)
  refine lv_iload_n hx hb dX7_nameOf_26 rfl (lv_at hl 3 rfl) ?_
  refine lv_iadd hx hb dX7_nameOf_27 ?_
  refine lv_topi (fun y_27 ey_27 => ?_)
  have f_27_2 : iR y_27 0 23 := iR_add ey_27 f_25_1 hx3 (by decide +kernel)
  refine va_lald hx hb hK hP 1 1 rfl rfl (iR_vp f_27_2 (by decide +kernel)) dX7_nameOf_28 ?_
  exact J_29 (g35 y_27.toNatClampNeg)  H locs ls hP hD hS (lv_sub hl [] rfl)
set_option maxHeartbeats 8000000 in
set_option maxRecDepth 100000 in
theorem s_X7_manyOf_v5 (l : Launch) (dC : Nat → ClassId) (dI : Nat → Nat → Nat) (cI cJ cZ cM : ClassId) (h : Nat) (r : Nat → Nat) (i : Nat → Int32) (j : Nat → Int64) (x1 : Int32) (f18 : Nat → Int32) (hx1 : iR x1 0 1) (hI : mR i) (hf18 : aR f18 0 12) : k_Mi l yX7_manyOf wsX7_manyOf ({ frames := 1, cells := 0, slots := 0, locals := 40 }) (dC, dI) vwCl (tyy cI cJ cZ cM) [(h, .inr (7, oM r i j)), ((r 18), .inl (cI, 2, .inl f18))] [.ref h, .int x1, .int 1] 0 0 (fun (u9 : Unit) => [(h, .inr (7, oM r i j)), ((r 18), .inl (cI, 2, .inl f18))]) (fun (r9 : Int32) (u9 : Unit) => (r9 = (f18 x1.toNatClampNeg))) := by
  refine fun sz => k_enter (cc := cX7_manyOf) (maxL := 3) (ret := some (.int)) (Qc := fun A => va_Qi (fun (r9 : Int32) (u9 : Unit) => (r9 = (f18 x1.toNatClampNeg))) (fun u => k_B (dC, dI) vwCl (tyy cI cJ cZ cM) A ((fun (u9 : Unit) => [(h, .inr (7, oM r i j)), ((r 18), .inl (cI, 2, .inl f18))]) u)) A) sz (by decide +kernel) rfl (Nat.le_of_ble_eq_true rfl) (fun p e s m args below meth c A ls H locs B hP hD hS hl => ?_)
  obtain ⟨hx, hb, hml, hown, hts, hr, hlk, hnm, hK, hA, hN, hC⟩ := id B
  have hown : s.vm.findClass RX7 = some m.cls := hown
  have hl : lv_has ls 3 [(0, .ref h), (1, .int x1), (2, .int 1)] := hl
  have w_0 : (Cond.fieldLink RX7 66 "WishSeaModel" "wishes" "[I").before args s = true := hts _ (List.mem_of_getElem? (i := 2) rfl)
  have hinX7 : ∀ w ∈ u_ws RX7 TX7 92, w ∈ wsX7_manyOf := fun _ h => List.mem_cons_of_mem _ (List.mem_append_right _ h)
  refine lv_iload_n hx hb dX7_manyOf_0 rfl (lv_at hl 2 rfl) ?_
  refine lv_if_ne (tgt := 13) hx hb dX7_manyOf_1 (by decide) (fun _ => ?_) (fun q9 => absurd q9 (by decide +kernel))
  refine lv_aload_n hx hb dX7_manyOf_13 rfl (lv_at hl 0 rfl) ?_
  refine k_get (D := (dC, dI)) (ci := 7) (v := .ref (r 18)) (C := RX7) (T := TX7) (N := 92) hx hb hts hinX7 hown hK hP 0 rfl rfl 18 (by decide) w_0 rfl rfl dX7_manyOf_14 ?_
  refine lv_iload_n hx hb dX7_manyOf_17 rfl (lv_at hl 1 rfl) ?_
  refine va_iald hx hb hK hP 1 0 rfl rfl (iR_vp hx1 (by decide +kernel)) dX7_manyOf_18 ?_
  have f_18_1 : iR (f18 x1.toNatClampNeg) 0 12 := hf18 _
  exact k_ri B hP hD hS dX7_manyOf_19 () [0, 1] rfl rfl rfl (Nat.le_of_ble_eq_true rfl) (Nat.le_of_ble_eq_true rfl) rfl
set_option maxHeartbeats 8000000 in
set_option maxRecDepth 100000 in
theorem s_X7_nameOf_v5 (l : Launch) (dC : Nat → ClassId) (dI : Nat → Nat → Nat) (cI cJ cZ cM : ClassId) (h : Nat) (r : Nat → Nat) (i : Nat → Int32) (j : Nat → Int64) (x1 : Int32) (x3 : Int32) (g35 : Nat → Int64) (hx1 : iR x1 0 1) (hx3 : iR x3 0 11) (hI : mR i) : k_Ml l yX7_nameOf wsX7_nameOf ({ frames := 1, cells := 0, slots := 0, locals := 40 }) (dC, dI) vwCl (tyy cI cJ cZ cM) [(h, .inr (7, oM r i j)), ((r 35), .inl (cJ, 24, .inr (.inl g35)))] [.ref h, .int x1, .int 1, .int x3] 0 0 (fun (u9 : Unit) => [(h, .inr (7, oM r i j)), ((r 35), .inl (cJ, 24, .inr (.inl g35)))]) (fun (r9 : Int64) (u9 : Unit) => True) := by
  refine fun sz => k_enter (cc := cX7_nameOf) (maxL := 4) (ret := some (.long)) (Qc := fun A => va_Ql (fun (r9 : Int64) (u9 : Unit) => True) (fun u => k_B (dC, dI) vwCl (tyy cI cJ cZ cM) A ((fun (u9 : Unit) => [(h, .inr (7, oM r i j)), ((r 35), .inl (cJ, 24, .inr (.inl g35)))]) u)) A) sz (by decide +kernel) rfl (Nat.le_of_ble_eq_true rfl) (fun p e s m args below meth c A ls H locs B hP hD hS hl => ?_)
  obtain ⟨hx, hb, hml, hown, hts, hr, hlk, hnm, hK, hA, hN, hC⟩ := id B
  have hown : s.vm.findClass RX7 = some m.cls := hown
  have hl : lv_has ls 4 [(0, .ref h), (1, .int x1), (2, .int 1), (3, .int x3)] := hl
  have w_0 : (Cond.fieldLink RX7 118 "WishSeaModel" "wishName" "[J").before args s = true := hts _ (List.mem_of_getElem? (i := 2) rfl)
  have hinX7 : ∀ w ∈ u_ws RX7 TX7 92, w ∈ wsX7_nameOf := fun _ h => List.mem_cons_of_mem _ (List.mem_append_right _ h)
  refine lv_iload_n hx hb dX7_nameOf_0 rfl (lv_at hl 2 rfl) ?_
  have J_29 : ∀ (j29_S0 : Int64)  (H : Heap) (locs : List Loc) (ls : Array Slot), va_P (dC, dI) vwCl [(h, .inr (7, oM r i j)), ((r 35), .inl (cJ, 24, .inr (.inl g35)))] H → va_D A [(h, .inr (7, oM r i j)), ((r 35), .inl (cJ, 24, .inr (.inl g35)))] → va_S A s.heap H locs → lv_has ls 4 [] → W p l e ({ frames := 1, cells := 0, slots := 0, locals := 40 }) s m args below meth c H locs 0 0 (MQ below (va_Ql (fun (r9 : Int64) (u9 : Unit) => True) (fun u => k_B (dC, dI) vwCl (tyy cI cJ cZ cM) A ((fun (u9 : Unit) => [(h, .inr (7, oM r i j)), ((r 35), .inl (cJ, 24, .inr (.inl g35)))]) u)) A) args s 0 0 A) (F0 m 29 ls [.long j29_S0]) := by
    intro j29_S0  H locs ls hP hD hS hl
    exact k_rl B hP hD hS dX7_nameOf_29 () [0, 1] rfl rfl (Nat.le_of_ble_eq_true rfl) (Nat.le_of_ble_eq_true rfl) trivial
  refine lv_if_ne (tgt := 18) hx hb dX7_nameOf_1 (by decide) (fun _ => ?_) (fun q9 => absurd q9 (by decide +kernel))
  refine lv_aload_n hx hb dX7_nameOf_18 rfl (lv_at hl 0 rfl) ?_
  refine k_get (D := (dC, dI)) (ci := 7) (v := .ref (r 35)) (C := RX7) (T := TX7) (N := 92) hx hb hts hinX7 hown hK hP 0 rfl rfl 35 (by decide) w_0 rfl rfl dX7_nameOf_19 ?_
  refine lv_bipush (v := 12) hx hb dX7_nameOf_22 (by decide +kernel) ?_
  refine lv_iload_n hx hb dX7_nameOf_24 rfl (lv_at hl 1 rfl) ?_
  refine lv_imul hx hb dX7_nameOf_25 ?_
  refine lv_topi (fun y_25 ey_25 => ?_)
  have f_25_1 : iR y_25 0 12 := iR_mul ey_25 (iR_c (n := 12) (by decide +kernel) (by decide +kernel)) hx1 (by decide +kernel)
  refine lv_iload_n hx hb dX7_nameOf_26 rfl (lv_at hl 3 rfl) ?_
  refine lv_iadd hx hb dX7_nameOf_27 ?_
  refine lv_topi (fun y_27 ey_27 => ?_)
  have f_27_2 : iR y_27 0 23 := iR_add ey_27 f_25_1 hx3 (by decide +kernel)
  refine va_lald hx hb hK hP 1 1 rfl rfl (iR_vp f_27_2 (by decide +kernel)) dX7_nameOf_28 ?_
  exact J_29 (g35 y_27.toNatClampNeg)  H locs ls hP hD hS (lv_sub hl [] rfl)
set_option maxHeartbeats 8000000 in
set_option maxRecDepth 100000 in
theorem s_X7_named_v3 (l : Launch) (dC : Nat → ClassId) (dI : Nat → Nat → Nat) (cI cJ cZ cM : ClassId) (h : Nat) (r : Nat → Nat) (i : Nat → Int32) (j : Nat → Int64) (x2 : Int64) (f18 : Nat → Int32) (g35 : Nat → Int64) (hI : mR i) (hf18 : aR f18 0 12) : k_Mi l yX7_named wsX7_named ({ frames := 2, cells := 0, slots := 0, locals := 63 }) (dC, dI) vwCl (tyy cI cJ cZ cM) [(h, .inr (7, oM r i j)), ((r 18), .inl (cI, 2, .inl f18)), ((r 35), .inl (cJ, 24, .inr (.inl g35)))] [.ref h, .int 1, .long x2] 0 0 (fun (u9 : Unit) => [(h, .inr (7, oM r i j)), ((r 18), .inl (cI, 2, .inl f18)), ((r 35), .inl (cJ, 24, .inr (.inl g35)))]) (fun (r9 : Int32) (u9 : Unit) => (iR r9 (-1) 11)) := by
  refine fun sz => k_enter (cc := cX7_named) (maxL := 5) (ret := some (.int)) (Qc := fun A => va_Qi (fun (r9 : Int32) (u9 : Unit) => (iR r9 (-1) 11)) (fun u => k_B (dC, dI) vwCl (tyy cI cJ cZ cM) A ((fun (u9 : Unit) => [(h, .inr (7, oM r i j)), ((r 18), .inl (cI, 2, .inl f18)), ((r 35), .inl (cJ, 24, .inr (.inl g35)))]) u)) A) sz (by decide +kernel) rfl (Nat.le_of_ble_eq_true rfl) (fun p e s m args below meth c A ls H locs B hP hD hS hl => ?_)
  obtain ⟨hx, hb, hml, hown, hts, hr, hlk, hnm, hK, hA, hN, hC⟩ := id B
  have hown : s.vm.findClass RX7 = some m.cls := hown
  have hl : lv_has ls 5 [(0, .ref h), (1, .int 1), (2, .long x2)] := hl
  have w_0 : (Cond.fieldLink RX7 124 "WishSeaModel" "in" "I").before args s = true := hts _ (List.mem_of_getElem? (i := 1) rfl)
  have hinX7 : ∀ w ∈ u_ws RX7 TX7 92, w ∈ wsX7_named := fun _ h => List.mem_cons_of_mem _ (List.mem_append_right _ h)
  refine lv_iconst (v := 0) hx hb dX7_named_0 (by decide +kernel) ?_
  have J_3 : ∀ (n_3 : Nat) (j3_L4 : Int32) (hj3_L4 : iR j3_L4 0 12) (hm_3 : (12 - j3_L4.toInt).toNat < n_3) (H : Heap) (locs : List Loc) (ls : Array Slot), va_P (dC, dI) vwCl [(h, .inr (7, oM r i j)), ((r 18), .inl (cI, 2, .inl f18)), ((r 35), .inl (cJ, 24, .inr (.inl g35)))] H → va_D A [(h, .inr (7, oM r i j)), ((r 18), .inl (cI, 2, .inl f18)), ((r 35), .inl (cJ, 24, .inr (.inl g35)))] → va_S A s.heap H locs → lv_has ls 5 [(0, .ref h), (1, .int 1), (2, .long x2), (4, .int j3_L4)] → W p l e ({ frames := 2, cells := 0, slots := 0, locals := 63 }) s m args below meth c H locs 0 0 (MQ below (va_Qi (fun (r9 : Int32) (u9 : Unit) => (iR r9 (-1) 11)) (fun u => k_B (dC, dI) vwCl (tyy cI cJ cZ cM) A ((fun (u9 : Unit) => [(h, .inr (7, oM r i j)), ((r 18), .inl (cI, 2, .inl f18)), ((r 35), .inl (cJ, 24, .inr (.inl g35)))]) u)) A) args s 0 0 A) (F0 m 3 ls []) := by
    intro n_3
    induction n_3 with
    | zero => intro j3_L4 hj3_L4 hm_3; exact absurd hm_3 (Nat.not_lt_zero _)
    | succ n_3 ih_3 =>
      intro j3_L4 hj3_L4 hm_3 H locs ls hP hD hS hl
      refine lv_iload hx hb dX7_named_3 (lv_at hl 3 rfl) ?_
      refine lv_aload_n hx hb dX7_named_5 rfl (lv_at hl 0 rfl) ?_
      refine lv_aload_n hx hb dX7_named_6 rfl (lv_at hl 0 rfl) ?_
      have f_7_1 : iR (i 37) 0 1 := hI 37
      refine k_get (D := (dC, dI)) (ci := 7) (v := .int (i 37)) (C := RX7) (T := TX7) (N := 92) hx hb hts hinX7 hown hK hP 0 rfl rfl 37 (by decide) w_0 rfl rfl dX7_named_7 ?_
      refine lv_iload_n hx hb dX7_named_10 rfl (lv_at hl 1 rfl) ?_
      refine k_ci (wc := [(h, .inr (7, oM r i j)), ((r 18), .inl (cI, 2, .inl f18))]) (wr := [((r 35), .inl (cJ, 24, .inr (.inl g35)))]) (fun hPc hDc hFc => va_runV (As := [.int (i 37), .int 1]) (rest := [.int j3_L4]) ⟨hx, hb, hml, hown, hts⟩ (s_X7_manyOf_v5 l dC dI cI cJ cZ cM h r i j (i 37) f18 f_7_1 hI hf18 H.size) (cwV 2 hts gX7_named_X7_manyOf rfl rfl rfl (by decide +kernel) ⟨(Nat.le_of_ble_eq_true rfl), (Nat.le_of_ble_eq_true rfl)⟩) (k_pV hPc hDc hK hN hC hS hFc hP (q0 := 0) (ci := 7) rfl rfl) rfl rfl hl.1 rfl (lv_room (Nat.le_of_ble_eq_true rfl)) dX7_named_11 ⟨(Nat.le_of_ble_eq_true rfl), (Nat.le_of_ble_eq_true rfl)⟩) hP hD hS hA [0, 1] [2] rfl rfl rfl rfl (by decide) (fun _ => rfl) 0 0 rfl rfl (fun r_11 u_11 H locs hw hP hD hS => ?_)
      obtain g_11_0 := hw
      obtain rfl : r_11 = (f18 (i 37).toNatClampNeg) := g_11_0
      have hP : va_P (dC, dI) vwCl [((r 35), .inl (cJ, 24, .inr (.inl g35))), (h, .inr (7, oM r i j)), ((r 18), .inl (cI, 2, .inl f18))] H := hP
      have hD : va_D A [((r 35), .inl (cJ, 24, .inr (.inl g35))), (h, .inr (7, oM r i j)), ((r 18), .inl (cI, 2, .inl f18))] := hD
      refine lv_icmp_ge (tgt := 42) hx hb dX7_named_14 (by decide) (fun c_14 => ?_) (fun c_14 => ?_)
      · have c_14 : (f18 (i 37).toNatClampNeg) ≤ j3_L4 := c_14
        refine lv_iconst (v := (-1)) hx hb dX7_named_42 (by decide +kernel) ?_
        exact k_ri B hP hD hS dX7_named_43 () [1, 2, 0] rfl rfl rfl (Nat.le_of_ble_eq_true rfl) (Nat.le_of_ble_eq_true rfl) (iR_c (n := (-1)) (by decide +kernel) (by decide +kernel))
      · have c_14 : j3_L4 < (f18 (i 37).toNatClampNeg) := i_nle c_14
        have f_17_2 : iR j3_L4 0 11 := iR_ltL c_14 hj3_L4 (show iR (f18 (i 37).toNatClampNeg) 0 12 from hf18 _) (by decide +kernel)
        have f_17_3 : iR (f18 (i 37).toNatClampNeg) 1 12 := iR_ltR c_14 hj3_L4 (show iR (f18 (i 37).toNatClampNeg) 0 12 from hf18 _) (by decide +kernel)
        refine lv_aload_n hx hb dX7_named_17 rfl (lv_at hl 0 rfl) ?_
        refine lv_aload_n hx hb dX7_named_18 rfl (lv_at hl 0 rfl) ?_
        refine k_get (D := (dC, dI)) (ci := 7) (v := .int (i 37)) (C := RX7) (T := TX7) (N := 92) hx hb hts hinX7 hown hK hP 1 rfl rfl 37 (by decide) w_0 rfl rfl dX7_named_19 ?_
        refine lv_iload_n hx hb dX7_named_22 rfl (lv_at hl 1 rfl) ?_
        refine lv_iload hx hb dX7_named_23 (lv_at hl 3 rfl) ?_
        refine k_cl (wc := [(h, .inr (7, oM r i j)), ((r 35), .inl (cJ, 24, .inr (.inl g35)))]) (wr := [((r 18), .inl (cI, 2, .inl f18))]) (fun hPc hDc hFc => va_runV (As := [.int (i 37), .int 1, .int j3_L4]) (rest := []) ⟨hx, hb, hml, hown, hts⟩ (s_X7_nameOf_v5 l dC dI cI cJ cZ cM h r i j (i 37) j3_L4 g35 f_7_1 f_17_2 hI H.size) (cwV 3 hts gX7_named_X7_nameOf rfl rfl rfl (by decide +kernel) ⟨(Nat.le_of_ble_eq_true rfl), (Nat.le_of_ble_eq_true rfl)⟩) (k_pV hPc hDc hK hN hC hS hFc hP (q0 := 1) (ci := 7) rfl rfl) rfl rfl hl.1 rfl (lv_room (Nat.le_of_ble_eq_true rfl)) dX7_named_25 ⟨(Nat.le_of_ble_eq_true rfl), (Nat.le_of_ble_eq_true rfl)⟩) hP hD hS hA [1, 0] [2] rfl rfl rfl rfl (by decide) (fun _ => rfl) 0 0 rfl rfl (fun r_25 u_25 H locs hw hP hD hS => ?_)
        have hP : va_P (dC, dI) vwCl [((r 18), .inl (cI, 2, .inl f18)), (h, .inr (7, oM r i j)), ((r 35), .inl (cJ, 24, .inr (.inl g35)))] H := hP
        have hD : va_D A [((r 18), .inl (cI, 2, .inl f18)), (h, .inr (7, oM r i j)), ((r 35), .inl (cJ, 24, .inr (.inl g35)))] := hD
        refine lv_lload_n hx hb dX7_named_28 rfl (lv_at hl 2 rfl) ?_
        refine W.lcmp hx hb dX7_named_29 ?_
        refine lv_topi (fun y_29 ey_29 => ?_)
        refine lv_if_ne (tgt := 36) hx hb dX7_named_30 (by decide) (fun c_30 => ?_) (fun c_30 => ?_)
        · have c_30 : ¬ y_29 = 0 := c_30
          have lc_30 : ¬ r_25 = x2 := l_cmpne ey_29 c_30
          obtain ⟨y_36, ey_36⟩ : ∃ y : Int32, y = j3_L4 + 1 := ⟨_, rfl⟩
          refine lv_iinc (v := y_36) (lv' := [(4, .int y_36), (0, .ref h), (1, .int 1), (2, .long x2)]) hx hb dX7_named_36 hl (k := 3) rfl ey_36.symm (by decide) rfl (fun ls hl => ?_)
          have f_36_4 : iR y_36 1 12 := iR_add ey_36 f_17_2 (iR_c (n := 1) (by decide +kernel) (by decide +kernel)) (by decide +kernel)
          refine lv_goto (tgt := 3) hx hb dX7_named_39 (by decide) ?_
          exact ih_3 y_36 (iR_w f_36_4 (by decide +kernel)) (m_up (B := 12) hm_3 ey_36 f_17_2 (by decide +kernel)) H locs ls (hP.sub [1, 0, 2] rfl) (hD.sub [1, 0, 2] (by decide +kernel) rfl) hS (lv_sub hl [1, 2, 3, 0] rfl)
        · have c_30 : y_29 = 0 := c_30
          have f_33_4 : iR y_29 0 0 := iR_eqL c_30 (iR_top _) (iR_c (n := 0) (by decide +kernel) (by decide +kernel)) (by decide +kernel)
          have lc_30 : r_25 = x2 := l_cmpe ey_29 c_30
          refine lv_iload hx hb dX7_named_33 (lv_at hl 3 rfl) ?_
          exact k_ri B hP hD hS dX7_named_35 () [1, 0, 2] rfl rfl rfl (Nat.le_of_ble_eq_true rfl) (Nat.le_of_ble_eq_true rfl) (iR_w f_17_2 (by decide +kernel))
  refine lv_istore (lv' := [(4, .int 0), (0, .ref h), (1, .int 1), (2, .long x2)]) hx hb dX7_named_1 hl (by decide) rfl (fun ls hl => ?_)
  exact J_3 _ 0 (iR_c (n := 0) (by decide +kernel) (by decide +kernel)) (Nat.lt_succ_self _) H locs ls hP hD hS (lv_sub hl [1, 2, 3, 0] rfl)
set_option maxHeartbeats 8000000 in
set_option maxRecDepth 100000 in
theorem s_X7_blame_v6 (l : Launch) (dC : Nat → ClassId) (dI : Nat → Nat → Nat) (cI cJ cZ cM : ClassId) (h : Nat) (r : Nat → Nat) (i : Nat → Int32) (j : Nat → Int64) (x1 : Int32) (x2 : Int32) (hx1 : iR x1 1 6) (hI : mR i) : k_Mv l yX7_blame wsX7_blame ({ frames := 1, cells := 0, slots := 0, locals := 40 }) (dC, dI) vwCl (tyy cI cJ cZ cM) [(h, .inr (7, oM r i j))] [.ref h, .int x1, .int x2] 0 0 (fun (u9 : SU) => [(h, .inr (7, oM r (upd (upd i 8 (u9.1 0)) 9 (u9.1 1)) j))]) (fun (u9 : SU) => (iR (u9.1 0) 1 6)) := by
  refine fun sz => k_enter (cc := cX7_blame) (maxL := 3) (ret := none) (Qc := fun A => va_Qv (fun (u9 : SU) => (iR (u9.1 0) 1 6)) (fun u => k_B (dC, dI) vwCl (tyy cI cJ cZ cM) A ((fun (u9 : SU) => [(h, .inr (7, oM r (upd (upd i 8 (u9.1 0)) 9 (u9.1 1)) j))]) u)) A) sz (by decide +kernel) rfl (Nat.le_of_ble_eq_true rfl) (fun p e s m args below meth c A ls H locs B hP hD hS hl => ?_)
  obtain ⟨hx, hb, hml, hown, hts, hr, hlk, hnm, hK, hA, hN, hC⟩ := id B
  have hown : s.vm.findClass RX7 = some m.cls := hown
  have hl : lv_has ls 3 [(0, .ref h), (1, .int x1), (2, .int x2)] := hl
  have w_0 : (Cond.fieldLink RX7 36 "WishSeaModel" "faultKind" "I").before args s = true := hts _ (List.mem_of_getElem? (i := 1) rfl)
  have w_1 : (Cond.fieldLink RX7 39 "WishSeaModel" "faultPlace" "I").before args s = true := hts _ (List.mem_of_getElem? (i := 2) rfl)
  have hinX7 : ∀ w ∈ u_ws RX7 TX7 92, w ∈ wsX7_blame := fun _ h => List.mem_cons_of_mem _ (List.mem_append_right _ h)
  refine lv_aload_n hx hb dX7_blame_0 rfl (lv_at hl 0 rfl) ?_
  have f_1_1 : iR (i 8) 0 6 := hI 8
  refine k_get (D := (dC, dI)) (ci := 7) (v := .int (i 8)) (C := RX7) (T := TX7) (N := 92) hx hb hts hinX7 hown hK hP 0 rfl rfl 8 (by decide) w_0 rfl rfl dX7_blame_1 ?_
  refine lv_if_le (tgt := 8) hx hb dX7_blame_4 (by decide) (fun c_4 => ?_) (fun c_4 => ?_)
  · have c_4 : (i 8) ≤ 0 := c_4
    have f_8_2 : iR (i 8) 0 0 := iR_leL c_4 f_1_1 (iR_c (n := 0) (by decide +kernel) (by decide +kernel)) (by decide +kernel)
    refine lv_aload_n hx hb dX7_blame_8 rfl (lv_at hl 0 rfl) ?_
    refine lv_iload_n hx hb dX7_blame_9 rfl (lv_at hl 1 rfl) ?_
    refine k_put (D := (dC, dI)) (ci := 7) (v := .int x1) (C := RX7) (T := TX7) (N := 92) (ws' := [(h, .inr (7, oM r (upd i 8 x1) j))]) hx hb hts hinX7 tyX7 tyX7_ok nmX7 hown hK hP hD hS 0 rfl rfl 8 (by decide) w_0 rfl rfl rfl rfl (Nat.le_of_ble_eq_true rfl) rfl dX7_blame_10 (fun H locs hP hD hS => ?_)
    refine lv_aload_n hx hb dX7_blame_13 rfl (lv_at hl 0 rfl) ?_
    refine lv_iload_n hx hb dX7_blame_14 rfl (lv_at hl 2 rfl) ?_
    refine k_put (D := (dC, dI)) (ci := 7) (v := .int x2) (C := RX7) (T := TX7) (N := 92) (ws' := [(h, .inr (7, oM r (upd (upd i 8 x1) 9 x2) j))]) hx hb hts hinX7 tyX7 tyX7_ok nmX7 hown hK hP hD hS 0 rfl rfl 9 (by decide) w_1 rfl rfl rfl rfl (Nat.le_of_ble_eq_true rfl) rfl dX7_blame_15 (fun H locs hP hD hS => ?_)
    exact k_rv B hP hD hS dX7_blame_18 ((fun k9 => match k9 with | 0 => x1 | 1 => x2 | _ => 0), (fun _ => 0), (fun _ => (fun _ => 0)), (fun _ => (fun _ => 0)), (fun _ => 0)) [0] rfl rfl (Nat.le_of_ble_eq_true rfl) (Nat.le_of_ble_eq_true rfl) hx1
  · have c_4 : 0 < (i 8) := i_nle c_4
    have f_7_2 : iR (i 8) 1 6 := iR_ltR c_4 (iR_c (n := 0) (by decide +kernel) (by decide +kernel)) f_1_1 (by decide +kernel)
    exact k_rv B hP hD hS dX7_blame_7 ((fun k9 => match k9 with | 0 => (i 8) | 1 => (i 9) | _ => 0), (fun _ => 0), (fun _ => (fun _ => 0)), (fun _ => (fun _ => 0)), (fun _ => 0)) [0] rfl rfl (Nat.le_of_ble_eq_true rfl) (Nat.le_of_ble_eq_true rfl) f_7_2
set_option maxHeartbeats 8000000 in
set_option maxRecDepth 100000 in
theorem s_X7_lex_v5 (l : Launch) (dC : Nat → ClassId) (dI : Nat → Nat → Nat) (cI cJ cZ cM : ClassId) (h : Nat) (r : Nat → Nat) (i : Nat → Int32) (j : Nat → Int64) (hI : mR i) : k_Mv l yX7_lex wsX7_lex ({ frames := 2, cells := 0, slots := 0, locals := 62 }) (dC, dI) vwCl (tyy cI cJ cZ cM) [(h, .inr (7, oM r i j))] [.ref h] 0 0 (fun (u9 : SU) => [(h, .inr (7, oM r (upd (upd i 8 (u9.1 0)) 9 (u9.1 1)) j))]) (fun (u9 : SU) => (iR (u9.1 0) 0 6)) := by
  refine fun sz => k_enter (cc := cX7_lex) (maxL := 1) (ret := none) (Qc := fun A => va_Qv (fun (u9 : SU) => (iR (u9.1 0) 0 6)) (fun u => k_B (dC, dI) vwCl (tyy cI cJ cZ cM) A ((fun (u9 : SU) => [(h, .inr (7, oM r (upd (upd i 8 (u9.1 0)) 9 (u9.1 1)) j))]) u)) A) sz (by decide +kernel) rfl (Nat.le_of_ble_eq_true rfl) (fun p e s m args below meth c A ls H locs B hP hD hS hl => ?_)
  obtain ⟨hx, hb, hml, hown, hts, hr, hlk, hnm, hK, hA, hN, hC⟩ := id B
  have hown : s.vm.findClass RX7 = some m.cls := hown
  have hl : lv_has ls 1 [(0, .ref h)] := hl
  have w_0 : (Cond.fieldLink RX7 48 "WishSeaModel" "lexAt" "I").before args s = true := hts _ (List.mem_of_getElem? (i := 1) rfl)
  have hinX7 : ∀ w ∈ u_ws RX7 TX7 92, w ∈ wsX7_lex := fun _ h => List.mem_cons_of_mem _ (List.mem_append_right _ h)
  refine lv_aload_n hx hb dX7_lex_0 rfl (lv_at hl 0 rfl) ?_
  refine k_get (D := (dC, dI)) (ci := 7) (v := .int (i 12)) (C := RX7) (T := TX7) (N := 92) hx hb hts hinX7 hown hK hP 0 rfl rfl 12 (by decide) w_0 rfl rfl dX7_lex_1 ?_
  refine lv_iconst (v := (-1)) hx hb dX7_lex_4 (by decide +kernel) ?_
  have J_17 : ∀ (j17_M0_8 : Int32) (j17_M0_9 : Int32) (hj17_M0_8 : iR j17_M0_8 0 6) (H : Heap) (locs : List Loc) (ls : Array Slot), va_P (dC, dI) vwCl [(h, .inr (7, oM r (upd (upd i 8 j17_M0_8) 9 j17_M0_9) j))] H → va_D A [(h, .inr (7, oM r (upd (upd i 8 j17_M0_8) 9 j17_M0_9) j))] → va_S A s.heap H locs → lv_has ls 1 [] → W p l e ({ frames := 2, cells := 0, slots := 0, locals := 62 }) s m args below meth c H locs 0 0 (MQ below (va_Qv (fun (u9 : SU) => (iR (u9.1 0) 0 6)) (fun u => k_B (dC, dI) vwCl (tyy cI cJ cZ cM) A ((fun (u9 : SU) => [(h, .inr (7, oM r (upd (upd i 8 (u9.1 0)) 9 (u9.1 1)) j))]) u)) A) args s 0 0 A) (F0 m 17 ls []) := by
    intro j17_M0_8 j17_M0_9 hj17_M0_8 H locs ls hP hD hS hl
    exact k_rv B hP hD hS dX7_lex_17 ((fun k9 => match k9 with | 0 => j17_M0_8 | 1 => j17_M0_9 | _ => 0), (fun _ => 0), (fun _ => (fun _ => 0)), (fun _ => (fun _ => 0)), (fun _ => 0)) [0] rfl rfl (Nat.le_of_ble_eq_true rfl) (Nat.le_of_ble_eq_true rfl) hj17_M0_8
  refine lv_icmp_eq (tgt := 17) hx hb dX7_lex_5 (by decide) (fun c_5 => ?_) (fun c_5 => ?_)
  · have c_5 : (i 12) = (-1) := c_5
    have f_17_1 : iR (i 12) (-1) (-1) := iR_eqL c_5 (iR_top _) (iR_c (n := (-1)) (by decide +kernel) (by decide +kernel)) (by decide +kernel)
    exact J_17 (i 8) (i 9) (show iR (i 8) 0 6 from hI 8) H locs ls hP hD hS (lv_sub hl [] rfl)
  · have c_5 : ¬ (i 12) = (-1) := c_5
    refine lv_aload_n hx hb dX7_lex_8 rfl (lv_at hl 0 rfl) ?_
    refine lv_iconst (v := 1) hx hb dX7_lex_9 (by decide +kernel) ?_
    refine lv_aload_n hx hb dX7_lex_10 rfl (lv_at hl 0 rfl) ?_
    refine k_get (D := (dC, dI)) (ci := 7) (v := .int (i 12)) (C := RX7) (T := TX7) (N := 92) hx hb hts hinX7 hown hK hP 0 rfl rfl 12 (by decide) w_0 rfl rfl dX7_lex_11 ?_
    refine k_cv (wc := [(h, .inr (7, oM r i j))]) (wr := []) (fun hPc hDc hFc => va_runV (As := [.int 1, .int (i 12)]) (rest := []) ⟨hx, hb, hml, hown, hts⟩ (s_X7_blame_v1 l dC dI cI cJ cZ cM h r i j 1 (i 12) (iR_c (n := 1) (by decide +kernel) (by decide +kernel)) hI H.size) (cwV 2 hts gX7_lex_X7_blame rfl rfl rfl (by decide +kernel) ⟨(Nat.le_of_ble_eq_true rfl), (Nat.le_of_ble_eq_true rfl)⟩) (k_pV hPc hDc hK hN hC hS hFc hP (q0 := 0) (ci := 7) rfl rfl) rfl rfl hl.1 rfl (lv_room (Nat.le_of_ble_eq_true rfl)) dX7_lex_14 ⟨(Nat.le_of_ble_eq_true rfl), (Nat.le_of_ble_eq_true rfl)⟩) hP hD hS hA [0] [] rfl rfl rfl rfl (by decide) (fun _ => rfl) 0 0 rfl rfl (fun u_14 H locs hw hP hD hS => ?_)
    obtain g_14_0 := hw
    have hP : va_P (dC, dI) vwCl [(h, .inr (7, oM r (upd (upd i 8 (u_14.1 0)) 9 (u_14.1 1)) j))] H := hP
    have hD : va_D A [(h, .inr (7, oM r (upd (upd i 8 (u_14.1 0)) 9 (u_14.1 1)) j))] := hD
    exact J_17 (u_14.1 0) (u_14.1 1) (iR_w g_14_0 (by decide +kernel)) H locs ls hP hD hS (lv_sub hl [] rfl)
set_option maxHeartbeats 8000000 in
set_option maxRecDepth 100000 in
theorem s_X7_isOwn_v5 (l : Launch) (dC : Nat → ClassId) (dI : Nat → Nat → Nat) (cI cJ cZ cM : ClassId) (h : Nat) (x1 : Int64)  : k_Mi l yX7_isOwn wsX7_isOwn ({ frames := 1, cells := 0, slots := 0, locals := 40 }) (dC, dI) vwCl (tyy cI cJ cZ cM) [] [.ref h, .long x1] 0 0 (fun (u9 : Unit) => []) (fun (r9 : Int32) (u9 : Unit) => (iR r9 0 1)) := by
  refine fun sz => k_enter (cc := cX7_isOwn) (maxL := 3) (ret := some (.boolean)) (Qc := fun A => va_Qi (fun (r9 : Int32) (u9 : Unit) => (iR r9 0 1)) (fun u => k_B (dC, dI) vwCl (tyy cI cJ cZ cM) A ((fun (u9 : Unit) => []) u)) A) sz (by decide +kernel) rfl (Nat.le_of_ble_eq_true rfl) (fun p e s m args below meth c A ls H locs B hP hD hS hl => ?_)
  obtain ⟨hx, hb, hml, hown, hts, hr, hlk, hnm, hK, hA, hN, hC⟩ := id B
  have hown : s.vm.findClass RX7 = some m.cls := hown
  have hl : lv_has ls 3 [(0, .ref h), (1, .long x1)] := hl
  have w_0 : (Cond.constantLong RX7 323 (499967946343)).before args s = true := hts _ (List.mem_of_getElem? (i := 1) rfl)
  have w_1 : (Cond.constantLong RX7 325 (512970880104)).before args s = true := hts _ (List.mem_of_getElem? (i := 2) rfl)
  have w_2 : (Cond.constantLong RX7 327 (125793039377779)).before args s = true := hts _ (List.mem_of_getElem? (i := 3) rfl)
  have w_3 : (Cond.constantLong RX7 329 (422826304870)).before args s = true := hts _ (List.mem_of_getElem? (i := 4) rfl)
  have w_4 : (Cond.constantLong RX7 331 (2003399528)).before args s = true := hts _ (List.mem_of_getElem? (i := 5) rfl)
  have w_5 : (Cond.constantLong RX7 333 (512970876019)).before args s = true := hts _ (List.mem_of_getElem? (i := 6) rfl)
  have w_6 : (Cond.constantLong RX7 335 (444150998387)).before args s = true := hts _ (List.mem_of_getElem? (i := 7) rfl)
  have w_7 : (Cond.constantLong RX7 337 (474147546227)).before args s = true := hts _ (List.mem_of_getElem? (i := 8) rfl)
  have w_8 : (Cond.constantLong RX7 339 (1970496883)).before args s = true := hts _ (List.mem_of_getElem? (i := 9) rfl)
  have w_9 : (Cond.constantLong RX7 341 (439855772532)).before args s = true := hts _ (List.mem_of_getElem? (i := 10) rfl)
  have w_10 : (Cond.constantLong RX7 343 (1684107883)).before args s = true := hts _ (List.mem_of_getElem? (i := 11) rfl)
  have w_11 : (Cond.constantLong RX7 345 (1919905645)).before args s = true := hts _ (List.mem_of_getElem? (i := 12) rfl)
  have w_12 : (Cond.constantLong RX7 347 (27988542884245108)).before args s = true := hts _ (List.mem_of_getElem? (i := 13) rfl)
  have w_13 : (Cond.constantLong RX7 349 (422607680115)).before args s = true := hts _ (List.mem_of_getElem? (i := 14) rfl)
  have w_14 : (Cond.constantLong RX7 351 (1667329133)).before args s = true := hts _ (List.mem_of_getElem? (i := 15) rfl)
  have w_15 : (Cond.constantLong RX7 353 (6840676)).before args s = true := hts _ (List.mem_of_getElem? (i := 16) rfl)
  have w_16 : (Cond.constantLong RX7 355 (7562593)).before args s = true := hts _ (List.mem_of_getElem? (i := 17) rfl)
  have w_17 : (Cond.constantLong RX7 357 (1935763812)).before args s = true := hts _ (List.mem_of_getElem? (i := 18) rfl)
  have w_18 : (Cond.constantLong RX7 359 (6578553)).before args s = true := hts _ (List.mem_of_getElem? (i := 19) rfl)
  have w_19 : (Cond.constantLong RX7 361 (28530)).before args s = true := hts _ (List.mem_of_getElem? (i := 20) rfl)
  have w_20 : (Cond.constantLong RX7 363 (6385252)).before args s = true := hts _ (List.mem_of_getElem? (i := 21) rfl)
  have w_21 : (Cond.constantLong RX7 365 (7237492)).before args s = true := hts _ (List.mem_of_getElem? (i := 22) rfl)
  have w_22 : (Cond.constantLong RX7 367 (6384748)).before args s = true := hts _ (List.mem_of_getElem? (i := 23) rfl)
  have w_23 : (Cond.constantLong RX7 369 (7170414)).before args s = true := hts _ (List.mem_of_getElem? (i := 24) rfl)
  have w_24 : (Cond.constantLong RX7 371 (7168376)).before args s = true := hts _ (List.mem_of_getElem? (i := 25) rfl)
  refine lv_lload_n hx hb dX7_isOwn_0 rfl (lv_at hl 1 rfl) ?_
  refine lv_ldc2 (v := 499967946343) hx hb hown w_0 dX7_isOwn_1 ?_
  refine W.lcmp hx hb dX7_isOwn_4 ?_
  refine lv_topi (fun y_4 ey_4 => ?_)
  have J_40 : ∀   (H : Heap) (locs : List Loc) (ls : Array Slot), va_P (dC, dI) vwCl [] H → va_D A [] → va_S A s.heap H locs → lv_has ls 3 [] → W p l e ({ frames := 1, cells := 0, slots := 0, locals := 40 }) s m args below meth c H locs 0 0 (MQ below (va_Qi (fun (r9 : Int32) (u9 : Unit) => (iR r9 0 1)) (fun u => k_B (dC, dI) vwCl (tyy cI cJ cZ cM) A ((fun (u9 : Unit) => []) u)) A) args s 0 0 A) (F0 m 40 ls []) := by
    intro   H locs ls hP hD hS hl
    refine lv_iconst (v := 1) hx hb dX7_isOwn_40 (by decide +kernel) ?_
    exact k_ri B hP hD hS dX7_isOwn_41 () [] rfl rfl rfl (Nat.le_of_ble_eq_true rfl) (Nat.le_of_ble_eq_true rfl) (iR_c (n := 1) (by decide +kernel) (by decide +kernel))
  refine lv_if_eq (tgt := 40) hx hb dX7_isOwn_5 (by decide) (fun c_5 => ?_) (fun c_5 => ?_)
  · have c_5 : y_4 = 0 := c_5
    have f_40_1 : iR y_4 0 0 := iR_eqL c_5 (iR_top _) (iR_c (n := 0) (by decide +kernel) (by decide +kernel)) (by decide +kernel)
    have lc_5 : x1 = 499967946343 := l_cmpe ey_4 c_5
    exact J_40   H locs ls hP hD hS (lv_sub hl [] rfl)
  · have c_5 : ¬ y_4 = 0 := c_5
    have lc_5 : ¬ x1 = 499967946343 := l_cmpne ey_4 c_5
    refine lv_lload_n hx hb dX7_isOwn_8 rfl (lv_at hl 1 rfl) ?_
    refine lv_ldc2 (v := 512970880104) hx hb hown w_1 dX7_isOwn_9 ?_
    refine W.lcmp hx hb dX7_isOwn_12 ?_
    refine lv_topi (fun y_12 ey_12 => ?_)
    refine lv_if_eq (tgt := 40) hx hb dX7_isOwn_13 (by decide) (fun c_13 => ?_) (fun c_13 => ?_)
    · have c_13 : y_12 = 0 := c_13
      have f_40_1 : iR y_12 0 0 := iR_eqL c_13 (iR_top _) (iR_c (n := 0) (by decide +kernel) (by decide +kernel)) (by decide +kernel)
      have lc_13 : x1 = 512970880104 := l_cmpe ey_12 c_13
      exact J_40   H locs ls hP hD hS (lv_sub hl [] rfl)
    · have c_13 : ¬ y_12 = 0 := c_13
      have lc_13 : ¬ x1 = 512970880104 := l_cmpne ey_12 c_13
      refine lv_lload_n hx hb dX7_isOwn_16 rfl (lv_at hl 1 rfl) ?_
      refine lv_ldc2 (v := 125793039377779) hx hb hown w_2 dX7_isOwn_17 ?_
      refine W.lcmp hx hb dX7_isOwn_20 ?_
      refine lv_topi (fun y_20 ey_20 => ?_)
      refine lv_if_eq (tgt := 40) hx hb dX7_isOwn_21 (by decide) (fun c_21 => ?_) (fun c_21 => ?_)
      · have c_21 : y_20 = 0 := c_21
        have f_40_1 : iR y_20 0 0 := iR_eqL c_21 (iR_top _) (iR_c (n := 0) (by decide +kernel) (by decide +kernel)) (by decide +kernel)
        have lc_21 : x1 = 125793039377779 := l_cmpe ey_20 c_21
        exact J_40   H locs ls hP hD hS (lv_sub hl [] rfl)
      · have c_21 : ¬ y_20 = 0 := c_21
        have lc_21 : ¬ x1 = 125793039377779 := l_cmpne ey_20 c_21
        refine lv_lload_n hx hb dX7_isOwn_24 rfl (lv_at hl 1 rfl) ?_
        refine lv_ldc2 (v := 422826304870) hx hb hown w_3 dX7_isOwn_25 ?_
        refine W.lcmp hx hb dX7_isOwn_28 ?_
        refine lv_topi (fun y_28 ey_28 => ?_)
        refine lv_if_eq (tgt := 40) hx hb dX7_isOwn_29 (by decide) (fun c_29 => ?_) (fun c_29 => ?_)
        · have c_29 : y_28 = 0 := c_29
          have f_40_1 : iR y_28 0 0 := iR_eqL c_29 (iR_top _) (iR_c (n := 0) (by decide +kernel) (by decide +kernel)) (by decide +kernel)
          have lc_29 : x1 = 422826304870 := l_cmpe ey_28 c_29
          exact J_40   H locs ls hP hD hS (lv_sub hl [] rfl)
        · have c_29 : ¬ y_28 = 0 := c_29
          have lc_29 : ¬ x1 = 422826304870 := l_cmpne ey_28 c_29
          refine lv_lload_n hx hb dX7_isOwn_32 rfl (lv_at hl 1 rfl) ?_
          refine lv_ldc2 (v := 2003399528) hx hb hown w_4 dX7_isOwn_33 ?_
          refine W.lcmp hx hb dX7_isOwn_36 ?_
          refine lv_topi (fun y_36 ey_36 => ?_)
          refine lv_if_ne (tgt := 42) hx hb dX7_isOwn_37 (by decide) (fun c_37 => ?_) (fun c_37 => ?_)
          · have c_37 : ¬ y_36 = 0 := c_37
            have lc_37 : ¬ x1 = 2003399528 := l_cmpne ey_36 c_37
            refine lv_lload_n hx hb dX7_isOwn_42 rfl (lv_at hl 1 rfl) ?_
            refine lv_ldc2 (v := 512970876019) hx hb hown w_5 dX7_isOwn_43 ?_
            refine W.lcmp hx hb dX7_isOwn_46 ?_
            refine lv_topi (fun y_46 ey_46 => ?_)
            have J_82 : ∀   (H : Heap) (locs : List Loc) (ls : Array Slot), va_P (dC, dI) vwCl [] H → va_D A [] → va_S A s.heap H locs → lv_has ls 3 [] → W p l e ({ frames := 1, cells := 0, slots := 0, locals := 40 }) s m args below meth c H locs 0 0 (MQ below (va_Qi (fun (r9 : Int32) (u9 : Unit) => (iR r9 0 1)) (fun u => k_B (dC, dI) vwCl (tyy cI cJ cZ cM) A ((fun (u9 : Unit) => []) u)) A) args s 0 0 A) (F0 m 82 ls []) := by
              intro   H locs ls hP hD hS hl
              refine lv_iconst (v := 1) hx hb dX7_isOwn_82 (by decide +kernel) ?_
              exact k_ri B hP hD hS dX7_isOwn_83 () [] rfl rfl rfl (Nat.le_of_ble_eq_true rfl) (Nat.le_of_ble_eq_true rfl) (iR_c (n := 1) (by decide +kernel) (by decide +kernel))
            refine lv_if_eq (tgt := 82) hx hb dX7_isOwn_47 (by decide) (fun c_47 => ?_) (fun c_47 => ?_)
            · have c_47 : y_46 = 0 := c_47
              have f_82_1 : iR y_46 0 0 := iR_eqL c_47 (iR_top _) (iR_c (n := 0) (by decide +kernel) (by decide +kernel)) (by decide +kernel)
              have lc_47 : x1 = 512970876019 := l_cmpe ey_46 c_47
              exact J_82   H locs ls hP hD hS (lv_sub hl [] rfl)
            · have c_47 : ¬ y_46 = 0 := c_47
              have lc_47 : ¬ x1 = 512970876019 := l_cmpne ey_46 c_47
              refine lv_lload_n hx hb dX7_isOwn_50 rfl (lv_at hl 1 rfl) ?_
              refine lv_ldc2 (v := 444150998387) hx hb hown w_6 dX7_isOwn_51 ?_
              refine W.lcmp hx hb dX7_isOwn_54 ?_
              refine lv_topi (fun y_54 ey_54 => ?_)
              refine lv_if_eq (tgt := 82) hx hb dX7_isOwn_55 (by decide) (fun c_55 => ?_) (fun c_55 => ?_)
              · have c_55 : y_54 = 0 := c_55
                have f_82_1 : iR y_54 0 0 := iR_eqL c_55 (iR_top _) (iR_c (n := 0) (by decide +kernel) (by decide +kernel)) (by decide +kernel)
                have lc_55 : x1 = 444150998387 := l_cmpe ey_54 c_55
                exact J_82   H locs ls hP hD hS (lv_sub hl [] rfl)
              · have c_55 : ¬ y_54 = 0 := c_55
                have lc_55 : ¬ x1 = 444150998387 := l_cmpne ey_54 c_55
                refine lv_lload_n hx hb dX7_isOwn_58 rfl (lv_at hl 1 rfl) ?_
                refine lv_ldc2 (v := 474147546227) hx hb hown w_7 dX7_isOwn_59 ?_
                refine W.lcmp hx hb dX7_isOwn_62 ?_
                refine lv_topi (fun y_62 ey_62 => ?_)
                refine lv_if_eq (tgt := 82) hx hb dX7_isOwn_63 (by decide) (fun c_63 => ?_) (fun c_63 => ?_)
                · have c_63 : y_62 = 0 := c_63
                  have f_82_1 : iR y_62 0 0 := iR_eqL c_63 (iR_top _) (iR_c (n := 0) (by decide +kernel) (by decide +kernel)) (by decide +kernel)
                  have lc_63 : x1 = 474147546227 := l_cmpe ey_62 c_63
                  exact J_82   H locs ls hP hD hS (lv_sub hl [] rfl)
                · have c_63 : ¬ y_62 = 0 := c_63
                  have lc_63 : ¬ x1 = 474147546227 := l_cmpne ey_62 c_63
                  refine lv_lload_n hx hb dX7_isOwn_66 rfl (lv_at hl 1 rfl) ?_
                  refine lv_ldc2 (v := 1970496883) hx hb hown w_8 dX7_isOwn_67 ?_
                  refine W.lcmp hx hb dX7_isOwn_70 ?_
                  refine lv_topi (fun y_70 ey_70 => ?_)
                  refine lv_if_eq (tgt := 82) hx hb dX7_isOwn_71 (by decide) (fun c_71 => ?_) (fun c_71 => ?_)
                  · have c_71 : y_70 = 0 := c_71
                    have f_82_1 : iR y_70 0 0 := iR_eqL c_71 (iR_top _) (iR_c (n := 0) (by decide +kernel) (by decide +kernel)) (by decide +kernel)
                    have lc_71 : x1 = 1970496883 := l_cmpe ey_70 c_71
                    exact J_82   H locs ls hP hD hS (lv_sub hl [] rfl)
                  · have c_71 : ¬ y_70 = 0 := c_71
                    have lc_71 : ¬ x1 = 1970496883 := l_cmpne ey_70 c_71
                    refine lv_lload_n hx hb dX7_isOwn_74 rfl (lv_at hl 1 rfl) ?_
                    refine lv_ldc2 (v := 439855772532) hx hb hown w_9 dX7_isOwn_75 ?_
                    refine W.lcmp hx hb dX7_isOwn_78 ?_
                    refine lv_topi (fun y_78 ey_78 => ?_)
                    refine lv_if_ne (tgt := 84) hx hb dX7_isOwn_79 (by decide) (fun c_79 => ?_) (fun c_79 => ?_)
                    · have c_79 : ¬ y_78 = 0 := c_79
                      have lc_79 : ¬ x1 = 439855772532 := l_cmpne ey_78 c_79
                      refine lv_lload_n hx hb dX7_isOwn_84 rfl (lv_at hl 1 rfl) ?_
                      refine lv_ldc2 (v := 1684107883) hx hb hown w_10 dX7_isOwn_85 ?_
                      refine W.lcmp hx hb dX7_isOwn_88 ?_
                      refine lv_topi (fun y_88 ey_88 => ?_)
                      have J_124 : ∀   (H : Heap) (locs : List Loc) (ls : Array Slot), va_P (dC, dI) vwCl [] H → va_D A [] → va_S A s.heap H locs → lv_has ls 3 [] → W p l e ({ frames := 1, cells := 0, slots := 0, locals := 40 }) s m args below meth c H locs 0 0 (MQ below (va_Qi (fun (r9 : Int32) (u9 : Unit) => (iR r9 0 1)) (fun u => k_B (dC, dI) vwCl (tyy cI cJ cZ cM) A ((fun (u9 : Unit) => []) u)) A) args s 0 0 A) (F0 m 124 ls []) := by
                        intro   H locs ls hP hD hS hl
                        refine lv_iconst (v := 1) hx hb dX7_isOwn_124 (by decide +kernel) ?_
                        exact k_ri B hP hD hS dX7_isOwn_125 () [] rfl rfl rfl (Nat.le_of_ble_eq_true rfl) (Nat.le_of_ble_eq_true rfl) (iR_c (n := 1) (by decide +kernel) (by decide +kernel))
                      refine lv_if_eq (tgt := 124) hx hb dX7_isOwn_89 (by decide) (fun c_89 => ?_) (fun c_89 => ?_)
                      · have c_89 : y_88 = 0 := c_89
                        have f_124_1 : iR y_88 0 0 := iR_eqL c_89 (iR_top _) (iR_c (n := 0) (by decide +kernel) (by decide +kernel)) (by decide +kernel)
                        have lc_89 : x1 = 1684107883 := l_cmpe ey_88 c_89
                        exact J_124   H locs ls hP hD hS (lv_sub hl [] rfl)
                      · have c_89 : ¬ y_88 = 0 := c_89
                        have lc_89 : ¬ x1 = 1684107883 := l_cmpne ey_88 c_89
                        refine lv_lload_n hx hb dX7_isOwn_92 rfl (lv_at hl 1 rfl) ?_
                        refine lv_ldc2 (v := 1919905645) hx hb hown w_11 dX7_isOwn_93 ?_
                        refine W.lcmp hx hb dX7_isOwn_96 ?_
                        refine lv_topi (fun y_96 ey_96 => ?_)
                        refine lv_if_eq (tgt := 124) hx hb dX7_isOwn_97 (by decide) (fun c_97 => ?_) (fun c_97 => ?_)
                        · have c_97 : y_96 = 0 := c_97
                          have f_124_1 : iR y_96 0 0 := iR_eqL c_97 (iR_top _) (iR_c (n := 0) (by decide +kernel) (by decide +kernel)) (by decide +kernel)
                          have lc_97 : x1 = 1919905645 := l_cmpe ey_96 c_97
                          exact J_124   H locs ls hP hD hS (lv_sub hl [] rfl)
                        · have c_97 : ¬ y_96 = 0 := c_97
                          have lc_97 : ¬ x1 = 1919905645 := l_cmpne ey_96 c_97
                          refine lv_lload_n hx hb dX7_isOwn_100 rfl (lv_at hl 1 rfl) ?_
                          refine lv_ldc2 (v := 27988542884245108) hx hb hown w_12 dX7_isOwn_101 ?_
                          refine W.lcmp hx hb dX7_isOwn_104 ?_
                          refine lv_topi (fun y_104 ey_104 => ?_)
                          refine lv_if_eq (tgt := 124) hx hb dX7_isOwn_105 (by decide) (fun c_105 => ?_) (fun c_105 => ?_)
                          · have c_105 : y_104 = 0 := c_105
                            have f_124_1 : iR y_104 0 0 := iR_eqL c_105 (iR_top _) (iR_c (n := 0) (by decide +kernel) (by decide +kernel)) (by decide +kernel)
                            have lc_105 : x1 = 27988542884245108 := l_cmpe ey_104 c_105
                            exact J_124   H locs ls hP hD hS (lv_sub hl [] rfl)
                          · have c_105 : ¬ y_104 = 0 := c_105
                            have lc_105 : ¬ x1 = 27988542884245108 := l_cmpne ey_104 c_105
                            refine lv_lload_n hx hb dX7_isOwn_108 rfl (lv_at hl 1 rfl) ?_
                            refine lv_ldc2 (v := 422607680115) hx hb hown w_13 dX7_isOwn_109 ?_
                            refine W.lcmp hx hb dX7_isOwn_112 ?_
                            refine lv_topi (fun y_112 ey_112 => ?_)
                            refine lv_if_eq (tgt := 124) hx hb dX7_isOwn_113 (by decide) (fun c_113 => ?_) (fun c_113 => ?_)
                            · have c_113 : y_112 = 0 := c_113
                              have f_124_1 : iR y_112 0 0 := iR_eqL c_113 (iR_top _) (iR_c (n := 0) (by decide +kernel) (by decide +kernel)) (by decide +kernel)
                              have lc_113 : x1 = 422607680115 := l_cmpe ey_112 c_113
                              exact J_124   H locs ls hP hD hS (lv_sub hl [] rfl)
                            · have c_113 : ¬ y_112 = 0 := c_113
                              have lc_113 : ¬ x1 = 422607680115 := l_cmpne ey_112 c_113
                              refine lv_lload_n hx hb dX7_isOwn_116 rfl (lv_at hl 1 rfl) ?_
                              refine lv_ldc2 (v := 1667329133) hx hb hown w_14 dX7_isOwn_117 ?_
                              refine W.lcmp hx hb dX7_isOwn_120 ?_
                              refine lv_topi (fun y_120 ey_120 => ?_)
                              refine lv_if_ne (tgt := 126) hx hb dX7_isOwn_121 (by decide) (fun c_121 => ?_) (fun c_121 => ?_)
                              · have c_121 : ¬ y_120 = 0 := c_121
                                have lc_121 : ¬ x1 = 1667329133 := l_cmpne ey_120 c_121
                                refine lv_lload_n hx hb dX7_isOwn_126 rfl (lv_at hl 1 rfl) ?_
                                refine lv_ldc2 (v := 6840676) hx hb hown w_15 dX7_isOwn_127 ?_
                                refine W.lcmp hx hb dX7_isOwn_130 ?_
                                refine lv_topi (fun y_130 ey_130 => ?_)
                                have J_166 : ∀   (H : Heap) (locs : List Loc) (ls : Array Slot), va_P (dC, dI) vwCl [] H → va_D A [] → va_S A s.heap H locs → lv_has ls 3 [] → W p l e ({ frames := 1, cells := 0, slots := 0, locals := 40 }) s m args below meth c H locs 0 0 (MQ below (va_Qi (fun (r9 : Int32) (u9 : Unit) => (iR r9 0 1)) (fun u => k_B (dC, dI) vwCl (tyy cI cJ cZ cM) A ((fun (u9 : Unit) => []) u)) A) args s 0 0 A) (F0 m 166 ls []) := by
                                  intro   H locs ls hP hD hS hl
                                  refine lv_iconst (v := 1) hx hb dX7_isOwn_166 (by decide +kernel) ?_
                                  exact k_ri B hP hD hS dX7_isOwn_167 () [] rfl rfl rfl (Nat.le_of_ble_eq_true rfl) (Nat.le_of_ble_eq_true rfl) (iR_c (n := 1) (by decide +kernel) (by decide +kernel))
                                refine lv_if_eq (tgt := 166) hx hb dX7_isOwn_131 (by decide) (fun c_131 => ?_) (fun c_131 => ?_)
                                · have c_131 : y_130 = 0 := c_131
                                  have f_166_1 : iR y_130 0 0 := iR_eqL c_131 (iR_top _) (iR_c (n := 0) (by decide +kernel) (by decide +kernel)) (by decide +kernel)
                                  have lc_131 : x1 = 6840676 := l_cmpe ey_130 c_131
                                  exact J_166   H locs ls hP hD hS (lv_sub hl [] rfl)
                                · have c_131 : ¬ y_130 = 0 := c_131
                                  have lc_131 : ¬ x1 = 6840676 := l_cmpne ey_130 c_131
                                  refine lv_lload_n hx hb dX7_isOwn_134 rfl (lv_at hl 1 rfl) ?_
                                  refine lv_ldc2 (v := 7562593) hx hb hown w_16 dX7_isOwn_135 ?_
                                  refine W.lcmp hx hb dX7_isOwn_138 ?_
                                  refine lv_topi (fun y_138 ey_138 => ?_)
                                  refine lv_if_eq (tgt := 166) hx hb dX7_isOwn_139 (by decide) (fun c_139 => ?_) (fun c_139 => ?_)
                                  · have c_139 : y_138 = 0 := c_139
                                    have f_166_1 : iR y_138 0 0 := iR_eqL c_139 (iR_top _) (iR_c (n := 0) (by decide +kernel) (by decide +kernel)) (by decide +kernel)
                                    have lc_139 : x1 = 7562593 := l_cmpe ey_138 c_139
                                    exact J_166   H locs ls hP hD hS (lv_sub hl [] rfl)
                                  · have c_139 : ¬ y_138 = 0 := c_139
                                    have lc_139 : ¬ x1 = 7562593 := l_cmpne ey_138 c_139
                                    refine lv_lload_n hx hb dX7_isOwn_142 rfl (lv_at hl 1 rfl) ?_
                                    refine lv_ldc2 (v := 1935763812) hx hb hown w_17 dX7_isOwn_143 ?_
                                    refine W.lcmp hx hb dX7_isOwn_146 ?_
                                    refine lv_topi (fun y_146 ey_146 => ?_)
                                    refine lv_if_eq (tgt := 166) hx hb dX7_isOwn_147 (by decide) (fun c_147 => ?_) (fun c_147 => ?_)
                                    · have c_147 : y_146 = 0 := c_147
                                      have f_166_1 : iR y_146 0 0 := iR_eqL c_147 (iR_top _) (iR_c (n := 0) (by decide +kernel) (by decide +kernel)) (by decide +kernel)
                                      have lc_147 : x1 = 1935763812 := l_cmpe ey_146 c_147
                                      exact J_166   H locs ls hP hD hS (lv_sub hl [] rfl)
                                    · have c_147 : ¬ y_146 = 0 := c_147
                                      have lc_147 : ¬ x1 = 1935763812 := l_cmpne ey_146 c_147
                                      refine lv_lload_n hx hb dX7_isOwn_150 rfl (lv_at hl 1 rfl) ?_
                                      refine lv_ldc2 (v := 6578553) hx hb hown w_18 dX7_isOwn_151 ?_
                                      refine W.lcmp hx hb dX7_isOwn_154 ?_
                                      refine lv_topi (fun y_154 ey_154 => ?_)
                                      refine lv_if_eq (tgt := 166) hx hb dX7_isOwn_155 (by decide) (fun c_155 => ?_) (fun c_155 => ?_)
                                      · have c_155 : y_154 = 0 := c_155
                                        have f_166_1 : iR y_154 0 0 := iR_eqL c_155 (iR_top _) (iR_c (n := 0) (by decide +kernel) (by decide +kernel)) (by decide +kernel)
                                        have lc_155 : x1 = 6578553 := l_cmpe ey_154 c_155
                                        exact J_166   H locs ls hP hD hS (lv_sub hl [] rfl)
                                      · have c_155 : ¬ y_154 = 0 := c_155
                                        have lc_155 : ¬ x1 = 6578553 := l_cmpne ey_154 c_155
                                        refine lv_lload_n hx hb dX7_isOwn_158 rfl (lv_at hl 1 rfl) ?_
                                        refine lv_ldc2 (v := 28530) hx hb hown w_19 dX7_isOwn_159 ?_
                                        refine W.lcmp hx hb dX7_isOwn_162 ?_
                                        refine lv_topi (fun y_162 ey_162 => ?_)
                                        refine lv_if_ne (tgt := 168) hx hb dX7_isOwn_163 (by decide) (fun c_163 => ?_) (fun c_163 => ?_)
                                        · have c_163 : ¬ y_162 = 0 := c_163
                                          have lc_163 : ¬ x1 = 28530 := l_cmpne ey_162 c_163
                                          refine lv_lload_n hx hb dX7_isOwn_168 rfl (lv_at hl 1 rfl) ?_
                                          refine lv_ldc2 (v := 6385252) hx hb hown w_20 dX7_isOwn_169 ?_
                                          refine W.lcmp hx hb dX7_isOwn_172 ?_
                                          refine lv_topi (fun y_172 ey_172 => ?_)
                                          have J_208 : ∀   (H : Heap) (locs : List Loc) (ls : Array Slot), va_P (dC, dI) vwCl [] H → va_D A [] → va_S A s.heap H locs → lv_has ls 3 [] → W p l e ({ frames := 1, cells := 0, slots := 0, locals := 40 }) s m args below meth c H locs 0 0 (MQ below (va_Qi (fun (r9 : Int32) (u9 : Unit) => (iR r9 0 1)) (fun u => k_B (dC, dI) vwCl (tyy cI cJ cZ cM) A ((fun (u9 : Unit) => []) u)) A) args s 0 0 A) (F0 m 208 ls []) := by
                                            intro   H locs ls hP hD hS hl
                                            refine lv_iconst (v := 1) hx hb dX7_isOwn_208 (by decide +kernel) ?_
                                            exact k_ri B hP hD hS dX7_isOwn_209 () [] rfl rfl rfl (Nat.le_of_ble_eq_true rfl) (Nat.le_of_ble_eq_true rfl) (iR_c (n := 1) (by decide +kernel) (by decide +kernel))
                                          refine lv_if_eq (tgt := 208) hx hb dX7_isOwn_173 (by decide) (fun c_173 => ?_) (fun c_173 => ?_)
                                          · have c_173 : y_172 = 0 := c_173
                                            have f_208_1 : iR y_172 0 0 := iR_eqL c_173 (iR_top _) (iR_c (n := 0) (by decide +kernel) (by decide +kernel)) (by decide +kernel)
                                            have lc_173 : x1 = 6385252 := l_cmpe ey_172 c_173
                                            exact J_208   H locs ls hP hD hS (lv_sub hl [] rfl)
                                          · have c_173 : ¬ y_172 = 0 := c_173
                                            have lc_173 : ¬ x1 = 6385252 := l_cmpne ey_172 c_173
                                            refine lv_lload_n hx hb dX7_isOwn_176 rfl (lv_at hl 1 rfl) ?_
                                            refine lv_ldc2 (v := 7237492) hx hb hown w_21 dX7_isOwn_177 ?_
                                            refine W.lcmp hx hb dX7_isOwn_180 ?_
                                            refine lv_topi (fun y_180 ey_180 => ?_)
                                            refine lv_if_eq (tgt := 208) hx hb dX7_isOwn_181 (by decide) (fun c_181 => ?_) (fun c_181 => ?_)
                                            · have c_181 : y_180 = 0 := c_181
                                              have f_208_1 : iR y_180 0 0 := iR_eqL c_181 (iR_top _) (iR_c (n := 0) (by decide +kernel) (by decide +kernel)) (by decide +kernel)
                                              have lc_181 : x1 = 7237492 := l_cmpe ey_180 c_181
                                              exact J_208   H locs ls hP hD hS (lv_sub hl [] rfl)
                                            · have c_181 : ¬ y_180 = 0 := c_181
                                              have lc_181 : ¬ x1 = 7237492 := l_cmpne ey_180 c_181
                                              refine lv_lload_n hx hb dX7_isOwn_184 rfl (lv_at hl 1 rfl) ?_
                                              refine lv_ldc2 (v := 6384748) hx hb hown w_22 dX7_isOwn_185 ?_
                                              refine W.lcmp hx hb dX7_isOwn_188 ?_
                                              refine lv_topi (fun y_188 ey_188 => ?_)
                                              refine lv_if_eq (tgt := 208) hx hb dX7_isOwn_189 (by decide) (fun c_189 => ?_) (fun c_189 => ?_)
                                              · have c_189 : y_188 = 0 := c_189
                                                have f_208_1 : iR y_188 0 0 := iR_eqL c_189 (iR_top _) (iR_c (n := 0) (by decide +kernel) (by decide +kernel)) (by decide +kernel)
                                                have lc_189 : x1 = 6384748 := l_cmpe ey_188 c_189
                                                exact J_208   H locs ls hP hD hS (lv_sub hl [] rfl)
                                              · have c_189 : ¬ y_188 = 0 := c_189
                                                have lc_189 : ¬ x1 = 6384748 := l_cmpne ey_188 c_189
                                                refine lv_lload_n hx hb dX7_isOwn_192 rfl (lv_at hl 1 rfl) ?_
                                                refine lv_ldc2 (v := 7170414) hx hb hown w_23 dX7_isOwn_193 ?_
                                                refine W.lcmp hx hb dX7_isOwn_196 ?_
                                                refine lv_topi (fun y_196 ey_196 => ?_)
                                                refine lv_if_eq (tgt := 208) hx hb dX7_isOwn_197 (by decide) (fun c_197 => ?_) (fun c_197 => ?_)
                                                · have c_197 : y_196 = 0 := c_197
                                                  have f_208_1 : iR y_196 0 0 := iR_eqL c_197 (iR_top _) (iR_c (n := 0) (by decide +kernel) (by decide +kernel)) (by decide +kernel)
                                                  have lc_197 : x1 = 7170414 := l_cmpe ey_196 c_197
                                                  exact J_208   H locs ls hP hD hS (lv_sub hl [] rfl)
                                                · have c_197 : ¬ y_196 = 0 := c_197
                                                  have lc_197 : ¬ x1 = 7170414 := l_cmpne ey_196 c_197
                                                  refine lv_lload_n hx hb dX7_isOwn_200 rfl (lv_at hl 1 rfl) ?_
                                                  refine lv_ldc2 (v := 7168376) hx hb hown w_24 dX7_isOwn_201 ?_
                                                  refine W.lcmp hx hb dX7_isOwn_204 ?_
                                                  refine lv_topi (fun y_204 ey_204 => ?_)
                                                  refine lv_if_ne (tgt := 210) hx hb dX7_isOwn_205 (by decide) (fun c_205 => ?_) (fun c_205 => ?_)
                                                  · have c_205 : ¬ y_204 = 0 := c_205
                                                    have lc_205 : ¬ x1 = 7168376 := l_cmpne ey_204 c_205
                                                    refine lv_iconst (v := 0) hx hb dX7_isOwn_210 (by decide +kernel) ?_
                                                    exact k_ri B hP hD hS dX7_isOwn_211 () [] rfl rfl rfl (Nat.le_of_ble_eq_true rfl) (Nat.le_of_ble_eq_true rfl) (iR_c (n := 0) (by decide +kernel) (by decide +kernel))
                                                  · have c_205 : y_204 = 0 := c_205
                                                    have f_208_1 : iR y_204 0 0 := iR_eqL c_205 (iR_top _) (iR_c (n := 0) (by decide +kernel) (by decide +kernel)) (by decide +kernel)
                                                    have lc_205 : x1 = 7168376 := l_cmpe ey_204 c_205
                                                    exact J_208   H locs ls hP hD hS (lv_sub hl [] rfl)
                                        · have c_163 : y_162 = 0 := c_163
                                          have f_166_1 : iR y_162 0 0 := iR_eqL c_163 (iR_top _) (iR_c (n := 0) (by decide +kernel) (by decide +kernel)) (by decide +kernel)
                                          have lc_163 : x1 = 28530 := l_cmpe ey_162 c_163
                                          exact J_166   H locs ls hP hD hS (lv_sub hl [] rfl)
                              · have c_121 : y_120 = 0 := c_121
                                have f_124_1 : iR y_120 0 0 := iR_eqL c_121 (iR_top _) (iR_c (n := 0) (by decide +kernel) (by decide +kernel)) (by decide +kernel)
                                have lc_121 : x1 = 1667329133 := l_cmpe ey_120 c_121
                                exact J_124   H locs ls hP hD hS (lv_sub hl [] rfl)
                    · have c_79 : y_78 = 0 := c_79
                      have f_82_1 : iR y_78 0 0 := iR_eqL c_79 (iR_top _) (iR_c (n := 0) (by decide +kernel) (by decide +kernel)) (by decide +kernel)
                      have lc_79 : x1 = 439855772532 := l_cmpe ey_78 c_79
                      exact J_82   H locs ls hP hD hS (lv_sub hl [] rfl)
          · have c_37 : y_36 = 0 := c_37
            have f_40_1 : iR y_36 0 0 := iR_eqL c_37 (iR_top _) (iR_c (n := 0) (by decide +kernel) (by decide +kernel)) (by decide +kernel)
            have lc_37 : x1 = 2003399528 := l_cmpe ey_36 c_37
            exact J_40   H locs ls hP hD hS (lv_sub hl [] rfl)
