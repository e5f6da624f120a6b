set_option maxHeartbeats 8000000 in
set_option maxRecDepth 100000 in
theorem s_X7_before_v0 (l : Launch) (dC : Nat → ClassId) (dI : Nat → Nat → Nat) (cI cJ cZ cM : ClassId) (h : Nat) (r : Nat → Nat) (i : Nat → Int32) (j : Nat → Int64) (x1 : Int32) (f14 : Nat → Int32) (f17 : Nat → Int32) (f49 : Nat → Int32) (hI : mR i) (hf14 : aR f14 0 10) (hf17 : aR f17 0 1) (hf49 : aR f49 0 1023) : k_Mi l yX7_before wsX7_before ({ frames := 2, cells := 0, slots := 0, locals := 62 }) (dC, dI) vwCl (tyy cI cJ cZ cM) [(h, .inr (7, oM r i j)), ((r 14), .inl (cI, 2, .inl f14)), ((r 17), .inl (cI, 20, .inl f17)), ((r 49), .inl (cI, 22, .inl f49))] [.ref h, .int x1] 0 0 (fun (u9 : Unit) => [(h, .inr (7, oM r i j)), ((r 14), .inl (cI, 2, .inl f14)), ((r 17), .inl (cI, 20, .inl f17)), ((r 49), .inl (cI, 22, .inl f49))]) (fun (r9 : Int32) (u9 : Unit) => True) := by
  refine fun sz => k_enter (cc := cX7_before) (maxL := 3) (ret := some (.int)) (Qc := fun A => va_Qi (fun (r9 : Int32) (u9 : Unit) => True) (fun u => k_B (dC, dI) vwCl (tyy cI cJ cZ cM) A ((fun (u9 : Unit) => [(h, .inr (7, oM r i j)), ((r 14), .inl (cI, 2, .inl f14)), ((r 17), .inl (cI, 20, .inl f17)), ((r 49), .inl (cI, 22, .inl f49))]) u)) A) sz (by decide +kernel) rfl (Nat.le_of_ble_eq_true rfl) (fun p e s m args below meth c A ls H locs B hP hD hS hl => ?_)
  obtain ⟨hx, hb, hml, hown, hts, hr, hlk, hnm, hK, hA, hN, hC⟩ := id B
  have hown : s.vm.findClass RX7 = some m.cls := hown
  have hl : lv_has ls 3 [(0, .ref h), (1, .int x1)] := hl
  have w_0 : (Cond.fieldLink RX7 162 "WishSeaModel" "hadOf" "[I").before args s = true := hts _ (List.mem_of_getElem? (i := 1) rfl)
  have hinX7 : ∀ w ∈ u_ws RX7 TX7 92, w ∈ wsX7_before := fun _ h => List.mem_cons_of_mem _ (List.mem_append_right _ h)
  refine lv_iload_n hx hb dX7_before_0 rfl (lv_at hl 1 rfl) ?_
  refine lv_iconst (v := 0) hx hb dX7_before_1 (by decide +kernel) ?_
  refine lv_iconst (v := 2) hx hb dX7_before_2 (by decide +kernel) ?_
  refine k_ci (wc := []) (wr := [(h, .inr (7, oM r i j)), ((r 14), .inl (cI, 2, .inl f14)), ((r 17), .inl (cI, 20, .inl f17)), ((r 49), .inl (cI, 22, .inl f49))]) (fun hPc hDc hFc => va_runS (As := [.int x1, .int 0, .int 2]) (rest := []) ⟨hx, hb, hml, hown, hts⟩ (s_X7_is_v0 l dC dI cI cJ cZ cM x1 0 2 H.size) (va_cwS 3 hts gX7_before_X7_is rfl rfl rfl (by decide +kernel) ⟨(Nat.le_of_ble_eq_true rfl), (Nat.le_of_ble_eq_true rfl)⟩) (k_pS hPc hDc hK hN hC hS hFc) rfl rfl hl.1 rfl (lv_room (Nat.le_of_ble_eq_true rfl)) dX7_before_3 ⟨(Nat.le_of_ble_eq_true rfl), (Nat.le_of_ble_eq_true rfl)⟩) hP hD hS hA [] [0, 1, 2, 3] rfl rfl rfl rfl (by decide) (fun _ => rfl) 0 0 rfl rfl (fun r_3 u_3 H locs hw hP hD hS => ?_)
  obtain ⟨g_3_0, g_3_1⟩ := hw
  have hP : va_P (dC, dI) vwCl [(h, .inr (7, oM r i j)), ((r 14), .inl (cI, 2, .inl f14)), ((r 17), .inl (cI, 20, .inl f17)), ((r 49), .inl (cI, 22, .inl f49))] H := hP
  have hD : va_D A [(h, .inr (7, oM r i j)), ((r 14), .inl (cI, 2, .inl f14)), ((r 17), .inl (cI, 20, .inl f17)), ((r 49), .inl (cI, 22, .inl f49))] := hD
  have g_3_1 : (r_3 = 0) ∨ ((0 ≤ x1) ∧ (x1 ≤ 2)) := g_3_1
  refine lv_if_ne (tgt := 11) hx hb dX7_before_6 (by decide) (fun c_6 => ?_) (fun c_6 => ?_)
  · have c_6 : ¬ r_3 = 0 := c_6
    have f_11_1 : iR r_3 1 1 := iR_neL c_6 g_3_0 (iR_c (n := 0) (a := 0) (b := 0) (by decide +kernel) (by decide +kernel)) (by decide +kernel)
    obtain ⟨d_6_1_0, d_6_1_1⟩ := g_3_1.resolve_left c_6
    have f_11_2 : iR x1 0 2147483647 := iR_leR d_6_1_0 (iR_c (n := 0) (a := 0) (b := 0) (by decide +kernel) (by decide +kernel)) (iR_top _) (by decide +kernel)
    have f_11_3 : iR x1 0 2 := iR_leL d_6_1_1 f_11_2 (iR_c (n := 2) (a := 2) (b := 2) (by decide +kernel) (by decide +kernel)) (by decide +kernel)
    refine lv_aload_n hx hb dX7_before_11 rfl (lv_at hl 0 rfl) ?_
    refine k_ci (wc := [(h, .inr (7, oM r i j)), ((r 14), .inl (cI, 2, .inl f14)), ((r 17), .inl (cI, 20, .inl f17))]) (wr := [((r 49), .inl (cI, 22, .inl f49))]) (fun hPc hDc hFc => va_runV (As := []) (rest := []) ⟨hx, hb, hml, hown, hts⟩ (s_X7_briefOnes_v0 l dC dI cI cJ cZ cM h r i j f14 f17 hI hf14 hf17 H.size) (cwV 0 hts gX7_before_X7_briefOnes rfl rfl rfl (by decide +kernel) ⟨(Nat.le_of_ble_eq_true rfl), (Nat.le_of_ble_eq_true rfl)⟩) (k_pV hPc hDc hK hN hC hS hFc hP (q0 := 0) (ci := 7) rfl rfl) rfl rfl hl.1 rfl (lv_room (Nat.le_of_ble_eq_true rfl)) dX7_before_12 ⟨(Nat.le_of_ble_eq_true rfl), (Nat.le_of_ble_eq_true rfl)⟩) hP hD hS hA [0, 1, 2] [3] rfl rfl rfl rfl (by decide) (fun _ => rfl) 0 0 rfl rfl (fun r_12 u_12 H locs hw hP hD hS => ?_)
    have g_12_0 := hw
    have hP : va_P (dC, dI) vwCl [((r 49), .inl (cI, 22, .inl f49)), (h, .inr (7, oM r i j)), ((r 14), .inl (cI, 2, .inl f14)), ((r 17), .inl (cI, 20, .inl f17))] H := hP
    have hD : va_D A [((r 49), .inl (cI, 22, .inl f49)), (h, .inr (7, oM r i j)), ((r 14), .inl (cI, 2, .inl f14)), ((r 17), .inl (cI, 20, .inl f17))] := hD
    refine lv_istore_n (lv' := [(2, .int r_12), (0, .ref h), (1, .int x1)]) hx hb dX7_before_15 rfl hl (by decide) rfl (fun ls hl => ?_)
    refine lv_aload_n hx hb dX7_before_16 rfl (lv_at hl 1 rfl) ?_
    refine k_get (D := (dC, dI)) (ci := 7) (v := .ref (r 49)) (C := RX7) (T := TX7) (N := 92) hx hb hts hinX7 hown hK hP 1 rfl rfl 49 (by decide) w_0 rfl rfl dX7_before_17 ?_
    refine lv_iconst (v := 0) hx hb dX7_before_20 (by decide +kernel) ?_
    refine k_iald (v := (f49 0)) hx hb hK hP 0 0 0 rfl rfl rfl (Nat.le_of_ble_eq_true rfl) (Nat.le_of_ble_eq_true rfl) rfl dX7_before_21 ?_
    have f_21_4 : iR (f49 0) 0 1023 := hf49 _
    refine lv_iload_n hx hb dX7_before_22 rfl (lv_at hl 0 rfl) ?_
    refine lv_iand hx hb dX7_before_23 ?_
    refine lv_topi (fun y_23 ey_23 => ?_)
    have f_23_5 : iR y_23 0 1023 := iR_andR ey_23 g_12_0 (by decide +kernel)
    refine lv_if_eq (tgt := 37) hx hb dX7_before_24 (by decide) (fun c_24 => ?_) (fun c_24 => ?_)
    · have c_24 : y_23 = 0 := c_24
      have f_37_6 : iR y_23 0 0 := iR_eqL c_24 f_23_5 (iR_c (n := 0) (a := 0) (b := 0) (by decide +kernel) (by decide +kernel)) (by decide +kernel)
      refine lv_iload_n hx hb dX7_before_37 rfl (lv_at hl 2 rfl) ?_
      refine lv_if_ne (tgt := 50) hx hb dX7_before_38 (by decide) (fun c_38 => ?_) (fun c_38 => ?_)
      · have c_38 : ¬ x1 = 0 := c_38
        have f_50_7 : iR x1 1 2 := iR_ltR (i_ltne d_6_1_0 (fun q => c_38 q.symm)) (iR_c (n := 0) (a := 0) (b := 0) (by decide +kernel) (by decide +kernel)) f_11_3 (by decide +kernel)
        refine lv_iload_n hx hb dX7_before_50 rfl (lv_at hl 2 rfl) ?_
        refine lv_iconst (v := 1) hx hb dX7_before_51 (by decide +kernel) ?_
        refine lv_icmp_ne (tgt := 64) hx hb dX7_before_52 (by decide) (fun c_52 => ?_) (fun c_52 => ?_)
        · have c_52 : ¬ x1 = 1 := c_52
          have f_64_8 : iR x1 2 2 := iR_neL c_52 f_50_7 (iR_c (n := 1) (a := 1) (b := 1) (by decide +kernel) (by decide +kernel)) (by decide +kernel)
          refine lv_aload_n hx hb dX7_before_64 rfl (lv_at hl 1 rfl) ?_
          refine k_get (D := (dC, dI)) (ci := 7) (v := .ref (r 49)) (C := RX7) (T := TX7) (N := 92) hx hb hts hinX7 hown hK hP 1 rfl rfl 49 (by decide) w_0 rfl rfl dX7_before_65 ?_
          refine lv_iconst (v := 0) hx hb dX7_before_68 (by decide +kernel) ?_
          refine k_iald (v := (f49 0)) hx hb hK hP 0 0 0 rfl rfl rfl (Nat.le_of_ble_eq_true rfl) (Nat.le_of_ble_eq_true rfl) rfl dX7_before_69 ?_
          refine lv_iload_n hx hb dX7_before_70 rfl (lv_at hl 0 rfl) ?_
          refine lv_ior hx hb dX7_before_71 ?_
          refine lv_topi (fun y_71 ey_71 => ?_)
          have f_71_9 : iR y_71 0 1023 := iR_or 10 ey_71 f_21_4 g_12_0 (by decide +kernel)
          exact k_ri B hP hD hS dX7_before_72 () [1, 2, 3, 0] rfl rfl rfl (Nat.le_of_ble_eq_true rfl) (Nat.le_of_ble_eq_true rfl) trivial
        · have c_52 : x1 = 1 := c_52
          have f_55_8 : iR x1 1 1 := iR_eqL c_52 f_50_7 (iR_c (n := 1) (a := 1) (b := 1) (by decide +kernel) (by decide +kernel)) (by decide +kernel)
          refine lv_aload_n hx hb dX7_before_55 rfl (lv_at hl 1 rfl) ?_
          refine k_get (D := (dC, dI)) (ci := 7) (v := .ref (r 49)) (C := RX7) (T := TX7) (N := 92) hx hb hts hinX7 hown hK hP 1 rfl rfl 49 (by decide) w_0 rfl rfl dX7_before_56 ?_
          refine lv_iconst (v := 0) hx hb dX7_before_59 (by decide +kernel) ?_
          refine k_iald (v := (f49 0)) hx hb hK hP 0 0 0 rfl rfl rfl (Nat.le_of_ble_eq_true rfl) (Nat.le_of_ble_eq_true rfl) rfl dX7_before_60 ?_
          refine lv_goto (tgt := 72) hx hb dX7_before_61 (by decide) ?_
          exact k_ri B hP hD hS dX7_before_72 () [1, 2, 3, 0] rfl rfl rfl (Nat.le_of_ble_eq_true rfl) (Nat.le_of_ble_eq_true rfl) trivial
      · have c_38 : x1 = 0 := c_38
        have f_41_7 : iR x1 0 0 := iR_eqL c_38 f_11_3 (iR_c (n := 0) (a := 0) (b := 0) (by decide +kernel) (by decide +kernel)) (by decide +kernel)
        refine lv_iconst (v := 1) hx hb dX7_before_41 (by decide +kernel) ?_
        refine lv_iload_n hx hb dX7_before_42 rfl (lv_at hl 0 rfl) ?_
        refine k_ci (wc := []) (wr := [((r 49), .inl (cI, 22, .inl f49)), (h, .inr (7, oM r i j)), ((r 14), .inl (cI, 2, .inl f14)), ((r 17), .inl (cI, 20, .inl f17))]) (fun hPc hDc hFc => va_runS (As := [.int r_12]) (rest := [.int 1]) ⟨hx, hb, hml, hown, hts⟩ (s_X7_bits_v0 l dC dI cI cJ cZ cM r_12 H.size) (va_cwS 1 hts gX7_before_X7_bits rfl rfl rfl (by decide +kernel) ⟨(Nat.le_of_ble_eq_true rfl), (Nat.le_of_ble_eq_true rfl)⟩) (k_pS hPc hDc hK hN hC hS hFc) rfl rfl hl.1 rfl (lv_room (Nat.le_of_ble_eq_true rfl)) dX7_before_43 ⟨(Nat.le_of_ble_eq_true rfl), (Nat.le_of_ble_eq_true rfl)⟩) hP hD hS hA [] [0, 1, 2, 3] rfl rfl rfl rfl (by decide) (fun _ => rfl) 0 0 rfl rfl (fun r_43 u_43 H locs hw hP hD hS => ?_)
        have g_43_0 := hw
        have hP : va_P (dC, dI) vwCl [((r 49), .inl (cI, 22, .inl f49)), (h, .inr (7, oM r i j)), ((r 14), .inl (cI, 2, .inl f14)), ((r 17), .inl (cI, 20, .inl f17))] H := hP
        have hD : va_D A [((r 49), .inl (cI, 22, .inl f49)), (h, .inr (7, oM r i j)), ((r 14), .inl (cI, 2, .inl f14)), ((r 17), .inl (cI, 20, .inl f17))] := hD
        have g_43_0 : r_43 = bcf r_12 := g_43_0
        refine lv_ishl hx hb dX7_before_46 ?_
        refine lv_topi (fun y_46 ey_46 => ?_)
        refine lv_goto (tgt := 72) hx hb dX7_before_47 (by decide) ?_
        exact k_ri B hP hD hS dX7_before_72 () [1, 2, 3, 0] rfl rfl rfl (Nat.le_of_ble_eq_true rfl) (Nat.le_of_ble_eq_true rfl) trivial
    · have c_24 : ¬ y_23 = 0 := c_24
      have f_27_6 : iR y_23 1 1023 := iR_neL c_24 f_23_5 (iR_c (n := 0) (a := 0) (b := 0) (by decide +kernel) (by decide +kernel)) (by decide +kernel)
      refine lv_iload_n hx hb dX7_before_27 rfl (lv_at hl 2 rfl) ?_
      refine lv_if_ne (tgt := 35) hx hb dX7_before_28 (by decide) (fun c_28 => ?_) (fun c_28 => ?_)
      · have c_28 : ¬ x1 = 0 := c_28
        have f_35_7 : iR x1 1 2 := iR_ltR (i_ltne d_6_1_0 (fun q => c_28 q.symm)) (iR_c (n := 0) (a := 0) (b := 0) (by decide +kernel) (by decide +kernel)) f_11_3 (by decide +kernel)
        refine lv_iconst (v := (-1)) hx hb dX7_before_35 (by decide +kernel) ?_
        exact k_ri B hP hD hS dX7_before_36 () [1, 2, 3, 0] rfl rfl rfl (Nat.le_of_ble_eq_true rfl) (Nat.le_of_ble_eq_true rfl) trivial
      · have c_28 : x1 = 0 := c_28
        have f_31_7 : iR x1 0 0 := iR_eqL c_28 f_11_3 (iR_c (n := 0) (a := 0) (b := 0) (by decide +kernel) (by decide +kernel)) (by decide +kernel)
        refine lv_iconst (v := 0) hx hb dX7_before_31 (by decide +kernel) ?_
        refine lv_goto (tgt := 36) hx hb dX7_before_32 (by decide) ?_
        exact k_ri B hP hD hS dX7_before_36 () [1, 2, 3, 0] rfl rfl rfl (Nat.le_of_ble_eq_true rfl) (Nat.le_of_ble_eq_true rfl) trivial
  · have c_6 : r_3 = 0 := c_6
    have f_9_1 : iR r_3 0 0 := iR_eqL c_6 g_3_0 (iR_c (n := 0) (a := 0) (b := 0) (by decide +kernel) (by decide +kernel)) (by decide +kernel)
    refine lv_iconst (v := (-1)) hx hb dX7_before_9 (by decide +kernel) ?_
    exact k_ri B hP hD hS dX7_before_10 () [0, 1, 2, 3] rfl rfl rfl (Nat.le_of_ble_eq_true rfl) (Nat.le_of_ble_eq_true rfl) trivial
set_option maxHeartbeats 8000000 in
set_option maxRecDepth 100000 in
theorem s_X7_writes_v0 (l : Launch) (dC : Nat → ClassId) (dI : Nat → Nat → Nat) (cI cJ cZ cM : ClassId) (h : Nat) (r : Nat → Nat) (i : Nat → Int32) (j : Nat → Int64) (x1 : Int32) (f90 : Nat → Int32) (hm91 : iR (i 91) 0 0) (hI : mR i) : k_Mv l yX7_writes wsX7_writes ({ frames := 1, cells := 0, slots := 0, locals := 40 }) (dC, dI) vwCl (tyy cI cJ cZ cM) [(h, .inr (7, oM r i j)), ((r 90), .inl (cI, 12, .inl f90))] [.ref h, .int x1] 0 0 (fun (u9 : SU) => [(h, .inr (7, oM r (upd i 91 (u9.1 0)) j)), ((r 90), .inl (cI, 12, .inl (u9.2.2.1 0)))]) (fun (u9 : SU) => (iR (u9.1 0) 1 1)) := by
  refine fun sz => k_enter (cc := cX7_writes) (maxL := 2) (ret := none) (Qc := fun A => va_Qv (fun (u9 : SU) => (iR (u9.1 0) 1 1)) (fun u => k_B (dC, dI) vwCl (tyy cI cJ cZ cM) A ((fun (u9 : SU) => [(h, .inr (7, oM r (upd i 91 (u9.1 0)) j)), ((r 90), .inl (cI, 12, .inl (u9.2.2.1 0)))]) u)) A) sz (by decide +kernel) rfl (Nat.le_of_ble_eq_true rfl) (fun p e s m args below meth c A ls H locs B hP hD hS hl => ?_)
  obtain ⟨hx, hb, hml, hown, hts, hr, hlk, hnm, hK, hA, hN, hC⟩ := id B
  have hown : s.vm.findClass RX7 = some m.cls := hown
  have hl : lv_has ls 2 [(0, .ref h), (1, .int x1)] := hl
  have w_0 : (Cond.fieldLink RX7 285 "WishSeaModel" "out" "[I").before args s = true := hts _ (List.mem_of_getElem? (i := 1) rfl)
  have w_1 : (Cond.fieldLink RX7 288 "WishSeaModel" "outs" "I").before args s = true := hts _ (List.mem_of_getElem? (i := 2) rfl)
  have hinX7 : ∀ w ∈ u_ws RX7 TX7 92, w ∈ wsX7_writes := fun _ h => List.mem_cons_of_mem _ (List.mem_append_right _ h)
  refine lv_aload_n hx hb dX7_writes_0 rfl (lv_at hl 0 rfl) ?_
  refine k_get (D := (dC, dI)) (ci := 7) (v := .ref (r 90)) (C := RX7) (T := TX7) (N := 92) hx hb hts hinX7 hown hK hP 0 rfl rfl 90 (by decide) w_0 rfl rfl dX7_writes_1 ?_
  refine lv_aload_n hx hb dX7_writes_4 rfl (lv_at hl 0 rfl) ?_
  refine k_get (D := (dC, dI)) (ci := 7) (v := .int (i 91)) (C := RX7) (T := TX7) (N := 92) hx hb hts hinX7 hown hK hP 0 rfl rfl 91 (by decide) w_1 rfl rfl dX7_writes_5 ?_
  refine lv_iload_n hx hb dX7_writes_8 rfl (lv_at hl 1 rfl) ?_
  refine lv_sipush (v := 255) hx hb dX7_writes_9 (by decide +kernel) ?_
  refine lv_iand hx hb dX7_writes_12 ?_
  refine lv_topi (fun y_12 ey_12 => ?_)
  have f_12_1 : iR y_12 0 255 := iR_andR ey_12 (iR_c (n := 255) (a := 255) (b := 255) (by decide +kernel) (by decide +kernel)) (by decide +kernel)
  refine s_iast (g := (upd f90 (i 91).toNatClampNeg y_12)) (ws' := [(h, .inr (7, oM r i j)), ((r 90), .inl (cI, 12, .inl (upd f90 (i 91).toNatClampNeg y_12)))]) hx hb hK hP hD hS 1 0 rfl rfl (iR_vp hm91 (by decide +kernel)) rfl rfl dX7_writes_13 (fun H locs hP hD hS => ?_)
  refine lv_aload_n hx hb dX7_writes_14 rfl (lv_at hl 0 rfl) ?_
  refine lv_dup hx hb dX7_writes_15 rfl ?_
  refine k_get (D := (dC, dI)) (ci := 7) (v := .int (i 91)) (C := RX7) (T := TX7) (N := 92) hx hb hts hinX7 hown hK hP 0 rfl rfl 91 (by decide) w_1 rfl rfl dX7_writes_16 ?_
  refine lv_iconst (v := 1) hx hb dX7_writes_19 (by decide +kernel) ?_
  refine lv_iadd hx hb dX7_writes_20 ?_
  refine lv_topi (fun y_20 ey_20 => ?_)
  have f_20_2 : iR y_20 1 1 := iR_add ey_20 hm91 (iR_c (n := 1) (a := 1) (b := 1) (by decide +kernel) (by decide +kernel)) (by decide +kernel)
  refine k_put (D := (dC, dI)) (ci := 7) (v := .int y_20) (C := RX7) (T := TX7) (N := 92) (ws' := [(h, .inr (7, oM r (upd i 91 y_20) j)), ((r 90), .inl (cI, 12, .inl (upd f90 (i 91).toNatClampNeg y_12)))]) hx hb hts hinX7 tyX7 tyX7_ok nmX7 hown hK hP hD hS 0 rfl rfl 91 (by decide) w_1 rfl rfl rfl rfl (Nat.le_of_ble_eq_true rfl) rfl dX7_writes_21 (fun H locs hP hD hS => ?_)
  exact k_rv B hP hD hS dX7_writes_24 ((fun k9 => match k9 with | 0 => y_20 | _ => 0), (fun _ => 0), (fun k9 => match k9 with | 0 => (upd f90 (i 91).toNatClampNeg y_12) | _ => (fun _ => 0)), (fun _ => (fun _ => 0)), (fun _ => 0)) [0, 1] rfl rfl (Nat.le_of_ble_eq_true rfl) (Nat.le_of_ble_eq_true rfl) (show iR y_20 1 1 from f_20_2)
set_option maxHeartbeats 8000000 in
set_option maxRecDepth 100000 in
theorem s_X7_writes_v1 (l : Launch) (dC : Nat → ClassId) (dI : Nat → Nat → Nat) (cI cJ cZ cM : ClassId) (h : Nat) (r : Nat → Nat) (i : Nat → Int32) (j : Nat → Int64) (x1 : Int32) (f90 : Nat → Int32) (hm91 : iR (i 91) 1 1) (hI : mR i) : k_Mv l yX7_writes wsX7_writes ({ frames := 1, cells := 0, slots := 0, locals := 40 }) (dC, dI) vwCl (tyy cI cJ cZ cM) [(h, .inr (7, oM r i j)), ((r 90), .inl (cI, 12, .inl f90))] [.ref h, .int x1] 0 0 (fun (u9 : SU) => [(h, .inr (7, oM r (upd i 91 (u9.1 0)) j)), ((r 90), .inl (cI, 12, .inl (u9.2.2.1 0)))]) (fun (u9 : SU) => (iR (u9.1 0) 2 2)) := by
  refine fun sz => k_enter (cc := cX7_writes) (maxL := 2) (ret := none) (Qc := fun A => va_Qv (fun (u9 : SU) => (iR (u9.1 0) 2 2)) (fun u => k_B (dC, dI) vwCl (tyy cI cJ cZ cM) A ((fun (u9 : SU) => [(h, .inr (7, oM r (upd i 91 (u9.1 0)) j)), ((r 90), .inl (cI, 12, .inl (u9.2.2.1 0)))]) u)) A) sz (by decide +kernel) rfl (Nat.le_of_ble_eq_true rfl) (fun p e s m args below meth c A ls H locs B hP hD hS hl => ?_)
  obtain ⟨hx, hb, hml, hown, hts, hr, hlk, hnm, hK, hA, hN, hC⟩ := id B
  have hown : s.vm.findClass RX7 = some m.cls := hown
  have hl : lv_has ls 2 [(0, .ref h), (1, .int x1)] := hl
  have w_0 : (Cond.fieldLink RX7 285 "WishSeaModel" "out" "[I").before args s = true := hts _ (List.mem_of_getElem? (i := 1) rfl)
  have w_1 : (Cond.fieldLink RX7 288 "WishSeaModel" "outs" "I").before args s = true := hts _ (List.mem_of_getElem? (i := 2) rfl)
  have hinX7 : ∀ w ∈ u_ws RX7 TX7 92, w ∈ wsX7_writes := fun _ h => List.mem_cons_of_mem _ (List.mem_append_right _ h)
  refine lv_aload_n hx hb dX7_writes_0 rfl (lv_at hl 0 rfl) ?_
  refine k_get (D := (dC, dI)) (ci := 7) (v := .ref (r 90)) (C := RX7) (T := TX7) (N := 92) hx hb hts hinX7 hown hK hP 0 rfl rfl 90 (by decide) w_0 rfl rfl dX7_writes_1 ?_
  refine lv_aload_n hx hb dX7_writes_4 rfl (lv_at hl 0 rfl) ?_
  refine k_get (D := (dC, dI)) (ci := 7) (v := .int (i 91)) (C := RX7) (T := TX7) (N := 92) hx hb hts hinX7 hown hK hP 0 rfl rfl 91 (by decide) w_1 rfl rfl dX7_writes_5 ?_
  refine lv_iload_n hx hb dX7_writes_8 rfl (lv_at hl 1 rfl) ?_
  refine lv_sipush (v := 255) hx hb dX7_writes_9 (by decide +kernel) ?_
  refine lv_iand hx hb dX7_writes_12 ?_
  refine lv_topi (fun y_12 ey_12 => ?_)
  have f_12_1 : iR y_12 0 255 := iR_andR ey_12 (iR_c (n := 255) (a := 255) (b := 255) (by decide +kernel) (by decide +kernel)) (by decide +kernel)
  refine s_iast (g := (upd f90 (i 91).toNatClampNeg y_12)) (ws' := [(h, .inr (7, oM r i j)), ((r 90), .inl (cI, 12, .inl (upd f90 (i 91).toNatClampNeg y_12)))]) hx hb hK hP hD hS 1 0 rfl rfl (iR_vp hm91 (by decide +kernel)) rfl rfl dX7_writes_13 (fun H locs hP hD hS => ?_)
  refine lv_aload_n hx hb dX7_writes_14 rfl (lv_at hl 0 rfl) ?_
  refine lv_dup hx hb dX7_writes_15 rfl ?_
  refine k_get (D := (dC, dI)) (ci := 7) (v := .int (i 91)) (C := RX7) (T := TX7) (N := 92) hx hb hts hinX7 hown hK hP 0 rfl rfl 91 (by decide) w_1 rfl rfl dX7_writes_16 ?_
  refine lv_iconst (v := 1) hx hb dX7_writes_19 (by decide +kernel) ?_
  refine lv_iadd hx hb dX7_writes_20 ?_
  refine lv_topi (fun y_20 ey_20 => ?_)
  have f_20_2 : iR y_20 2 2 := iR_add ey_20 hm91 (iR_c (n := 1) (a := 1) (b := 1) (by decide +kernel) (by decide +kernel)) (by decide +kernel)
  refine k_put (D := (dC, dI)) (ci := 7) (v := .int y_20) (C := RX7) (T := TX7) (N := 92) (ws' := [(h, .inr (7, oM r (upd i 91 y_20) j)), ((r 90), .inl (cI, 12, .inl (upd f90 (i 91).toNatClampNeg y_12)))]) hx hb hts hinX7 tyX7 tyX7_ok nmX7 hown hK hP hD hS 0 rfl rfl 91 (by decide) w_1 rfl rfl rfl rfl (Nat.le_of_ble_eq_true rfl) rfl dX7_writes_21 (fun H locs hP hD hS => ?_)
  exact k_rv B hP hD hS dX7_writes_24 ((fun k9 => match k9 with | 0 => y_20 | _ => 0), (fun _ => 0), (fun k9 => match k9 with | 0 => (upd f90 (i 91).toNatClampNeg y_12) | _ => (fun _ => 0)), (fun _ => (fun _ => 0)), (fun _ => 0)) [0, 1] rfl rfl (Nat.le_of_ble_eq_true rfl) (Nat.le_of_ble_eq_true rfl) (show iR y_20 2 2 from f_20_2)
set_option maxHeartbeats 8000000 in
set_option maxRecDepth 100000 in
theorem s_X7_writes_v2 (l : Launch) (dC : Nat → ClassId) (dI : Nat → Nat → Nat) (cI cJ cZ cM : ClassId) (h : Nat) (r : Nat → Nat) (i : Nat → Int32) (j : Nat → Int64) (x1 : Int32) (f90 : Nat → Int32) (hm91 : iR (i 91) 2 2) (hI : mR i) : k_Mv l yX7_writes wsX7_writes ({ frames := 1, cells := 0, slots := 0, locals := 40 }) (dC, dI) vwCl (tyy cI cJ cZ cM) [(h, .inr (7, oM r i j)), ((r 90), .inl (cI, 12, .inl f90))] [.ref h, .int x1] 0 0 (fun (u9 : SU) => [(h, .inr (7, oM r (upd i 91 (u9.1 0)) j)), ((r 90), .inl (cI, 12, .inl (u9.2.2.1 0)))]) (fun (u9 : SU) => (iR (u9.1 0) 3 3)) := by
  refine fun sz => k_enter (cc := cX7_writes) (maxL := 2) (ret := none) (Qc := fun A => va_Qv (fun (u9 : SU) => (iR (u9.1 0) 3 3)) (fun u => k_B (dC, dI) vwCl (tyy cI cJ cZ cM) A ((fun (u9 : SU) => [(h, .inr (7, oM r (upd i 91 (u9.1 0)) j)), ((r 90), .inl (cI, 12, .inl (u9.2.2.1 0)))]) u)) A) sz (by decide +kernel) rfl (Nat.le_of_ble_eq_true rfl) (fun p e s m args below meth c A ls H locs B hP hD hS hl => ?_)
  obtain ⟨hx, hb, hml, hown, hts, hr, hlk, hnm, hK, hA, hN, hC⟩ := id B
  have hown : s.vm.findClass RX7 = some m.cls := hown
  have hl : lv_has ls 2 [(0, .ref h), (1, .int x1)] := hl
  have w_0 : (Cond.fieldLink RX7 285 "WishSeaModel" "out" "[I").before args s = true := hts _ (List.mem_of_getElem? (i := 1) rfl)
  have w_1 : (Cond.fieldLink RX7 288 "WishSeaModel" "outs" "I").before args s = true := hts _ (List.mem_of_getElem? (i := 2) rfl)
  have hinX7 : ∀ w ∈ u_ws RX7 TX7 92, w ∈ wsX7_writes := fun _ h => List.mem_cons_of_mem _ (List.mem_append_right _ h)
  refine lv_aload_n hx hb dX7_writes_0 rfl (lv_at hl 0 rfl) ?_
  refine k_get (D := (dC, dI)) (ci := 7) (v := .ref (r 90)) (C := RX7) (T := TX7) (N := 92) hx hb hts hinX7 hown hK hP 0 rfl rfl 90 (by decide) w_0 rfl rfl dX7_writes_1 ?_
  refine lv_aload_n hx hb dX7_writes_4 rfl (lv_at hl 0 rfl) ?_
  refine k_get (D := (dC, dI)) (ci := 7) (v := .int (i 91)) (C := RX7) (T := TX7) (N := 92) hx hb hts hinX7 hown hK hP 0 rfl rfl 91 (by decide) w_1 rfl rfl dX7_writes_5 ?_
  refine lv_iload_n hx hb dX7_writes_8 rfl (lv_at hl 1 rfl) ?_
  refine lv_sipush (v := 255) hx hb dX7_writes_9 (by decide +kernel) ?_
  refine lv_iand hx hb dX7_writes_12 ?_
  refine lv_topi (fun y_12 ey_12 => ?_)
  have f_12_1 : iR y_12 0 255 := iR_andR ey_12 (iR_c (n := 255) (a := 255) (b := 255) (by decide +kernel) (by decide +kernel)) (by decide +kernel)
  refine s_iast (g := (upd f90 (i 91).toNatClampNeg y_12)) (ws' := [(h, .inr (7, oM r i j)), ((r 90), .inl (cI, 12, .inl (upd f90 (i 91).toNatClampNeg y_12)))]) hx hb hK hP hD hS 1 0 rfl rfl (iR_vp hm91 (by decide +kernel)) rfl rfl dX7_writes_13 (fun H locs hP hD hS => ?_)
  refine lv_aload_n hx hb dX7_writes_14 rfl (lv_at hl 0 rfl) ?_
  refine lv_dup hx hb dX7_writes_15 rfl ?_
  refine k_get (D := (dC, dI)) (ci := 7) (v := .int (i 91)) (C := RX7) (T := TX7) (N := 92) hx hb hts hinX7 hown hK hP 0 rfl rfl 91 (by decide) w_1 rfl rfl dX7_writes_16 ?_
  refine lv_iconst (v := 1) hx hb dX7_writes_19 (by decide +kernel) ?_
  refine lv_iadd hx hb dX7_writes_20 ?_
  refine lv_topi (fun y_20 ey_20 => ?_)
  have f_20_2 : iR y_20 3 3 := iR_add ey_20 hm91 (iR_c (n := 1) (a := 1) (b := 1) (by decide +kernel) (by decide +kernel)) (by decide +kernel)
  refine k_put (D := (dC, dI)) (ci := 7) (v := .int y_20) (C := RX7) (T := TX7) (N := 92) (ws' := [(h, .inr (7, oM r (upd i 91 y_20) j)), ((r 90), .inl (cI, 12, .inl (upd f90 (i 91).toNatClampNeg y_12)))]) hx hb hts hinX7 tyX7 tyX7_ok nmX7 hown hK hP hD hS 0 rfl rfl 91 (by decide) w_1 rfl rfl rfl rfl (Nat.le_of_ble_eq_true rfl) rfl dX7_writes_21 (fun H locs hP hD hS => ?_)
  exact k_rv B hP hD hS dX7_writes_24 ((fun k9 => match k9 with | 0 => y_20 | _ => 0), (fun _ => 0), (fun k9 => match k9 with | 0 => (upd f90 (i 91).toNatClampNeg y_12) | _ => (fun _ => 0)), (fun _ => (fun _ => 0)), (fun _ => 0)) [0, 1] rfl rfl (Nat.le_of_ble_eq_true rfl) (Nat.le_of_ble_eq_true rfl) (show iR y_20 3 3 from f_20_2)
set_option maxHeartbeats 8000000 in
set_option maxRecDepth 100000 in
theorem s_X7_writes_v3 (l : Launch) (dC : Nat → ClassId) (dI : Nat → Nat → Nat) (cI cJ cZ cM : ClassId) (h : Nat) (r : Nat → Nat) (i : Nat → Int32) (j : Nat → Int64) (x1 : Int32) (f90 : Nat → Int32) (hm91 : iR (i 91) 3 3) (hI : mR i) : k_Mv l yX7_writes wsX7_writes ({ frames := 1, cells := 0, slots := 0, locals := 40 }) (dC, dI) vwCl (tyy cI cJ cZ cM) [(h, .inr (7, oM r i j)), ((r 90), .inl (cI, 12, .inl f90))] [.ref h, .int x1] 0 0 (fun (u9 : SU) => [(h, .inr (7, oM r (upd i 91 (u9.1 0)) j)), ((r 90), .inl (cI, 12, .inl (u9.2.2.1 0)))]) (fun (u9 : SU) => (iR (u9.1 0) 4 4)) := by
  refine fun sz => k_enter (cc := cX7_writes) (maxL := 2) (ret := none) (Qc := fun A => va_Qv (fun (u9 : SU) => (iR (u9.1 0) 4 4)) (fun u => k_B (dC, dI) vwCl (tyy cI cJ cZ cM) A ((fun (u9 : SU) => [(h, .inr (7, oM r (upd i 91 (u9.1 0)) j)), ((r 90), .inl (cI, 12, .inl (u9.2.2.1 0)))]) u)) A) sz (by decide +kernel) rfl (Nat.le_of_ble_eq_true rfl) (fun p e s m args below meth c A ls H locs B hP hD hS hl => ?_)
  obtain ⟨hx, hb, hml, hown, hts, hr, hlk, hnm, hK, hA, hN, hC⟩ := id B
  have hown : s.vm.findClass RX7 = some m.cls := hown
  have hl : lv_has ls 2 [(0, .ref h), (1, .int x1)] := hl
  have w_0 : (Cond.fieldLink RX7 285 "WishSeaModel" "out" "[I").before args s = true := hts _ (List.mem_of_getElem? (i := 1) rfl)
  have w_1 : (Cond.fieldLink RX7 288 "WishSeaModel" "outs" "I").before args s = true := hts _ (List.mem_of_getElem? (i := 2) rfl)
  have hinX7 : ∀ w ∈ u_ws RX7 TX7 92, w ∈ wsX7_writes := fun _ h => List.mem_cons_of_mem _ (List.mem_append_right _ h)
  refine lv_aload_n hx hb dX7_writes_0 rfl (lv_at hl 0 rfl) ?_
  refine k_get (D := (dC, dI)) (ci := 7) (v := .ref (r 90)) (C := RX7) (T := TX7) (N := 92) hx hb hts hinX7 hown hK hP 0 rfl rfl 90 (by decide) w_0 rfl rfl dX7_writes_1 ?_
  refine lv_aload_n hx hb dX7_writes_4 rfl (lv_at hl 0 rfl) ?_
  refine k_get (D := (dC, dI)) (ci := 7) (v := .int (i 91)) (C := RX7) (T := TX7) (N := 92) hx hb hts hinX7 hown hK hP 0 rfl rfl 91 (by decide) w_1 rfl rfl dX7_writes_5 ?_
  refine lv_iload_n hx hb dX7_writes_8 rfl (lv_at hl 1 rfl) ?_
  refine lv_sipush (v := 255) hx hb dX7_writes_9 (by decide +kernel) ?_
  refine lv_iand hx hb dX7_writes_12 ?_
  refine lv_topi (fun y_12 ey_12 => ?_)
  have f_12_1 : iR y_12 0 255 := iR_andR ey_12 (iR_c (n := 255) (a := 255) (b := 255) (by decide +kernel) (by decide +kernel)) (by decide +kernel)
  refine s_iast (g := (upd f90 (i 91).toNatClampNeg y_12)) (ws' := [(h, .inr (7, oM r i j)), ((r 90), .inl (cI, 12, .inl (upd f90 (i 91).toNatClampNeg y_12)))]) hx hb hK hP hD hS 1 0 rfl rfl (iR_vp hm91 (by decide +kernel)) rfl rfl dX7_writes_13 (fun H locs hP hD hS => ?_)
  refine lv_aload_n hx hb dX7_writes_14 rfl (lv_at hl 0 rfl) ?_
  refine lv_dup hx hb dX7_writes_15 rfl ?_
  refine k_get (D := (dC, dI)) (ci := 7) (v := .int (i 91)) (C := RX7) (T := TX7) (N := 92) hx hb hts hinX7 hown hK hP 0 rfl rfl 91 (by decide) w_1 rfl rfl dX7_writes_16 ?_
  refine lv_iconst (v := 1) hx hb dX7_writes_19 (by decide +kernel) ?_
  refine lv_iadd hx hb dX7_writes_20 ?_
  refine lv_topi (fun y_20 ey_20 => ?_)
  have f_20_2 : iR y_20 4 4 := iR_add ey_20 hm91 (iR_c (n := 1) (a := 1) (b := 1) (by decide +kernel) (by decide +kernel)) (by decide +kernel)
  refine k_put (D := (dC, dI)) (ci := 7) (v := .int y_20) (C := RX7) (T := TX7) (N := 92) (ws' := [(h, .inr (7, oM r (upd i 91 y_20) j)), ((r 90), .inl (cI, 12, .inl (upd f90 (i 91).toNatClampNeg y_12)))]) hx hb hts hinX7 tyX7 tyX7_ok nmX7 hown hK hP hD hS 0 rfl rfl 91 (by decide) w_1 rfl rfl rfl rfl (Nat.le_of_ble_eq_true rfl) rfl dX7_writes_21 (fun H locs hP hD hS => ?_)
  exact k_rv B hP hD hS dX7_writes_24 ((fun k9 => match k9 with | 0 => y_20 | _ => 0), (fun _ => 0), (fun k9 => match k9 with | 0 => (upd f90 (i 91).toNatClampNeg y_12) | _ => (fun _ => 0)), (fun _ => (fun _ => 0)), (fun _ => 0)) [0, 1] rfl rfl (Nat.le_of_ble_eq_true rfl) (Nat.le_of_ble_eq_true rfl) (show iR y_20 4 4 from f_20_2)
set_option maxHeartbeats 8000000 in
set_option maxRecDepth 100000 in
theorem s_X7_writes_v4 (l : Launch) (dC : Nat → ClassId) (dI : Nat → Nat → Nat) (cI cJ cZ cM : ClassId) (h : Nat) (r : Nat → Nat) (i : Nat → Int32) (j : Nat → Int64) (x1 : Int32) (f90 : Nat → Int32) (hm91 : iR (i 91) 4 4) (hI : mR i) : k_Mv l yX7_writes wsX7_writes ({ frames := 1, cells := 0, slots := 0, locals := 40 }) (dC, dI) vwCl (tyy cI cJ cZ cM) [(h, .inr (7, oM r i j)), ((r 90), .inl (cI, 12, .inl f90))] [.ref h, .int x1] 0 0 (fun (u9 : SU) => [(h, .inr (7, oM r (upd i 91 (u9.1 0)) j)), ((r 90), .inl (cI, 12, .inl (u9.2.2.1 0)))]) (fun (u9 : SU) => (iR (u9.1 0) 5 5)) := by
  refine fun sz => k_enter (cc := cX7_writes) (maxL := 2) (ret := none) (Qc := fun A => va_Qv (fun (u9 : SU) => (iR (u9.1 0) 5 5)) (fun u => k_B (dC, dI) vwCl (tyy cI cJ cZ cM) A ((fun (u9 : SU) => [(h, .inr (7, oM r (upd i 91 (u9.1 0)) j)), ((r 90), .inl (cI, 12, .inl (u9.2.2.1 0)))]) u)) A) sz (by decide +kernel) rfl (Nat.le_of_ble_eq_true rfl) (fun p e s m args below meth c A ls H locs B hP hD hS hl => ?_)
  obtain ⟨hx, hb, hml, hown, hts, hr, hlk, hnm, hK, hA, hN, hC⟩ := id B
  have hown : s.vm.findClass RX7 = some m.cls := hown
  have hl : lv_has ls 2 [(0, .ref h), (1, .int x1)] := hl
  have w_0 : (Cond.fieldLink RX7 285 "WishSeaModel" "out" "[I").before args s = true := hts _ (List.mem_of_getElem? (i := 1) rfl)
  have w_1 : (Cond.fieldLink RX7 288 "WishSeaModel" "outs" "I").before args s = true := hts _ (List.mem_of_getElem? (i := 2) rfl)
  have hinX7 : ∀ w ∈ u_ws RX7 TX7 92, w ∈ wsX7_writes := fun _ h => List.mem_cons_of_mem _ (List.mem_append_right _ h)
  refine lv_aload_n hx hb dX7_writes_0 rfl (lv_at hl 0 rfl) ?_
  refine k_get (D := (dC, dI)) (ci := 7) (v := .ref (r 90)) (C := RX7) (T := TX7) (N := 92) hx hb hts hinX7 hown hK hP 0 rfl rfl 90 (by decide) w_0 rfl rfl dX7_writes_1 ?_
  refine lv_aload_n hx hb dX7_writes_4 rfl (lv_at hl 0 rfl) ?_
  refine k_get (D := (dC, dI)) (ci := 7) (v := .int (i 91)) (C := RX7) (T := TX7) (N := 92) hx hb hts hinX7 hown hK hP 0 rfl rfl 91 (by decide) w_1 rfl rfl dX7_writes_5 ?_
  refine lv_iload_n hx hb dX7_writes_8 rfl (lv_at hl 1 rfl) ?_
  refine lv_sipush (v := 255) hx hb dX7_writes_9 (by decide +kernel) ?_
  refine lv_iand hx hb dX7_writes_12 ?_
  refine lv_topi (fun y_12 ey_12 => ?_)
  have f_12_1 : iR y_12 0 255 := iR_andR ey_12 (iR_c (n := 255) (a := 255) (b := 255) (by decide +kernel) (by decide +kernel)) (by decide +kernel)
  refine s_iast (g := (upd f90 (i 91).toNatClampNeg y_12)) (ws' := [(h, .inr (7, oM r i j)), ((r 90), .inl (cI, 12, .inl (upd f90 (i 91).toNatClampNeg y_12)))]) hx hb hK hP hD hS 1 0 rfl rfl (iR_vp hm91 (by decide +kernel)) rfl rfl dX7_writes_13 (fun H locs hP hD hS => ?_)
  refine lv_aload_n hx hb dX7_writes_14 rfl (lv_at hl 0 rfl) ?_
  refine lv_dup hx hb dX7_writes_15 rfl ?_
  refine k_get (D := (dC, dI)) (ci := 7) (v := .int (i 91)) (C := RX7) (T := TX7) (N := 92) hx hb hts hinX7 hown hK hP 0 rfl rfl 91 (by decide) w_1 rfl rfl dX7_writes_16 ?_
  refine lv_iconst (v := 1) hx hb dX7_writes_19 (by decide +kernel) ?_
  refine lv_iadd hx hb dX7_writes_20 ?_
  refine lv_topi (fun y_20 ey_20 => ?_)
  have f_20_2 : iR y_20 5 5 := iR_add ey_20 hm91 (iR_c (n := 1) (a := 1) (b := 1) (by decide +kernel) (by decide +kernel)) (by decide +kernel)
  refine k_put (D := (dC, dI)) (ci := 7) (v := .int y_20) (C := RX7) (T := TX7) (N := 92) (ws' := [(h, .inr (7, oM r (upd i 91 y_20) j)), ((r 90), .inl (cI, 12, .inl (upd f90 (i 91).toNatClampNeg y_12)))]) hx hb hts hinX7 tyX7 tyX7_ok nmX7 hown hK hP hD hS 0 rfl rfl 91 (by decide) w_1 rfl rfl rfl rfl (Nat.le_of_ble_eq_true rfl) rfl dX7_writes_21 (fun H locs hP hD hS => ?_)
  exact k_rv B hP hD hS dX7_writes_24 ((fun k9 => match k9 with | 0 => y_20 | _ => 0), (fun _ => 0), (fun k9 => match k9 with | 0 => (upd f90 (i 91).toNatClampNeg y_12) | _ => (fun _ => 0)), (fun _ => (fun _ => 0)), (fun _ => 0)) [0, 1] rfl rfl (Nat.le_of_ble_eq_true rfl) (Nat.le_of_ble_eq_true rfl) (show iR y_20 5 5 from f_20_2)
set_option maxHeartbeats 8000000 in
set_option maxRecDepth 100000 in
theorem s_X7_writes_v5 (l : Launch) (dC : Nat → ClassId) (dI : Nat → Nat → Nat) (cI cJ cZ cM : ClassId) (h : Nat) (r : Nat → Nat) (i : Nat → Int32) (j : Nat → Int64) (x1 : Int32) (f90 : Nat → Int32) (hm91 : iR (i 91) 5 5) (hI : mR i) : k_Mv l yX7_writes wsX7_writes ({ frames := 1, cells := 0, slots := 0, locals := 40 }) (dC, dI) vwCl (tyy cI cJ cZ cM) [(h, .inr (7, oM r i j)), ((r 90), .inl (cI, 12, .inl f90))] [.ref h, .int x1] 0 0 (fun (u9 : SU) => [(h, .inr (7, oM r (upd i 91 (u9.1 0)) j)), ((r 90), .inl (cI, 12, .inl (u9.2.2.1 0)))]) (fun (u9 : SU) => (iR (u9.1 0) 6 6)) := by
  refine fun sz => k_enter (cc := cX7_writes) (maxL := 2) (ret := none) (Qc := fun A => va_Qv (fun (u9 : SU) => (iR (u9.1 0) 6 6)) (fun u => k_B (dC, dI) vwCl (tyy cI cJ cZ cM) A ((fun (u9 : SU) => [(h, .inr (7, oM r (upd i 91 (u9.1 0)) j)), ((r 90), .inl (cI, 12, .inl (u9.2.2.1 0)))]) u)) A) sz (by decide +kernel) rfl (Nat.le_of_ble_eq_true rfl) (fun p e s m args below meth c A ls H locs B hP hD hS hl => ?_)
  obtain ⟨hx, hb, hml, hown, hts, hr, hlk, hnm, hK, hA, hN, hC⟩ := id B
  have hown : s.vm.findClass RX7 = some m.cls := hown
  have hl : lv_has ls 2 [(0, .ref h), (1, .int x1)] := hl
  have w_0 : (Cond.fieldLink RX7 285 "WishSeaModel" "out" "[I").before args s = true := hts _ (List.mem_of_getElem? (i := 1) rfl)
  have w_1 : (Cond.fieldLink RX7 288 "WishSeaModel" "outs" "I").before args s = true := hts _ (List.mem_of_getElem? (i := 2) rfl)
  have hinX7 : ∀ w ∈ u_ws RX7 TX7 92, w ∈ wsX7_writes := fun _ h => List.mem_cons_of_mem _ (List.mem_append_right _ h)
  refine lv_aload_n hx hb dX7_writes_0 rfl (lv_at hl 0 rfl) ?_
  refine k_get (D := (dC, dI)) (ci := 7) (v := .ref (r 90)) (C := RX7) (T := TX7) (N := 92) hx hb hts hinX7 hown hK hP 0 rfl rfl 90 (by decide) w_0 rfl rfl dX7_writes_1 ?_
  refine lv_aload_n hx hb dX7_writes_4 rfl (lv_at hl 0 rfl) ?_
  refine k_get (D := (dC, dI)) (ci := 7) (v := .int (i 91)) (C := RX7) (T := TX7) (N := 92) hx hb hts hinX7 hown hK hP 0 rfl rfl 91 (by decide) w_1 rfl rfl dX7_writes_5 ?_
  refine lv_iload_n hx hb dX7_writes_8 rfl (lv_at hl 1 rfl) ?_
  refine lv_sipush (v := 255) hx hb dX7_writes_9 (by decide +kernel) ?_
  refine lv_iand hx hb dX7_writes_12 ?_
  refine lv_topi (fun y_12 ey_12 => ?_)
  have f_12_1 : iR y_12 0 255 := iR_andR ey_12 (iR_c (n := 255) (a := 255) (b := 255) (by decide +kernel) (by decide +kernel)) (by decide +kernel)
  refine s_iast (g := (upd f90 (i 91).toNatClampNeg y_12)) (ws' := [(h, .inr (7, oM r i j)), ((r 90), .inl (cI, 12, .inl (upd f90 (i 91).toNatClampNeg y_12)))]) hx hb hK hP hD hS 1 0 rfl rfl (iR_vp hm91 (by decide +kernel)) rfl rfl dX7_writes_13 (fun H locs hP hD hS => ?_)
  refine lv_aload_n hx hb dX7_writes_14 rfl (lv_at hl 0 rfl) ?_
  refine lv_dup hx hb dX7_writes_15 rfl ?_
  refine k_get (D := (dC, dI)) (ci := 7) (v := .int (i 91)) (C := RX7) (T := TX7) (N := 92) hx hb hts hinX7 hown hK hP 0 rfl rfl 91 (by decide) w_1 rfl rfl dX7_writes_16 ?_
  refine lv_iconst (v := 1) hx hb dX7_writes_19 (by decide +kernel) ?_
  refine lv_iadd hx hb dX7_writes_20 ?_
  refine lv_topi (fun y_20 ey_20 => ?_)
  have f_20_2 : iR y_20 6 6 := iR_add ey_20 hm91 (iR_c (n := 1) (a := 1) (b := 1) (by decide +kernel) (by decide +kernel)) (by decide +kernel)
  refine k_put (D := (dC, dI)) (ci := 7) (v := .int y_20) (C := RX7) (T := TX7) (N := 92) (ws' := [(h, .inr (7, oM r (upd i 91 y_20) j)), ((r 90), .inl (cI, 12, .inl (upd f90 (i 91).toNatClampNeg y_12)))]) hx hb hts hinX7 tyX7 tyX7_ok nmX7 hown hK hP hD hS 0 rfl rfl 91 (by decide) w_1 rfl rfl rfl rfl (Nat.le_of_ble_eq_true rfl) rfl dX7_writes_21 (fun H locs hP hD hS => ?_)
  exact k_rv B hP hD hS dX7_writes_24 ((fun k9 => match k9 with | 0 => y_20 | _ => 0), (fun _ => 0), (fun k9 => match k9 with | 0 => (upd f90 (i 91).toNatClampNeg y_12) | _ => (fun _ => 0)), (fun _ => (fun _ => 0)), (fun _ => 0)) [0, 1] rfl rfl (Nat.le_of_ble_eq_true rfl) (Nat.le_of_ble_eq_true rfl) (show iR y_20 6 6 from f_20_2)
set_option maxHeartbeats 8000000 in
set_option maxRecDepth 100000 in
theorem s_X7_writes_v6 (l : Launch) (dC : Nat → ClassId) (dI : Nat → Nat → Nat) (cI cJ cZ cM : ClassId) (h : Nat) (r : Nat → Nat) (i : Nat → Int32) (j : Nat → Int64) (x1 : Int32) (f90 : Nat → Int32) (hm91 : iR (i 91) 6 6) (hI : mR i) : k_Mv l yX7_writes wsX7_writes ({ frames := 1, cells := 0, slots := 0, locals := 40 }) (dC, dI) vwCl (tyy cI cJ cZ cM) [(h, .inr (7, oM r i j)), ((r 90), .inl (cI, 12, .inl f90))] [.ref h, .int x1] 0 0 (fun (u9 : SU) => [(h, .inr (7, oM r (upd i 91 (u9.1 0)) j)), ((r 90), .inl (cI, 12, .inl (u9.2.2.1 0)))]) (fun (u9 : SU) => (iR (u9.1 0) 7 7)) := by
  refine fun sz => k_enter (cc := cX7_writes) (maxL := 2) (ret := none) (Qc := fun A => va_Qv (fun (u9 : SU) => (iR (u9.1 0) 7 7)) (fun u => k_B (dC, dI) vwCl (tyy cI cJ cZ cM) A ((fun (u9 : SU) => [(h, .inr (7, oM r (upd i 91 (u9.1 0)) j)), ((r 90), .inl (cI, 12, .inl (u9.2.2.1 0)))]) u)) A) sz (by decide +kernel) rfl (Nat.le_of_ble_eq_true rfl) (fun p e s m args below meth c A ls H locs B hP hD hS hl => ?_)
  obtain ⟨hx, hb, hml, hown, hts, hr, hlk, hnm, hK, hA, hN, hC⟩ := id B
  have hown : s.vm.findClass RX7 = some m.cls := hown
  have hl : lv_has ls 2 [(0, .ref h), (1, .int x1)] := hl
  have w_0 : (Cond.fieldLink RX7 285 "WishSeaModel" "out" "[I").before args s = true := hts _ (List.mem_of_getElem? (i := 1) rfl)
  have w_1 : (Cond.fieldLink RX7 288 "WishSeaModel" "outs" "I").before args s = true := hts _ (List.mem_of_getElem? (i := 2) rfl)
  have hinX7 : ∀ w ∈ u_ws RX7 TX7 92, w ∈ wsX7_writes := fun _ h => List.mem_cons_of_mem _ (List.mem_append_right _ h)
  refine lv_aload_n hx hb dX7_writes_0 rfl (lv_at hl 0 rfl) ?_
  refine k_get (D := (dC, dI)) (ci := 7) (v := .ref (r 90)) (C := RX7) (T := TX7) (N := 92) hx hb hts hinX7 hown hK hP 0 rfl rfl 90 (by decide) w_0 rfl rfl dX7_writes_1 ?_
  refine lv_aload_n hx hb dX7_writes_4 rfl (lv_at hl 0 rfl) ?_
  refine k_get (D := (dC, dI)) (ci := 7) (v := .int (i 91)) (C := RX7) (T := TX7) (N := 92) hx hb hts hinX7 hown hK hP 0 rfl rfl 91 (by decide) w_1 rfl rfl dX7_writes_5 ?_
  refine lv_iload_n hx hb dX7_writes_8 rfl (lv_at hl 1 rfl) ?_
  refine lv_sipush (v := 255) hx hb dX7_writes_9 (by decide +kernel) ?_
  refine lv_iand hx hb dX7_writes_12 ?_
  refine lv_topi (fun y_12 ey_12 => ?_)
  have f_12_1 : iR y_12 0 255 := iR_andR ey_12 (iR_c (n := 255) (a := 255) (b := 255) (by decide +kernel) (by decide +kernel)) (by decide +kernel)
  refine s_iast (g := (upd f90 (i 91).toNatClampNeg y_12)) (ws' := [(h, .inr (7, oM r i j)), ((r 90), .inl (cI, 12, .inl (upd f90 (i 91).toNatClampNeg y_12)))]) hx hb hK hP hD hS 1 0 rfl rfl (iR_vp hm91 (by decide +kernel)) rfl rfl dX7_writes_13 (fun H locs hP hD hS => ?_)
  refine lv_aload_n hx hb dX7_writes_14 rfl (lv_at hl 0 rfl) ?_
  refine lv_dup hx hb dX7_writes_15 rfl ?_
  refine k_get (D := (dC, dI)) (ci := 7) (v := .int (i 91)) (C := RX7) (T := TX7) (N := 92) hx hb hts hinX7 hown hK hP 0 rfl rfl 91 (by decide) w_1 rfl rfl dX7_writes_16 ?_
  refine lv_iconst (v := 1) hx hb dX7_writes_19 (by decide +kernel) ?_
  refine lv_iadd hx hb dX7_writes_20 ?_
  refine lv_topi (fun y_20 ey_20 => ?_)
  have f_20_2 : iR y_20 7 7 := iR_add ey_20 hm91 (iR_c (n := 1) (a := 1) (b := 1) (by decide +kernel) (by decide +kernel)) (by decide +kernel)
  refine k_put (D := (dC, dI)) (ci := 7) (v := .int y_20) (C := RX7) (T := TX7) (N := 92) (ws' := [(h, .inr (7, oM r (upd i 91 y_20) j)), ((r 90), .inl (cI, 12, .inl (upd f90 (i 91).toNatClampNeg y_12)))]) hx hb hts hinX7 tyX7 tyX7_ok nmX7 hown hK hP hD hS 0 rfl rfl 91 (by decide) w_1 rfl rfl rfl rfl (Nat.le_of_ble_eq_true rfl) rfl dX7_writes_21 (fun H locs hP hD hS => ?_)
  exact k_rv B hP hD hS dX7_writes_24 ((fun k9 => match k9 with | 0 => y_20 | _ => 0), (fun _ => 0), (fun k9 => match k9 with | 0 => (upd f90 (i 91).toNatClampNeg y_12) | _ => (fun _ => 0)), (fun _ => (fun _ => 0)), (fun _ => 0)) [0, 1] rfl rfl (Nat.le_of_ble_eq_true rfl) (Nat.le_of_ble_eq_true rfl) (show iR y_20 7 7 from f_20_2)
set_option maxHeartbeats 8000000 in
set_option maxRecDepth 100000 in
theorem s_X7_writes_v7 (l : Launch) (dC : Nat → ClassId) (dI : Nat → Nat → Nat) (cI cJ cZ cM : ClassId) (h : Nat) (r : Nat → Nat) (i : Nat → Int32) (j : Nat → Int64) (x1 : Int32) (f90 : Nat → Int32) (hm91 : iR (i 91) 7 7) (hI : mR i) : k_Mv l yX7_writes wsX7_writes ({ frames := 1, cells := 0, slots := 0, locals := 40 }) (dC, dI) vwCl (tyy cI cJ cZ cM) [(h, .inr (7, oM r i j)), ((r 90), .inl (cI, 12, .inl f90))] [.ref h, .int x1] 0 0 (fun (u9 : SU) => [(h, .inr (7, oM r (upd i 91 (u9.1 0)) j)), ((r 90), .inl (cI, 12, .inl (u9.2.2.1 0)))]) (fun (u9 : SU) => (iR (u9.1 0) 8 8)) := by
  refine fun sz => k_enter (cc := cX7_writes) (maxL := 2) (ret := none) (Qc := fun A => va_Qv (fun (u9 : SU) => (iR (u9.1 0) 8 8)) (fun u => k_B (dC, dI) vwCl (tyy cI cJ cZ cM) A ((fun (u9 : SU) => [(h, .inr (7, oM r (upd i 91 (u9.1 0)) j)), ((r 90), .inl (cI, 12, .inl (u9.2.2.1 0)))]) u)) A) sz (by decide +kernel) rfl (Nat.le_of_ble_eq_true rfl) (fun p e s m args below meth c A ls H locs B hP hD hS hl => ?_)
  obtain ⟨hx, hb, hml, hown, hts, hr, hlk, hnm, hK, hA, hN, hC⟩ := id B
  have hown : s.vm.findClass RX7 = some m.cls := hown
  have hl : lv_has ls 2 [(0, .ref h), (1, .int x1)] := hl
  have w_0 : (Cond.fieldLink RX7 285 "WishSeaModel" "out" "[I").before args s = true := hts _ (List.mem_of_getElem? (i := 1) rfl)
  have w_1 : (Cond.fieldLink RX7 288 "WishSeaModel" "outs" "I").before args s = true := hts _ (List.mem_of_getElem? (i := 2) rfl)
  have hinX7 : ∀ w ∈ u_ws RX7 TX7 92, w ∈ wsX7_writes := fun _ h => List.mem_cons_of_mem _ (List.mem_append_right _ h)
  refine lv_aload_n hx hb dX7_writes_0 rfl (lv_at hl 0 rfl) ?_
  refine k_get (D := (dC, dI)) (ci := 7) (v := .ref (r 90)) (C := RX7) (T := TX7) (N := 92) hx hb hts hinX7 hown hK hP 0 rfl rfl 90 (by decide) w_0 rfl rfl dX7_writes_1 ?_
  refine lv_aload_n hx hb dX7_writes_4 rfl (lv_at hl 0 rfl) ?_
  refine k_get (D := (dC, dI)) (ci := 7) (v := .int (i 91)) (C := RX7) (T := TX7) (N := 92) hx hb hts hinX7 hown hK hP 0 rfl rfl 91 (by decide) w_1 rfl rfl dX7_writes_5 ?_
  refine lv_iload_n hx hb dX7_writes_8 rfl (lv_at hl 1 rfl) ?_
  refine lv_sipush (v := 255) hx hb dX7_writes_9 (by decide +kernel) ?_
  refine lv_iand hx hb dX7_writes_12 ?_
  refine lv_topi (fun y_12 ey_12 => ?_)
  have f_12_1 : iR y_12 0 255 := iR_andR ey_12 (iR_c (n := 255) (a := 255) (b := 255) (by decide +kernel) (by decide +kernel)) (by decide +kernel)
  refine s_iast (g := (upd f90 (i 91).toNatClampNeg y_12)) (ws' := [(h, .inr (7, oM r i j)), ((r 90), .inl (cI, 12, .inl (upd f90 (i 91).toNatClampNeg y_12)))]) hx hb hK hP hD hS 1 0 rfl rfl (iR_vp hm91 (by decide +kernel)) rfl rfl dX7_writes_13 (fun H locs hP hD hS => ?_)
  refine lv_aload_n hx hb dX7_writes_14 rfl (lv_at hl 0 rfl) ?_
  refine lv_dup hx hb dX7_writes_15 rfl ?_
  refine k_get (D := (dC, dI)) (ci := 7) (v := .int (i 91)) (C := RX7) (T := TX7) (N := 92) hx hb hts hinX7 hown hK hP 0 rfl rfl 91 (by decide) w_1 rfl rfl dX7_writes_16 ?_
  refine lv_iconst (v := 1) hx hb dX7_writes_19 (by decide +kernel) ?_
  refine lv_iadd hx hb dX7_writes_20 ?_
  refine lv_topi (fun y_20 ey_20 => ?_)
  have f_20_2 : iR y_20 8 8 := iR_add ey_20 hm91 (iR_c (n := 1) (a := 1) (b := 1) (by decide +kernel) (by decide +kernel)) (by decide +kernel)
  refine k_put (D := (dC, dI)) (ci := 7) (v := .int y_20) (C := RX7) (T := TX7) (N := 92) (ws' := [(h, .inr (7, oM r (upd i 91 y_20) j)), ((r 90), .inl (cI, 12, .inl (upd f90 (i 91).toNatClampNeg y_12)))]) hx hb hts hinX7 tyX7 tyX7_ok nmX7 hown hK hP hD hS 0 rfl rfl 91 (by decide) w_1 rfl rfl rfl rfl (Nat.le_of_ble_eq_true rfl) rfl dX7_writes_21 (fun H locs hP hD hS => ?_)
  exact k_rv B hP hD hS dX7_writes_24 ((fun k9 => match k9 with | 0 => y_20 | _ => 0), (fun _ => 0), (fun k9 => match k9 with | 0 => (upd f90 (i 91).toNatClampNeg y_12) | _ => (fun _ => 0)), (fun _ => (fun _ => 0)), (fun _ => 0)) [0, 1] rfl rfl (Nat.le_of_ble_eq_true rfl) (Nat.le_of_ble_eq_true rfl) (show iR y_20 8 8 from f_20_2)
set_option maxHeartbeats 8000000 in
set_option maxRecDepth 100000 in
theorem s_X7_writes_v8 (l : Launch) (dC : Nat → ClassId) (dI : Nat → Nat → Nat) (cI cJ cZ cM : ClassId) (h : Nat) (r : Nat → Nat) (i : Nat → Int32) (j : Nat → Int64) (x1 : Int32) (f90 : Nat → Int32) (hm91 : iR (i 91) 8 8) (hI : mR i) : k_Mv l yX7_writes wsX7_writes ({ frames := 1, cells := 0, slots := 0, locals := 40 }) (dC, dI) vwCl (tyy cI cJ cZ cM) [(h, .inr (7, oM r i j)), ((r 90), .inl (cI, 12, .inl f90))] [.ref h, .int x1] 0 0 (fun (u9 : SU) => [(h, .inr (7, oM r (upd i 91 (u9.1 0)) j)), ((r 90), .inl (cI, 12, .inl (u9.2.2.1 0)))]) (fun (u9 : SU) => (iR (u9.1 0) 9 9)) := by
  refine fun sz => k_enter (cc := cX7_writes) (maxL := 2) (ret := none) (Qc := fun A => va_Qv (fun (u9 : SU) => (iR (u9.1 0) 9 9)) (fun u => k_B (dC, dI) vwCl (tyy cI cJ cZ cM) A ((fun (u9 : SU) => [(h, .inr (7, oM r (upd i 91 (u9.1 0)) j)), ((r 90), .inl (cI, 12, .inl (u9.2.2.1 0)))]) u)) A) sz (by decide +kernel) rfl (Nat.le_of_ble_eq_true rfl) (fun p e s m args below meth c A ls H locs B hP hD hS hl => ?_)
  obtain ⟨hx, hb, hml, hown, hts, hr, hlk, hnm, hK, hA, hN, hC⟩ := id B
  have hown : s.vm.findClass RX7 = some m.cls := hown
  have hl : lv_has ls 2 [(0, .ref h), (1, .int x1)] := hl
  have w_0 : (Cond.fieldLink RX7 285 "WishSeaModel" "out" "[I").before args s = true := hts _ (List.mem_of_getElem? (i := 1) rfl)
  have w_1 : (Cond.fieldLink RX7 288 "WishSeaModel" "outs" "I").before args s = true := hts _ (List.mem_of_getElem? (i := 2) rfl)
  have hinX7 : ∀ w ∈ u_ws RX7 TX7 92, w ∈ wsX7_writes := fun _ h => List.mem_cons_of_mem _ (List.mem_append_right _ h)
  refine lv_aload_n hx hb dX7_writes_0 rfl (lv_at hl 0 rfl) ?_
  refine k_get (D := (dC, dI)) (ci := 7) (v := .ref (r 90)) (C := RX7) (T := TX7) (N := 92) hx hb hts hinX7 hown hK hP 0 rfl rfl 90 (by decide) w_0 rfl rfl dX7_writes_1 ?_
  refine lv_aload_n hx hb dX7_writes_4 rfl (lv_at hl 0 rfl) ?_
  refine k_get (D := (dC, dI)) (ci := 7) (v := .int (i 91)) (C := RX7) (T := TX7) (N := 92) hx hb hts hinX7 hown hK hP 0 rfl rfl 91 (by decide) w_1 rfl rfl dX7_writes_5 ?_
  refine lv_iload_n hx hb dX7_writes_8 rfl (lv_at hl 1 rfl) ?_
  refine lv_sipush (v := 255) hx hb dX7_writes_9 (by decide +kernel) ?_
  refine lv_iand hx hb dX7_writes_12 ?_
  refine lv_topi (fun y_12 ey_12 => ?_)
  have f_12_1 : iR y_12 0 255 := iR_andR ey_12 (iR_c (n := 255) (a := 255) (b := 255) (by decide +kernel) (by decide +kernel)) (by decide +kernel)
  refine s_iast (g := (upd f90 (i 91).toNatClampNeg y_12)) (ws' := [(h, .inr (7, oM r i j)), ((r 90), .inl (cI, 12, .inl (upd f90 (i 91).toNatClampNeg y_12)))]) hx hb hK hP hD hS 1 0 rfl rfl (iR_vp hm91 (by decide +kernel)) rfl rfl dX7_writes_13 (fun H locs hP hD hS => ?_)
  refine lv_aload_n hx hb dX7_writes_14 rfl (lv_at hl 0 rfl) ?_
  refine lv_dup hx hb dX7_writes_15 rfl ?_
  refine k_get (D := (dC, dI)) (ci := 7) (v := .int (i 91)) (C := RX7) (T := TX7) (N := 92) hx hb hts hinX7 hown hK hP 0 rfl rfl 91 (by decide) w_1 rfl rfl dX7_writes_16 ?_
  refine lv_iconst (v := 1) hx hb dX7_writes_19 (by decide +kernel) ?_
  refine lv_iadd hx hb dX7_writes_20 ?_
  refine lv_topi (fun y_20 ey_20 => ?_)
  have f_20_2 : iR y_20 9 9 := iR_add ey_20 hm91 (iR_c (n := 1) (a := 1) (b := 1) (by decide +kernel) (by decide +kernel)) (by decide +kernel)
  refine k_put (D := (dC, dI)) (ci := 7) (v := .int y_20) (C := RX7) (T := TX7) (N := 92) (ws' := [(h, .inr (7, oM r (upd i 91 y_20) j)), ((r 90), .inl (cI, 12, .inl (upd f90 (i 91).toNatClampNeg y_12)))]) hx hb hts hinX7 tyX7 tyX7_ok nmX7 hown hK hP hD hS 0 rfl rfl 91 (by decide) w_1 rfl rfl rfl rfl (Nat.le_of_ble_eq_true rfl) rfl dX7_writes_21 (fun H locs hP hD hS => ?_)
  exact k_rv B hP hD hS dX7_writes_24 ((fun k9 => match k9 with | 0 => y_20 | _ => 0), (fun _ => 0), (fun k9 => match k9 with | 0 => (upd f90 (i 91).toNatClampNeg y_12) | _ => (fun _ => 0)), (fun _ => (fun _ => 0)), (fun _ => 0)) [0, 1] rfl rfl (Nat.le_of_ble_eq_true rfl) (Nat.le_of_ble_eq_true rfl) (show iR y_20 9 9 from f_20_2)
set_option maxHeartbeats 8000000 in
set_option maxRecDepth 100000 in
theorem s_X7_image_v0 (l : Launch) (dC : Nat → ClassId) (dI : Nat → Nat → Nat) (cI cJ cZ cM : ClassId) (h : Nat) (r : Nat → Nat) (i : Nat → Int32) (j : Nat → Int64) (f49 : Nat → Int32) (f50 : Nat → Int32) (f51 : Nat → Int32) (f52 : Nat → Int32) (f90 : Nat → Int32) (hI : mR i) (hf49 : aR f49 0 1023) (hf50 : aR f50 0 999) : k_Mi l yX7_image wsX7_image ({ frames := 2, cells := 0, slots := 0, locals := 61 }) (dC, dI) vwCl (tyy cI cJ cZ cM) [(h, .inr (7, oM r i j)), ((r 49), .inl (cI, 22, .inl f49)), ((r 50), .inl (cI, 22, .inl f50)), ((r 51), .inl (cI, 22, .inl f51)), ((r 52), .inl (cI, 22, .inl f52)), ((r 90), .inl (cI, 12, .inl f90))] [.ref h] 0 0 (fun (u9 : SU) => [(h, .inr (7, oM r (upd i 91 (u9.1 0)) j)), ((r 49), .inl (cI, 22, .inl f49)), ((r 50), .inl (cI, 22, .inl f50)), ((r 51), .inl (cI, 22, .inl f51)), ((r 52), .inl (cI, 22, .inl f52)), ((r 90), .inl (cI, 12, .inl (u9.2.2.1 0)))]) (fun (r9 : Int32) (u9 : SU) => (iR r9 9 9) ∧ (iR (u9.1 0) 9 9)) := by
  refine fun sz => k_enter (cc := cX7_image) (maxL := 3) (ret := some (.int)) (Qc := fun A => va_Qi (fun (r9 : Int32) (u9 : SU) => (iR r9 9 9) ∧ (iR (u9.1 0) 9 9)) (fun u => k_B (dC, dI) vwCl (tyy cI cJ cZ cM) A ((fun (u9 : SU) => [(h, .inr (7, oM r (upd i 91 (u9.1 0)) j)), ((r 49), .inl (cI, 22, .inl f49)), ((r 50), .inl (cI, 22, .inl f50)), ((r 51), .inl (cI, 22, .inl f51)), ((r 52), .inl (cI, 22, .inl f52)), ((r 90), .inl (cI, 12, .inl (u9.2.2.1 0)))]) u)) A) sz (by decide +kernel) rfl (Nat.le_of_ble_eq_true rfl) (fun p e s m args below meth c A ls H locs B hP hD hS hl => ?_)
  obtain ⟨hx, hb, hml, hown, hts, hr, hlk, hnm, hK, hA, hN, hC⟩ := id B
  have hown : s.vm.findClass RX7 = some m.cls := hown
  have hl : lv_has ls 3 [(0, .ref h)] := hl
  have w_0 : (Cond.fieldLink RX7 288 "WishSeaModel" "outs" "I").before args s = true := hts _ (List.mem_of_getElem? (i := 1) rfl)
  have w_1 : (Cond.fieldLink RX7 171 "WishSeaModel" "dayOf" "[I").before args s = true := hts _ (List.mem_of_getElem? (i := 2) rfl)
  have w_2 : (Cond.fieldLink RX7 168 "WishSeaModel" "saidOf" "[I").before args s = true := hts _ (List.mem_of_getElem? (i := 3) rfl)
  have w_3 : (Cond.fieldLink RX7 165 "WishSeaModel" "seaOf" "[I").before args s = true := hts _ (List.mem_of_getElem? (i := 4) rfl)
  have w_4 : (Cond.fieldLink RX7 162 "WishSeaModel" "hadOf" "[I").before args s = true := hts _ (List.mem_of_getElem? (i := 5) rfl)
  have w_5 : (Cond.fieldLink RX7 285 "WishSeaModel" "out" "[I").before args s = true := hts _ (List.mem_of_getElem? (i := 6) rfl)
  have hinX7 : ∀ w ∈ u_ws RX7 TX7 92, w ∈ wsX7_image := fun _ h => List.mem_cons_of_mem _ (List.mem_append_right _ h)
  refine lv_aload_n hx hb dX7_image_0 rfl (lv_at hl 0 rfl) ?_
  refine lv_iconst (v := 0) hx hb dX7_image_1 (by decide +kernel) ?_
  refine k_put (D := (dC, dI)) (ci := 7) (v := .int 0) (C := RX7) (T := TX7) (N := 92) (ws' := [(h, .inr (7, oM r (upd i 91 0) j)), ((r 49), .inl (cI, 22, .inl f49)), ((r 50), .inl (cI, 22, .inl f50)), ((r 51), .inl (cI, 22, .inl f51)), ((r 52), .inl (cI, 22, .inl f52)), ((r 90), .inl (cI, 12, .inl f90))]) hx hb hts hinX7 tyX7 tyX7_ok nmX7 hown hK hP hD hS 0 rfl rfl 91 (by decide) w_0 rfl rfl rfl rfl (Nat.le_of_ble_eq_true rfl) rfl dX7_image_2 (fun H locs hP hD hS => ?_)
  refine lv_aload_n hx hb dX7_image_5 rfl (lv_at hl 0 rfl) ?_
  refine lv_aload_n hx hb dX7_image_6 rfl (lv_at hl 0 rfl) ?_
  refine k_get (D := (dC, dI)) (ci := 7) (v := .ref (r 52)) (C := RX7) (T := TX7) (N := 92) hx hb hts hinX7 hown hK hP 0 rfl rfl 52 (by decide) w_1 rfl rfl dX7_image_7 ?_
  refine lv_iconst (v := 0) hx hb dX7_image_10 (by decide +kernel) ?_
  refine k_iald (v := (f52 0)) hx hb hK hP 4 0 0 rfl rfl rfl (Nat.le_of_ble_eq_true rfl) (Nat.le_of_ble_eq_true rfl) rfl dX7_image_11 ?_
  refine lv_bipush (v := 8) hx hb dX7_image_12 (by decide +kernel) ?_
  refine lv_ishr hx hb dX7_image_14 ?_
  refine lv_topi (fun y_14 ey_14 => ?_)
  refine k_cv (wc := [(h, .inr (7, oM r (upd i 91 0) j)), ((r 90), .inl (cI, 12, .inl f90))]) (wr := [((r 49), .inl (cI, 22, .inl f49)), ((r 50), .inl (cI, 22, .inl f50)), ((r 51), .inl (cI, 22, .inl f51)), ((r 52), .inl (cI, 22, .inl f52))]) (fun hPc hDc hFc => va_runV (As := [.int y_14]) (rest := []) ⟨hx, hb, hml, hown, hts⟩ (s_X7_writes_v0 l dC dI cI cJ cZ cM h r (upd i 91 0) j y_14 f90 (show iR 0 0 0 from (iR_c (n := 0) (a := 0) (b := 0) (by decide +kernel) (by decide +kernel))) (mR_upd 91 hI (show iR _ (loI 91) (hiI 91) from (iR_c (n := 0) (a := 0) (b := 9) (by decide +kernel) (by decide +kernel)))) H.size) (cwV 1 hts gX7_image_X7_writes rfl rfl rfl (by decide +kernel) ⟨(Nat.le_of_ble_eq_true rfl), (Nat.le_of_ble_eq_true rfl)⟩) (k_pV hPc hDc hK hN hC hS hFc hP (q0 := 0) (ci := 7) rfl rfl) rfl rfl hl.1 rfl (lv_room (Nat.le_of_ble_eq_true rfl)) dX7_image_15 ⟨(Nat.le_of_ble_eq_true rfl), (Nat.le_of_ble_eq_true rfl)⟩) hP hD hS hA [0, 5] [1, 2, 3, 4] rfl rfl rfl rfl (by decide) (fun _ => rfl) 0 0 rfl rfl (fun u_15 H locs hw hP hD hS => ?_)
  have g_15_0 := hw
  have hP : va_P (dC, dI) vwCl [((r 49), .inl (cI, 22, .inl f49)), ((r 50), .inl (cI, 22, .inl f50)), ((r 51), .inl (cI, 22, .inl f51)), ((r 52), .inl (cI, 22, .inl f52)), (h, .inr (7, oM r (upd i 91 (u_15.1 0)) j)), ((r 90), .inl (cI, 12, .inl (u_15.2.2.1 0)))] H := hP
  have hD : va_D A [((r 49), .inl (cI, 22, .inl f49)), ((r 50), .inl (cI, 22, .inl f50)), ((r 51), .inl (cI, 22, .inl f51)), ((r 52), .inl (cI, 22, .inl f52)), (h, .inr (7, oM r (upd i 91 (u_15.1 0)) j)), ((r 90), .inl (cI, 12, .inl (u_15.2.2.1 0)))] := hD
  refine lv_aload_n hx hb dX7_image_18 rfl (lv_at hl 0 rfl) ?_
  refine lv_aload_n hx hb dX7_image_19 rfl (lv_at hl 0 rfl) ?_
  refine k_get (D := (dC, dI)) (ci := 7) (v := .ref (r 52)) (C := RX7) (T := TX7) (N := 92) hx hb hts hinX7 hown hK hP 4 rfl rfl 52 (by decide) w_1 rfl rfl dX7_image_20 ?_
  refine lv_iconst (v := 0) hx hb dX7_image_23 (by decide +kernel) ?_
  refine k_iald (v := (f52 0)) hx hb hK hP 3 0 0 rfl rfl rfl (Nat.le_of_ble_eq_true rfl) (Nat.le_of_ble_eq_true rfl) rfl dX7_image_24 ?_
  refine k_cv (wc := [(h, .inr (7, oM r (upd i 91 (u_15.1 0)) j)), ((r 90), .inl (cI, 12, .inl (u_15.2.2.1 0)))]) (wr := [((r 49), .inl (cI, 22, .inl f49)), ((r 50), .inl (cI, 22, .inl f50)), ((r 51), .inl (cI, 22, .inl f51)), ((r 52), .inl (cI, 22, .inl f52))]) (fun hPc hDc hFc => va_runV (As := [.int (f52 0)]) (rest := []) ⟨hx, hb, hml, hown, hts⟩ (s_X7_writes_v1 l dC dI cI cJ cZ cM h r (upd i 91 (u_15.1 0)) j (f52 0) (u_15.2.2.1 0) (show iR (u_15.1 0) 1 1 from g_15_0) (mR_upd 91 hI (show iR _ (loI 91) (hiI 91) from (iR_w g_15_0 (by decide +kernel)))) H.size) (cwV 1 hts gX7_image_X7_writes rfl rfl rfl (by decide +kernel) ⟨(Nat.le_of_ble_eq_true rfl), (Nat.le_of_ble_eq_true rfl)⟩) (k_pV hPc hDc hK hN hC hS hFc hP (q0 := 4) (ci := 7) rfl rfl) rfl rfl hl.1 rfl (lv_room (Nat.le_of_ble_eq_true rfl)) dX7_image_25 ⟨(Nat.le_of_ble_eq_true rfl), (Nat.le_of_ble_eq_true rfl)⟩) hP hD hS hA [4, 5] [0, 1, 2, 3] rfl rfl rfl rfl (by decide) (fun _ => rfl) 0 0 rfl rfl (fun u_25 H locs hw hP hD hS => ?_)
  have g_25_0 := hw
  have hP : va_P (dC, dI) vwCl [((r 49), .inl (cI, 22, .inl f49)), ((r 50), .inl (cI, 22, .inl f50)), ((r 51), .inl (cI, 22, .inl f51)), ((r 52), .inl (cI, 22, .inl f52)), (h, .inr (7, oM r (upd i 91 (u_25.1 0)) j)), ((r 90), .inl (cI, 12, .inl (u_25.2.2.1 0)))] H := hP
  have hD : va_D A [((r 49), .inl (cI, 22, .inl f49)), ((r 50), .inl (cI, 22, .inl f50)), ((r 51), .inl (cI, 22, .inl f51)), ((r 52), .inl (cI, 22, .inl f52)), (h, .inr (7, oM r (upd i 91 (u_25.1 0)) j)), ((r 90), .inl (cI, 12, .inl (u_25.2.2.1 0)))] := hD
  refine lv_aload_n hx hb dX7_image_28 rfl (lv_at hl 0 rfl) ?_
  refine lv_aload_n hx hb dX7_image_29 rfl (lv_at hl 0 rfl) ?_
  refine k_get (D := (dC, dI)) (ci := 7) (v := .ref (r 51)) (C := RX7) (T := TX7) (N := 92) hx hb hts hinX7 hown hK hP 4 rfl rfl 51 (by decide) w_2 rfl rfl dX7_image_30 ?_
  refine lv_iconst (v := 0) hx hb dX7_image_33 (by decide +kernel) ?_
  refine k_iald (v := (f51 0)) hx hb hK hP 2 0 0 rfl rfl rfl (Nat.le_of_ble_eq_true rfl) (Nat.le_of_ble_eq_true rfl) rfl dX7_image_34 ?_
  refine lv_bipush (v := 8) hx hb dX7_image_35 (by decide +kernel) ?_
  refine lv_ishr hx hb dX7_image_37 ?_
  refine lv_topi (fun y_37 ey_37 => ?_)
  refine k_cv (wc := [(h, .inr (7, oM r (upd i 91 (u_25.1 0)) j)), ((r 90), .inl (cI, 12, .inl (u_25.2.2.1 0)))]) (wr := [((r 49), .inl (cI, 22, .inl f49)), ((r 50), .inl (cI, 22, .inl f50)), ((r 51), .inl (cI, 22, .inl f51)), ((r 52), .inl (cI, 22, .inl f52))]) (fun hPc hDc hFc => va_runV (As := [.int y_37]) (rest := []) ⟨hx, hb, hml, hown, hts⟩ (s_X7_writes_v2 l dC dI cI cJ cZ cM h r (upd i 91 (u_25.1 0)) j y_37 (u_25.2.2.1 0) (show iR (u_25.1 0) 2 2 from g_25_0) (mR_upd 91 hI (show iR _ (loI 91) (hiI 91) from (iR_w g_25_0 (by decide +kernel)))) H.size) (cwV 1 hts gX7_image_X7_writes rfl rfl rfl (by decide +kernel) ⟨(Nat.le_of_ble_eq_true rfl), (Nat.le_of_ble_eq_true rfl)⟩) (k_pV hPc hDc hK hN hC hS hFc hP (q0 := 4) (ci := 7) rfl rfl) rfl rfl hl.1 rfl (lv_room (Nat.le_of_ble_eq_true rfl)) dX7_image_38 ⟨(Nat.le_of_ble_eq_true rfl), (Nat.le_of_ble_eq_true rfl)⟩) hP hD hS hA [4, 5] [0, 1, 2, 3] rfl rfl rfl rfl (by decide) (fun _ => rfl) 0 0 rfl rfl (fun u_38 H locs hw hP hD hS => ?_)
  have g_38_0 := hw
  have hP : va_P (dC, dI) vwCl [((r 49), .inl (cI, 22, .inl f49)), ((r 50), .inl (cI, 22, .inl f50)), ((r 51), .inl (cI, 22, .inl f51)), ((r 52), .inl (cI, 22, .inl f52)), (h, .inr (7, oM r (upd i 91 (u_38.1 0)) j)), ((r 90), .inl (cI, 12, .inl (u_38.2.2.1 0)))] H := hP
  have hD : va_D A [((r 49), .inl (cI, 22, .inl f49)), ((r 50), .inl (cI, 22, .inl f50)), ((r 51), .inl (cI, 22, .inl f51)), ((r 52), .inl (cI, 22, .inl f52)), (h, .inr (7, oM r (upd i 91 (u_38.1 0)) j)), ((r 90), .inl (cI, 12, .inl (u_38.2.2.1 0)))] := hD
  refine lv_aload_n hx hb dX7_image_41 rfl (lv_at hl 0 rfl) ?_
  refine lv_aload_n hx hb dX7_image_42 rfl (lv_at hl 0 rfl) ?_
  refine k_get (D := (dC, dI)) (ci := 7) (v := .ref (r 51)) (C := RX7) (T := TX7) (N := 92) hx hb hts hinX7 hown hK hP 4 rfl rfl 51 (by decide) w_2 rfl rfl dX7_image_43 ?_
  refine lv_iconst (v := 0) hx hb dX7_image_46 (by decide +kernel) ?_
  refine k_iald (v := (f51 0)) hx hb hK hP 2 0 0 rfl rfl rfl (Nat.le_of_ble_eq_true rfl) (Nat.le_of_ble_eq_true rfl) rfl dX7_image_47 ?_
  refine k_cv (wc := [(h, .inr (7, oM r (upd i 91 (u_38.1 0)) j)), ((r 90), .inl (cI, 12, .inl (u_38.2.2.1 0)))]) (wr := [((r 49), .inl (cI, 22, .inl f49)), ((r 50), .inl (cI, 22, .inl f50)), ((r 51), .inl (cI, 22, .inl f51)), ((r 52), .inl (cI, 22, .inl f52))]) (fun hPc hDc hFc => va_runV (As := [.int (f51 0)]) (rest := []) ⟨hx, hb, hml, hown, hts⟩ (s_X7_writes_v3 l dC dI cI cJ cZ cM h r (upd i 91 (u_38.1 0)) j (f51 0) (u_38.2.2.1 0) (show iR (u_38.1 0) 3 3 from g_38_0) (mR_upd 91 hI (show iR _ (loI 91) (hiI 91) from (iR_w g_38_0 (by decide +kernel)))) H.size) (cwV 1 hts gX7_image_X7_writes rfl rfl rfl (by decide +kernel) ⟨(Nat.le_of_ble_eq_true rfl), (Nat.le_of_ble_eq_true rfl)⟩) (k_pV hPc hDc hK hN hC hS hFc hP (q0 := 4) (ci := 7) rfl rfl) rfl rfl hl.1 rfl (lv_room (Nat.le_of_ble_eq_true rfl)) dX7_image_48 ⟨(Nat.le_of_ble_eq_true rfl), (Nat.le_of_ble_eq_true rfl)⟩) hP hD hS hA [4, 5] [0, 1, 2, 3] rfl rfl rfl rfl (by decide) (fun _ => rfl) 0 0 rfl rfl (fun u_48 H locs hw hP hD hS => ?_)
  have g_48_0 := hw
  have hP : va_P (dC, dI) vwCl [((r 49), .inl (cI, 22, .inl f49)), ((r 50), .inl (cI, 22, .inl f50)), ((r 51), .inl (cI, 22, .inl f51)), ((r 52), .inl (cI, 22, .inl f52)), (h, .inr (7, oM r (upd i 91 (u_48.1 0)) j)), ((r 90), .inl (cI, 12, .inl (u_48.2.2.1 0)))] H := hP
  have hD : va_D A [((r 49), .inl (cI, 22, .inl f49)), ((r 50), .inl (cI, 22, .inl f50)), ((r 51), .inl (cI, 22, .inl f51)), ((r 52), .inl (cI, 22, .inl f52)), (h, .inr (7, oM r (upd i 91 (u_48.1 0)) j)), ((r 90), .inl (cI, 12, .inl (u_48.2.2.1 0)))] := hD
  refine lv_aload_n hx hb dX7_image_51 rfl (lv_at hl 0 rfl) ?_
  refine lv_aload_n hx hb dX7_image_52 rfl (lv_at hl 0 rfl) ?_
  refine k_get (D := (dC, dI)) (ci := 7) (v := .ref (r 50)) (C := RX7) (T := TX7) (N := 92) hx hb hts hinX7 hown hK hP 4 rfl rfl 50 (by decide) w_3 rfl rfl dX7_image_53 ?_
  refine lv_iconst (v := 0) hx hb dX7_image_56 (by decide +kernel) ?_
  refine k_iald (v := (f50 0)) hx hb hK hP 1 0 0 rfl rfl rfl (Nat.le_of_ble_eq_true rfl) (Nat.le_of_ble_eq_true rfl) rfl dX7_image_57 ?_
  have f_57_1 : iR (f50 0) 0 999 := hf50 _
  refine lv_bipush (v := 8) hx hb dX7_image_58 (by decide +kernel) ?_
  refine lv_ishr hx hb dX7_image_60 ?_
  refine lv_topi (fun y_60 ey_60 => ?_)
  have f_60_2 : iR y_60 0 3 := iR_shr 8 ey_60 f_57_1 (iR_c (n := 8) (a := 8) (b := 8) (by decide +kernel) (by decide +kernel)) (by decide +kernel)
  refine k_cv (wc := [(h, .inr (7, oM r (upd i 91 (u_48.1 0)) j)), ((r 90), .inl (cI, 12, .inl (u_48.2.2.1 0)))]) (wr := [((r 49), .inl (cI, 22, .inl f49)), ((r 50), .inl (cI, 22, .inl f50)), ((r 51), .inl (cI, 22, .inl f51)), ((r 52), .inl (cI, 22, .inl f52))]) (fun hPc hDc hFc => va_runV (As := [.int y_60]) (rest := []) ⟨hx, hb, hml, hown, hts⟩ (s_X7_writes_v4 l dC dI cI cJ cZ cM h r (upd i 91 (u_48.1 0)) j y_60 (u_48.2.2.1 0) (show iR (u_48.1 0) 4 4 from g_48_0) (mR_upd 91 hI (show iR _ (loI 91) (hiI 91) from (iR_w g_48_0 (by decide +kernel)))) H.size) (cwV 1 hts gX7_image_X7_writes rfl rfl rfl (by decide +kernel) ⟨(Nat.le_of_ble_eq_true rfl), (Nat.le_of_ble_eq_true rfl)⟩) (k_pV hPc hDc hK hN hC hS hFc hP (q0 := 4) (ci := 7) rfl rfl) rfl rfl hl.1 rfl (lv_room (Nat.le_of_ble_eq_true rfl)) dX7_image_61 ⟨(Nat.le_of_ble_eq_true rfl), (Nat.le_of_ble_eq_true rfl)⟩) hP hD hS hA [4, 5] [0, 1, 2, 3] rfl rfl rfl rfl (by decide) (fun _ => rfl) 0 0 rfl rfl (fun u_61 H locs hw hP hD hS => ?_)
  have g_61_0 := hw
  have hP : va_P (dC, dI) vwCl [((r 49), .inl (cI, 22, .inl f49)), ((r 50), .inl (cI, 22, .inl f50)), ((r 51), .inl (cI, 22, .inl f51)), ((r 52), .inl (cI, 22, .inl f52)), (h, .inr (7, oM r (upd i 91 (u_61.1 0)) j)), ((r 90), .inl (cI, 12, .inl (u_61.2.2.1 0)))] H := hP
  have hD : va_D A [((r 49), .inl (cI, 22, .inl f49)), ((r 50), .inl (cI, 22, .inl f50)), ((r 51), .inl (cI, 22, .inl f51)), ((r 52), .inl (cI, 22, .inl f52)), (h, .inr (7, oM r (upd i 91 (u_61.1 0)) j)), ((r 90), .inl (cI, 12, .inl (u_61.2.2.1 0)))] := hD
  refine lv_aload_n hx hb dX7_image_64 rfl (lv_at hl 0 rfl) ?_
  refine lv_aload_n hx hb dX7_image_65 rfl (lv_at hl 0 rfl) ?_
  refine k_get (D := (dC, dI)) (ci := 7) (v := .ref (r 50)) (C := RX7) (T := TX7) (N := 92) hx hb hts hinX7 hown hK hP 4 rfl rfl 50 (by decide) w_3 rfl rfl dX7_image_66 ?_
  refine lv_iconst (v := 0) hx hb dX7_image_69 (by decide +kernel) ?_
  refine k_iald (v := (f50 0)) hx hb hK hP 1 0 0 rfl rfl rfl (Nat.le_of_ble_eq_true rfl) (Nat.le_of_ble_eq_true rfl) rfl dX7_image_70 ?_
  refine k_cv (wc := [(h, .inr (7, oM r (upd i 91 (u_61.1 0)) j)), ((r 90), .inl (cI, 12, .inl (u_61.2.2.1 0)))]) (wr := [((r 49), .inl (cI, 22, .inl f49)), ((r 50), .inl (cI, 22, .inl f50)), ((r 51), .inl (cI, 22, .inl f51)), ((r 52), .inl (cI, 22, .inl f52))]) (fun hPc hDc hFc => va_runV (As := [.int (f50 0)]) (rest := []) ⟨hx, hb, hml, hown, hts⟩ (s_X7_writes_v5 l dC dI cI cJ cZ cM h r (upd i 91 (u_61.1 0)) j (f50 0) (u_61.2.2.1 0) (show iR (u_61.1 0) 5 5 from g_61_0) (mR_upd 91 hI (show iR _ (loI 91) (hiI 91) from (iR_w g_61_0 (by decide +kernel)))) H.size) (cwV 1 hts gX7_image_X7_writes rfl rfl rfl (by decide +kernel) ⟨(Nat.le_of_ble_eq_true rfl), (Nat.le_of_ble_eq_true rfl)⟩) (k_pV hPc hDc hK hN hC hS hFc hP (q0 := 4) (ci := 7) rfl rfl) rfl rfl hl.1 rfl (lv_room (Nat.le_of_ble_eq_true rfl)) dX7_image_71 ⟨(Nat.le_of_ble_eq_true rfl), (Nat.le_of_ble_eq_true rfl)⟩) hP hD hS hA [4, 5] [0, 1, 2, 3] rfl rfl rfl rfl (by decide) (fun _ => rfl) 0 0 rfl rfl (fun u_71 H locs hw hP hD hS => ?_)
  have g_71_0 := hw
  have hP : va_P (dC, dI) vwCl [((r 49), .inl (cI, 22, .inl f49)), ((r 50), .inl (cI, 22, .inl f50)), ((r 51), .inl (cI, 22, .inl f51)), ((r 52), .inl (cI, 22, .inl f52)), (h, .inr (7, oM r (upd i 91 (u_71.1 0)) j)), ((r 90), .inl (cI, 12, .inl (u_71.2.2.1 0)))] H := hP
  have hD : va_D A [((r 49), .inl (cI, 22, .inl f49)), ((r 50), .inl (cI, 22, .inl f50)), ((r 51), .inl (cI, 22, .inl f51)), ((r 52), .inl (cI, 22, .inl f52)), (h, .inr (7, oM r (upd i 91 (u_71.1 0)) j)), ((r 90), .inl (cI, 12, .inl (u_71.2.2.1 0)))] := hD
  refine lv_aload_n hx hb dX7_image_74 rfl (lv_at hl 0 rfl) ?_
  refine lv_aload_n hx hb dX7_image_75 rfl (lv_at hl 0 rfl) ?_
  refine k_get (D := (dC, dI)) (ci := 7) (v := .ref (r 49)) (C := RX7) (T := TX7) (N := 92) hx hb hts hinX7 hown hK hP 4 rfl rfl 49 (by decide) w_4 rfl rfl dX7_image_76 ?_
  refine lv_iconst (v := 0) hx hb dX7_image_79 (by decide +kernel) ?_
  refine k_iald (v := (f49 0)) hx hb hK hP 0 0 0 rfl rfl rfl (Nat.le_of_ble_eq_true rfl) (Nat.le_of_ble_eq_true rfl) rfl dX7_image_80 ?_
  have f_80_3 : iR (f49 0) 0 1023 := hf49 _
  refine lv_bipush (v := 8) hx hb dX7_image_81 (by decide +kernel) ?_
  refine lv_ishr hx hb dX7_image_83 ?_
  refine lv_topi (fun y_83 ey_83 => ?_)
  have f_83_4 : iR y_83 0 3 := iR_shr 8 ey_83 f_80_3 (iR_c (n := 8) (a := 8) (b := 8) (by decide +kernel) (by decide +kernel)) (by decide +kernel)
  refine k_cv (wc := [(h, .inr (7, oM r (upd i 91 (u_71.1 0)) j)), ((r 90), .inl (cI, 12, .inl (u_71.2.2.1 0)))]) (wr := [((r 49), .inl (cI, 22, .inl f49)), ((r 50), .inl (cI, 22, .inl f50)), ((r 51), .inl (cI, 22, .inl f51)), ((r 52), .inl (cI, 22, .inl f52))]) (fun hPc hDc hFc => va_runV (As := [.int y_83]) (rest := []) ⟨hx, hb, hml, hown, hts⟩ (s_X7_writes_v6 l dC dI cI cJ cZ cM h r (upd i 91 (u_71.1 0)) j y_83 (u_71.2.2.1 0) (show iR (u_71.1 0) 6 6 from g_71_0) (mR_upd 91 hI (show iR _ (loI 91) (hiI 91) from (iR_w g_71_0 (by decide +kernel)))) H.size) (cwV 1 hts gX7_image_X7_writes rfl rfl rfl (by decide +kernel) ⟨(Nat.le_of_ble_eq_true rfl), (Nat.le_of_ble_eq_true rfl)⟩) (k_pV hPc hDc hK hN hC hS hFc hP (q0 := 4) (ci := 7) rfl rfl) rfl rfl hl.1 rfl (lv_room (Nat.le_of_ble_eq_true rfl)) dX7_image_84 ⟨(Nat.le_of_ble_eq_true rfl), (Nat.le_of_ble_eq_true rfl)⟩) hP hD hS hA [4, 5] [0, 1, 2, 3] rfl rfl rfl rfl (by decide) (fun _ => rfl) 0 0 rfl rfl (fun u_84 H locs hw hP hD hS => ?_)
  have g_84_0 := hw
  have hP : va_P (dC, dI) vwCl [((r 49), .inl (cI, 22, .inl f49)), ((r 50), .inl (cI, 22, .inl f50)), ((r 51), .inl (cI, 22, .inl f51)), ((r 52), .inl (cI, 22, .inl f52)), (h, .inr (7, oM r (upd i 91 (u_84.1 0)) j)), ((r 90), .inl (cI, 12, .inl (u_84.2.2.1 0)))] H := hP
  have hD : va_D A [((r 49), .inl (cI, 22, .inl f49)), ((r 50), .inl (cI, 22, .inl f50)), ((r 51), .inl (cI, 22, .inl f51)), ((r 52), .inl (cI, 22, .inl f52)), (h, .inr (7, oM r (upd i 91 (u_84.1 0)) j)), ((r 90), .inl (cI, 12, .inl (u_84.2.2.1 0)))] := hD
  refine lv_aload_n hx hb dX7_image_87 rfl (lv_at hl 0 rfl) ?_
  refine lv_aload_n hx hb dX7_image_88 rfl (lv_at hl 0 rfl) ?_
  refine k_get (D := (dC, dI)) (ci := 7) (v := .ref (r 49)) (C := RX7) (T := TX7) (N := 92) hx hb hts hinX7 hown hK hP 4 rfl rfl 49 (by decide) w_4 rfl rfl dX7_image_89 ?_
  refine lv_iconst (v := 0) hx hb dX7_image_92 (by decide +kernel) ?_
  refine k_iald (v := (f49 0)) hx hb hK hP 0 0 0 rfl rfl rfl (Nat.le_of_ble_eq_true rfl) (Nat.le_of_ble_eq_true rfl) rfl dX7_image_93 ?_
  refine k_cv (wc := [(h, .inr (7, oM r (upd i 91 (u_84.1 0)) j)), ((r 90), .inl (cI, 12, .inl (u_84.2.2.1 0)))]) (wr := [((r 49), .inl (cI, 22, .inl f49)), ((r 50), .inl (cI, 22, .inl f50)), ((r 51), .inl (cI, 22, .inl f51)), ((r 52), .inl (cI, 22, .inl f52))]) (fun hPc hDc hFc => va_runV (As := [.int (f49 0)]) (rest := []) ⟨hx, hb, hml, hown, hts⟩ (s_X7_writes_v7 l dC dI cI cJ cZ cM h r (upd i 91 (u_84.1 0)) j (f49 0) (u_84.2.2.1 0) (show iR (u_84.1 0) 7 7 from g_84_0) (mR_upd 91 hI (show iR _ (loI 91) (hiI 91) from (iR_w g_84_0 (by decide +kernel)))) H.size) (cwV 1 hts gX7_image_X7_writes rfl rfl rfl (by decide +kernel) ⟨(Nat.le_of_ble_eq_true rfl), (Nat.le_of_ble_eq_true rfl)⟩) (k_pV hPc hDc hK hN hC hS hFc hP (q0 := 4) (ci := 7) rfl rfl) rfl rfl hl.1 rfl (lv_room (Nat.le_of_ble_eq_true rfl)) dX7_image_94 ⟨(Nat.le_of_ble_eq_true rfl), (Nat.le_of_ble_eq_true rfl)⟩) hP hD hS hA [4, 5] [0, 1, 2, 3] rfl rfl rfl rfl (by decide) (fun _ => rfl) 0 0 rfl rfl (fun u_94 H locs hw hP hD hS => ?_)
  have g_94_0 := hw
  have hP : va_P (dC, dI) vwCl [((r 49), .inl (cI, 22, .inl f49)), ((r 50), .inl (cI, 22, .inl f50)), ((r 51), .inl (cI, 22, .inl f51)), ((r 52), .inl (cI, 22, .inl f52)), (h, .inr (7, oM r (upd i 91 (u_94.1 0)) j)), ((r 90), .inl (cI, 12, .inl (u_94.2.2.1 0)))] H := hP
  have hD : va_D A [((r 49), .inl (cI, 22, .inl f49)), ((r 50), .inl (cI, 22, .inl f50)), ((r 51), .inl (cI, 22, .inl f51)), ((r 52), .inl (cI, 22, .inl f52)), (h, .inr (7, oM r (upd i 91 (u_94.1 0)) j)), ((r 90), .inl (cI, 12, .inl (u_94.2.2.1 0)))] := hD
  refine lv_bipush (v := 97) hx hb dX7_image_97 (by decide +kernel) ?_
  refine lv_istore_n (lv' := [(1, .int 97), (0, .ref h)]) hx hb dX7_image_99 rfl hl (by decide) rfl (fun ls hl => ?_)
  refine lv_iconst (v := 0) hx hb dX7_image_100 (by decide +kernel) ?_
  have J_102 : ∀ (n_102 : Nat) (j102_L1 : Int32) (j102_L2 : Int32) (hj102_L2 : iR j102_L2 0 8) (hm_102 : (8 - j102_L2.toInt).toNat < n_102) (H : Heap) (locs : List Loc) (ls : Array Slot), va_P (dC, dI) vwCl [(h, .inr (7, oM r (upd i 91 (u_94.1 0)) j)), ((r 49), .inl (cI, 22, .inl f49)), ((r 50), .inl (cI, 22, .inl f50)), ((r 51), .inl (cI, 22, .inl f51)), ((r 52), .inl (cI, 22, .inl f52)), ((r 90), .inl (cI, 12, .inl (u_94.2.2.1 0)))] H → va_D A [(h, .inr (7, oM r (upd i 91 (u_94.1 0)) j)), ((r 49), .inl (cI, 22, .inl f49)), ((r 50), .inl (cI, 22, .inl f50)), ((r 51), .inl (cI, 22, .inl f51)), ((r 52), .inl (cI, 22, .inl f52)), ((r 90), .inl (cI, 12, .inl (u_94.2.2.1 0)))] → va_S A s.heap H locs → lv_has ls 3 [(0, .ref h), (1, .int j102_L1), (2, .int j102_L2)] → W p l e ({ frames := 2, cells := 0, slots := 0, locals := 61 }) s m args below meth c H locs 0 0 (MQ below (va_Qi (fun (r9 : Int32) (u9 : SU) => (iR r9 9 9) ∧ (iR (u9.1 0) 9 9)) (fun u => k_B (dC, dI) vwCl (tyy cI cJ cZ cM) A ((fun (u9 : SU) => [(h, .inr (7, oM r (upd i 91 (u9.1 0)) j)), ((r 49), .inl (cI, 22, .inl f49)), ((r 50), .inl (cI, 22, .inl f50)), ((r 51), .inl (cI, 22, .inl f51)), ((r 52), .inl (cI, 22, .inl f52)), ((r 90), .inl (cI, 12, .inl (u9.2.2.1 0)))]) u)) A) args s 0 0 A) (F0 m 102 ls []) := by
    intro n_102
    induction n_102 with
    | zero => intro j102_L1 j102_L2 hj102_L2 hm_102; exact absurd hm_102 (Nat.not_lt_zero _)
    | succ n_102 ih_102 =>
      intro j102_L1 j102_L2 hj102_L2 hm_102 H locs ls hP hD hS hl
      refine lv_iload_n hx hb dX7_image_102 rfl (lv_at hl 2 rfl) ?_
      refine lv_aload_n hx hb dX7_image_103 rfl (lv_at hl 0 rfl) ?_
      refine k_get (D := (dC, dI)) (ci := 7) (v := .int (u_94.1 0)) (C := RX7) (T := TX7) (N := 92) hx hb hts hinX7 hown hK hP 0 rfl rfl 91 (by decide) w_0 rfl rfl dX7_image_104 ?_
      refine lv_icmp_ge (tgt := 131) hx hb dX7_image_107 (by decide) (fun c_107 => ?_) (fun c_107 => ?_)
      · have c_107 : (u_94.1 0) ≤ j102_L2 := c_107
        have f_131_1 : iR j102_L2 8 8 := iR_leR c_107 g_94_0 hj102_L2 (by decide +kernel)
        refine lv_aload_n hx hb dX7_image_131 rfl (lv_at hl 0 rfl) ?_
        refine lv_iload_n hx hb dX7_image_132 rfl (lv_at hl 1 rfl) ?_
        refine k_cv (wc := [(h, .inr (7, oM r (upd i 91 (u_94.1 0)) j)), ((r 90), .inl (cI, 12, .inl (u_94.2.2.1 0)))]) (wr := [((r 49), .inl (cI, 22, .inl f49)), ((r 50), .inl (cI, 22, .inl f50)), ((r 51), .inl (cI, 22, .inl f51)), ((r 52), .inl (cI, 22, .inl f52))]) (fun hPc hDc hFc => va_runV (As := [.int j102_L1]) (rest := []) ⟨hx, hb, hml, hown, hts⟩ (s_X7_writes_v8 l dC dI cI cJ cZ cM h r (upd i 91 (u_94.1 0)) j j102_L1 (u_94.2.2.1 0) (show iR (u_94.1 0) 8 8 from g_94_0) (mR_upd 91 hI (show iR _ (loI 91) (hiI 91) from (iR_w g_94_0 (by decide +kernel)))) H.size) (cwV 1 hts gX7_image_X7_writes rfl rfl rfl (by decide +kernel) ⟨(Nat.le_of_ble_eq_true rfl), (Nat.le_of_ble_eq_true rfl)⟩) (k_pV hPc hDc hK hN hC hS hFc hP (q0 := 0) (ci := 7) rfl rfl) rfl rfl hl.1 rfl (lv_room (Nat.le_of_ble_eq_true rfl)) dX7_image_133 ⟨(Nat.le_of_ble_eq_true rfl), (Nat.le_of_ble_eq_true rfl)⟩) hP hD hS hA [0, 5] [1, 2, 3, 4] rfl rfl rfl rfl (by decide) (fun _ => rfl) 0 0 rfl rfl (fun u_133 H locs hw hP hD hS => ?_)
        have g_133_0 := hw
        have hP : va_P (dC, dI) vwCl [((r 49), .inl (cI, 22, .inl f49)), ((r 50), .inl (cI, 22, .inl f50)), ((r 51), .inl (cI, 22, .inl f51)), ((r 52), .inl (cI, 22, .inl f52)), (h, .inr (7, oM r (upd i 91 (u_133.1 0)) j)), ((r 90), .inl (cI, 12, .inl (u_133.2.2.1 0)))] H := hP
        have hD : va_D A [((r 49), .inl (cI, 22, .inl f49)), ((r 50), .inl (cI, 22, .inl f50)), ((r 51), .inl (cI, 22, .inl f51)), ((r 52), .inl (cI, 22, .inl f52)), (h, .inr (7, oM r (upd i 91 (u_133.1 0)) j)), ((r 90), .inl (cI, 12, .inl (u_133.2.2.1 0)))] := hD
        refine lv_aload_n hx hb dX7_image_136 rfl (lv_at hl 0 rfl) ?_
        refine k_get (D := (dC, dI)) (ci := 7) (v := .int (u_133.1 0)) (C := RX7) (T := TX7) (N := 92) hx hb hts hinX7 hown hK hP 4 rfl rfl 91 (by decide) w_0 rfl rfl dX7_image_137 ?_
        exact k_ri B hP hD hS dX7_image_140 ((fun k9 => match k9 with | 0 => (u_133.1 0) | _ => 0), (fun _ => 0), (fun k9 => match k9 with | 0 => (u_133.2.2.1 0) | _ => (fun _ => 0)), (fun _ => (fun _ => 0)), (fun _ => 0)) [4, 0, 1, 2, 3, 5] rfl rfl rfl (Nat.le_of_ble_eq_true rfl) (Nat.le_of_ble_eq_true rfl) ⟨(show iR (u_133.1 0) 9 9 from g_133_0), (show iR (u_133.1 0) 9 9 from g_133_0)⟩
      · have c_107 : j102_L2 < (u_94.1 0) := i_nle c_107
        have f_110_1 : iR j102_L2 0 7 := iR_ltL c_107 hj102_L2 g_94_0 (by decide +kernel)
        refine lv_iconst (v := 5) hx hb dX7_image_110 (by decide +kernel) ?_
        refine lv_iload_n hx hb dX7_image_111 rfl (lv_at hl 1 rfl) ?_
        refine lv_imul hx hb dX7_image_112 ?_
        refine lv_topi (fun y_112 ey_112 => ?_)
        refine lv_aload_n hx hb dX7_image_113 rfl (lv_at hl 0 rfl) ?_
        refine k_get (D := (dC, dI)) (ci := 7) (v := .ref (r 90)) (C := RX7) (T := TX7) (N := 92) hx hb hts hinX7 hown hK hP 0 rfl rfl 90 (by decide) w_5 rfl rfl dX7_image_114 ?_
        refine lv_iload_n hx hb dX7_image_117 rfl (lv_at hl 2 rfl) ?_
        refine va_iald hx hb hK hP 5 0 rfl rfl (iR_vp f_110_1 (by decide +kernel)) dX7_image_118 ?_
        refine lv_iadd hx hb dX7_image_119 ?_
        refine lv_topi (fun y_119 ey_119 => ?_)
        refine lv_sipush (v := 251) hx hb dX7_image_120 (by decide +kernel) ?_
        refine lv_irem hx hb dX7_image_123 (i_nz (iR_c (n := 251) (a := 251) (b := 251) (by decide +kernel) (by decide +kernel)) (by decide +kernel)) ?_
        refine lv_topi (fun y_123 ey_123 => ?_)
        refine lv_istore_n (lv' := [(1, .int y_123), (0, .ref h), (2, .int j102_L2)]) hx hb dX7_image_124 rfl hl (by decide) rfl (fun ls hl => ?_)
        obtain ⟨y_125, ey_125⟩ : ∃ y : Int32, y = j102_L2 + 1 := ⟨_, rfl⟩
        refine lv_iinc (v := y_125) (lv' := [(2, .int y_125), (1, .int y_123), (0, .ref h)]) hx hb dX7_image_125 hl (k := 2) rfl ey_125.symm (by decide) rfl (fun ls hl => ?_)
        have f_125_2 : iR y_125 1 8 := iR_add ey_125 f_110_1 (iR_c (n := 1) (a := 1) (b := 1) (by decide +kernel) (by decide +kernel)) (by decide +kernel)
        refine lv_goto (tgt := 102) hx hb dX7_image_128 (by decide) ?_
        exact ih_102 y_123 y_125 (iR_w f_125_2 (by decide +kernel)) (m_up (B := 8) hm_102 ey_125 f_110_1 (by decide +kernel)) H locs ls hP hD hS (lv_sub hl [2, 1, 0] rfl)
  refine lv_istore_n (lv' := [(2, .int 0), (1, .int 97), (0, .ref h)]) hx hb dX7_image_101 rfl hl (by decide) rfl (fun ls hl => ?_)
  exact J_102 _ 97 0 (iR_c (n := 0) (a := 0) (b := 8) (by decide +kernel) (by decide +kernel)) (Nat.lt_succ_self _) H locs ls (hP.sub [4, 0, 1, 2, 3, 5] rfl) (hD.sub [4, 0, 1, 2, 3, 5] (by decide +kernel) rfl) hS (lv_sub hl [2, 1, 0] rfl)
set_option maxHeartbeats 8000000 in
set_option maxRecDepth 100000 in
theorem s_X7_octet_v0 (l : Launch) (dC : Nat → ClassId) (dI : Nat → Nat → Nat) (cI cJ cZ cM : ClassId) (h : Nat) (r : Nat → Nat) (i : Nat → Int32) (j : Nat → Int64) (x1 : Int32) (f90 : Nat → Int32) (hI : mR i) : k_Mi l yX7_octet wsX7_octet ({ frames := 2, cells := 0, slots := 0, locals := 62 }) (dC, dI) vwCl (tyy cI cJ cZ cM) [(h, .inr (7, oM r i j)), ((r 90), .inl (cI, 12, .inl f90))] [.ref h, .int x1] 0 0 (fun (u9 : Unit) => [(h, .inr (7, oM r i j)), ((r 90), .inl (cI, 12, .inl f90))]) (fun (r9 : Int32) (u9 : Unit) => True) := by
  refine fun sz => k_enter (cc := cX7_octet) (maxL := 2) (ret := some (.int)) (Qc := fun A => va_Qi (fun (r9 : Int32) (u9 : Unit) => True) (fun u => k_B (dC, dI) vwCl (tyy cI cJ cZ cM) A ((fun (u9 : Unit) => [(h, .inr (7, oM r i j)), ((r 90), .inl (cI, 12, .inl f90))]) u)) A) sz (by decide +kernel) rfl (Nat.le_of_ble_eq_true rfl) (fun p e s m args below meth c A ls H locs B hP hD hS hl => ?_)
  obtain ⟨hx, hb, hml, hown, hts, hr, hlk, hnm, hK, hA, hN, hC⟩ := id B
  have hown : s.vm.findClass RX7 = some m.cls := hown
  have hl : lv_has ls 2 [(0, .ref h), (1, .int x1)] := hl
  have w_0 : (Cond.fieldLink RX7 288 "WishSeaModel" "outs" "I").before args s = true := hts _ (List.mem_of_getElem? (i := 1) rfl)
  have w_1 : (Cond.fieldLink RX7 285 "WishSeaModel" "out" "[I").before args s = true := hts _ (List.mem_of_getElem? (i := 2) rfl)
  have hinX7 : ∀ w ∈ u_ws RX7 TX7 92, w ∈ wsX7_octet := fun _ h => List.mem_cons_of_mem _ (List.mem_append_right _ h)
  refine lv_iload_n hx hb dX7_octet_0 rfl (lv_at hl 1 rfl) ?_
  refine lv_iconst (v := 0) hx hb dX7_octet_1 (by decide +kernel) ?_
  refine lv_aload_n hx hb dX7_octet_2 rfl (lv_at hl 0 rfl) ?_
  have f_3_1 : iR (i 91) 0 9 := hI 91
  refine k_get (D := (dC, dI)) (ci := 7) (v := .int (i 91)) (C := RX7) (T := TX7) (N := 92) hx hb hts hinX7 hown hK hP 0 rfl rfl 91 (by decide) w_0 rfl rfl dX7_octet_3 ?_
  refine lv_iconst (v := 1) hx hb dX7_octet_6 (by decide +kernel) ?_
  refine lv_isub hx hb dX7_octet_7 ?_
  refine lv_topi (fun y_7 ey_7 => ?_)
  have f_7_2 : iR y_7 (-1) 8 := iR_sub ey_7 f_3_1 (iR_c (n := 1) (a := 1) (b := 1) (by decide +kernel) (by decide +kernel)) (by decide +kernel)
  refine k_ci (wc := []) (wr := [(h, .inr (7, oM r i j)), ((r 90), .inl (cI, 12, .inl f90))]) (fun hPc hDc hFc => va_runS (As := [.int x1, .int 0, .int y_7]) (rest := []) ⟨hx, hb, hml, hown, hts⟩ (s_X7_is_v0 l dC dI cI cJ cZ cM x1 0 y_7 H.size) (va_cwS 3 hts gX7_octet_X7_is rfl rfl rfl (by decide +kernel) ⟨(Nat.le_of_ble_eq_true rfl), (Nat.le_of_ble_eq_true rfl)⟩) (k_pS hPc hDc hK hN hC hS hFc) rfl rfl hl.1 rfl (lv_room (Nat.le_of_ble_eq_true rfl)) dX7_octet_8 ⟨(Nat.le_of_ble_eq_true rfl), (Nat.le_of_ble_eq_true rfl)⟩) hP hD hS hA [] [0, 1] rfl rfl rfl rfl (by decide) (fun _ => rfl) 0 0 rfl rfl (fun r_8 u_8 H locs hw hP hD hS => ?_)
  obtain ⟨g_8_0, g_8_1⟩ := hw
  have hP : va_P (dC, dI) vwCl [(h, .inr (7, oM r i j)), ((r 90), .inl (cI, 12, .inl f90))] H := hP
  have hD : va_D A [(h, .inr (7, oM r i j)), ((r 90), .inl (cI, 12, .inl f90))] := hD
  have g_8_1 : (r_8 = 0) ∨ ((0 ≤ x1) ∧ (x1 ≤ y_7)) := g_8_1
  refine lv_if_eq (tgt := 23) hx hb dX7_octet_11 (by decide) (fun c_11 => ?_) (fun c_11 => ?_)
  · have c_11 : r_8 = 0 := c_11
    have f_23_3 : iR r_8 0 0 := iR_eqL c_11 g_8_0 (iR_c (n := 0) (a := 0) (b := 0) (by decide +kernel) (by decide +kernel)) (by decide +kernel)
    refine lv_iconst (v := (-1)) hx hb dX7_octet_23 (by decide +kernel) ?_
    exact k_ri B hP hD hS dX7_octet_24 () [0, 1] rfl rfl rfl (Nat.le_of_ble_eq_true rfl) (Nat.le_of_ble_eq_true rfl) trivial
  · have c_11 : ¬ r_8 = 0 := c_11
    have f_14_3 : iR r_8 1 1 := iR_neL c_11 g_8_0 (iR_c (n := 0) (a := 0) (b := 0) (by decide +kernel) (by decide +kernel)) (by decide +kernel)
    obtain ⟨d_11_1_0, d_11_1_1⟩ := g_8_1.resolve_left c_11
    have f_14_4 : iR x1 0 2147483647 := iR_leR d_11_1_0 (iR_c (n := 0) (a := 0) (b := 0) (by decide +kernel) (by decide +kernel)) (iR_top _) (by decide +kernel)
    have f_14_5 : iR x1 0 8 := iR_leL d_11_1_1 f_14_4 f_7_2 (by decide +kernel)
    have f_14_6 : iR y_7 0 8 := iR_leR d_11_1_1 f_14_4 f_7_2 (by decide +kernel)
    refine lv_aload_n hx hb dX7_octet_14 rfl (lv_at hl 0 rfl) ?_
    refine k_get (D := (dC, dI)) (ci := 7) (v := .ref (r 90)) (C := RX7) (T := TX7) (N := 92) hx hb hts hinX7 hown hK hP 0 rfl rfl 90 (by decide) w_1 rfl rfl dX7_octet_15 ?_
    refine lv_iload_n hx hb dX7_octet_18 rfl (lv_at hl 1 rfl) ?_
    refine va_iald hx hb hK hP 1 0 rfl rfl (iR_vp f_14_5 (by decide +kernel)) dX7_octet_19 ?_
    refine lv_goto (tgt := 24) hx hb dX7_octet_20 (by decide) ?_
    exact k_ri B hP hD hS dX7_octet_24 () [0, 1] rfl rfl rfl (Nat.le_of_ble_eq_true rfl) (Nat.le_of_ble_eq_true rfl) trivial
set_option maxHeartbeats 8000000 in
set_option maxRecDepth 100000 in
theorem s_X7_twoBytes_v0 (l : Launch) (dC : Nat → ClassId) (dI : Nat → Nat → Nat) (cI cJ cZ cM : ClassId) (h : Nat) (r : Nat → Nat) (i : Nat → Int32) (j : Nat → Int64) (f0 : Nat → Int32) (hI : mR i) (hf0 : aR f0 0 255) : k_Mi l yX7_twoBytes wsX7_twoBytes ({ frames := 1, cells := 0, slots := 0, locals := 40 }) (dC, dI) vwCl (tyy cI cJ cZ cM) [(h, .inr (7, oM r i j)), ((r 0), .inl (cI, 1800, .inl f0))] [.ref h, .int 0] 0 0 (fun (u9 : Unit) => [(h, .inr (7, oM r i j)), ((r 0), .inl (cI, 1800, .inl f0))]) (fun (r9 : Int32) (u9 : Unit) => (iR r9 0 65535) ∧ (r9 = (w2b f0 0))) := by
  refine fun sz => k_enter (cc := cX7_twoBytes) (maxL := 2) (ret := some (.int)) (Qc := fun A => va_Qi (fun (r9 : Int32) (u9 : Unit) => (iR r9 0 65535) ∧ (r9 = (w2b f0 0))) (fun u => k_B (dC, dI) vwCl (tyy cI cJ cZ cM) A ((fun (u9 : Unit) => [(h, .inr (7, oM r i j)), ((r 0), .inl (cI, 1800, .inl f0))]) u)) A) sz (by decide +kernel) rfl (Nat.le_of_ble_eq_true rfl) (fun p e s m args below meth c A ls H locs B hP hD hS hl => ?_)
  obtain ⟨hx, hb, hml, hown, hts, hr, hlk, hnm, hK, hA, hN, hC⟩ := id B
  have hown : s.vm.findClass RX7 = some m.cls := hown
  have hl : lv_has ls 2 [(0, .ref h), (1, .int 0)] := hl
  have w_0 : (Cond.fieldLink RX7 7 "WishSeaModel" "tape" "[I").before args s = true := hts _ (List.mem_of_getElem? (i := 1) rfl)
  have hinX7 : ∀ w ∈ u_ws RX7 TX7 92, w ∈ wsX7_twoBytes := fun _ h => List.mem_cons_of_mem _ (List.mem_append_right _ h)
  refine lv_aload_n hx hb dX7_twoBytes_0 rfl (lv_at hl 0 rfl) ?_
  refine k_get (D := (dC, dI)) (ci := 7) (v := .ref (r 0)) (C := RX7) (T := TX7) (N := 92) hx hb hts hinX7 hown hK hP 0 rfl rfl 0 (by decide) w_0 rfl rfl dX7_twoBytes_1 ?_
  refine lv_iload_n hx hb dX7_twoBytes_4 rfl (lv_at hl 1 rfl) ?_
  refine k_iald (v := (f0 0)) hx hb hK hP 1 0 0 rfl rfl rfl (Nat.le_of_ble_eq_true rfl) (Nat.le_of_ble_eq_true rfl) rfl dX7_twoBytes_5 ?_
  have f_5_1 : iR (f0 0) 0 255 := hf0 _
  refine lv_bipush (v := 8) hx hb dX7_twoBytes_6 (by decide +kernel) ?_
  refine lv_ishl hx hb dX7_twoBytes_8 ?_
  refine lv_topi (fun y_8 ey_8 => ?_)
  have f_8_2 : iR y_8 0 65280 := iR_shl 8 ey_8 f_5_1 (iR_c (n := 8) (a := 8) (b := 8) (by decide +kernel) (by decide +kernel)) (by decide +kernel)
  refine lv_aload_n hx hb dX7_twoBytes_9 rfl (lv_at hl 0 rfl) ?_
  refine k_get (D := (dC, dI)) (ci := 7) (v := .ref (r 0)) (C := RX7) (T := TX7) (N := 92) hx hb hts hinX7 hown hK hP 0 rfl rfl 0 (by decide) w_0 rfl rfl dX7_twoBytes_10 ?_
  refine lv_iload_n hx hb dX7_twoBytes_13 rfl (lv_at hl 1 rfl) ?_
  refine lv_iconst (v := 1) hx hb dX7_twoBytes_14 (by decide +kernel) ?_
  refine lv_iadd hx hb dX7_twoBytes_15 ?_
  refine k_int (v := 1) (by decide +kernel) ?_
  refine k_iald (v := (f0 1)) hx hb hK hP 1 0 1 rfl rfl rfl (Nat.le_of_ble_eq_true rfl) (Nat.le_of_ble_eq_true rfl) rfl dX7_twoBytes_16 ?_
  have f_16_3 : iR (f0 1) 0 255 := hf0 _
  refine lv_ior hx hb dX7_twoBytes_17 ?_
  refine lv_topi (fun y_17 ey_17 => ?_)
  have f_17_4 : iR y_17 0 65535 := iR_or 16 ey_17 f_8_2 f_16_3 (by decide +kernel)
  exact k_ri B hP hD hS dX7_twoBytes_18 () [0, 1] rfl rfl rfl (Nat.le_of_ble_eq_true rfl) (Nat.le_of_ble_eq_true rfl) ⟨(show iR y_17 0 65535 from f_17_4), (show y_17 = (w2b f0 0) from (by rw [ey_17, ey_8]; rfl))⟩
set_option maxHeartbeats 8000000 in
set_option maxRecDepth 100000 in
theorem s_X7_twoBytes_v1 (l : Launch) (dC : Nat → ClassId) (dI : Nat → Nat → Nat) (cI cJ cZ cM : ClassId) (h : Nat) (r : Nat → Nat) (i : Nat → Int32) (j : Nat → Int64) (f0 : Nat → Int32) (hI : mR i) (hf0 : aR f0 0 255) : k_Mi l yX7_twoBytes wsX7_twoBytes ({ frames := 1, cells := 0, slots := 0, locals := 40 }) (dC, dI) vwCl (tyy cI cJ cZ cM) [(h, .inr (7, oM r i j)), ((r 0), .inl (cI, 1800, .inl f0))] [.ref h, .int 2] 0 0 (fun (u9 : Unit) => [(h, .inr (7, oM r i j)), ((r 0), .inl (cI, 1800, .inl f0))]) (fun (r9 : Int32) (u9 : Unit) => (iR r9 0 65535) ∧ (r9 = (w2b f0 2))) := by
  refine fun sz => k_enter (cc := cX7_twoBytes) (maxL := 2) (ret := some (.int)) (Qc := fun A => va_Qi (fun (r9 : Int32) (u9 : Unit) => (iR r9 0 65535) ∧ (r9 = (w2b f0 2))) (fun u => k_B (dC, dI) vwCl (tyy cI cJ cZ cM) A ((fun (u9 : Unit) => [(h, .inr (7, oM r i j)), ((r 0), .inl (cI, 1800, .inl f0))]) u)) A) sz (by decide +kernel) rfl (Nat.le_of_ble_eq_true rfl) (fun p e s m args below meth c A ls H locs B hP hD hS hl => ?_)
  obtain ⟨hx, hb, hml, hown, hts, hr, hlk, hnm, hK, hA, hN, hC⟩ := id B
  have hown : s.vm.findClass RX7 = some m.cls := hown
  have hl : lv_has ls 2 [(0, .ref h), (1, .int 2)] := hl
  have w_0 : (Cond.fieldLink RX7 7 "WishSeaModel" "tape" "[I").before args s = true := hts _ (List.mem_of_getElem? (i := 1) rfl)
  have hinX7 : ∀ w ∈ u_ws RX7 TX7 92, w ∈ wsX7_twoBytes := fun _ h => List.mem_cons_of_mem _ (List.mem_append_right _ h)
  refine lv_aload_n hx hb dX7_twoBytes_0 rfl (lv_at hl 0 rfl) ?_
  refine k_get (D := (dC, dI)) (ci := 7) (v := .ref (r 0)) (C := RX7) (T := TX7) (N := 92) hx hb hts hinX7 hown hK hP 0 rfl rfl 0 (by decide) w_0 rfl rfl dX7_twoBytes_1 ?_
  refine lv_iload_n hx hb dX7_twoBytes_4 rfl (lv_at hl 1 rfl) ?_
  refine k_iald (v := (f0 2)) hx hb hK hP 1 0 2 rfl rfl rfl (Nat.le_of_ble_eq_true rfl) (Nat.le_of_ble_eq_true rfl) rfl dX7_twoBytes_5 ?_
  have f_5_1 : iR (f0 2) 0 255 := hf0 _
  refine lv_bipush (v := 8) hx hb dX7_twoBytes_6 (by decide +kernel) ?_
  refine lv_ishl hx hb dX7_twoBytes_8 ?_
  refine lv_topi (fun y_8 ey_8 => ?_)
  have f_8_2 : iR y_8 0 65280 := iR_shl 8 ey_8 f_5_1 (iR_c (n := 8) (a := 8) (b := 8) (by decide +kernel) (by decide +kernel)) (by decide +kernel)
  refine lv_aload_n hx hb dX7_twoBytes_9 rfl (lv_at hl 0 rfl) ?_
  refine k_get (D := (dC, dI)) (ci := 7) (v := .ref (r 0)) (C := RX7) (T := TX7) (N := 92) hx hb hts hinX7 hown hK hP 0 rfl rfl 0 (by decide) w_0 rfl rfl dX7_twoBytes_10 ?_
  refine lv_iload_n hx hb dX7_twoBytes_13 rfl (lv_at hl 1 rfl) ?_
  refine lv_iconst (v := 1) hx hb dX7_twoBytes_14 (by decide +kernel) ?_
  refine lv_iadd hx hb dX7_twoBytes_15 ?_
  refine k_int (v := 3) (by decide +kernel) ?_
  refine k_iald (v := (f0 3)) hx hb hK hP 1 0 3 rfl rfl rfl (Nat.le_of_ble_eq_true rfl) (Nat.le_of_ble_eq_true rfl) rfl dX7_twoBytes_16 ?_
  have f_16_3 : iR (f0 3) 0 255 := hf0 _
  refine lv_ior hx hb dX7_twoBytes_17 ?_
  refine lv_topi (fun y_17 ey_17 => ?_)
  have f_17_4 : iR y_17 0 65535 := iR_or 16 ey_17 f_8_2 f_16_3 (by decide +kernel)
  exact k_ri B hP hD hS dX7_twoBytes_18 () [0, 1] rfl rfl rfl (Nat.le_of_ble_eq_true rfl) (Nat.le_of_ble_eq_true rfl) ⟨(show iR y_17 0 65535 from f_17_4), (show y_17 = (w2b f0 2) from (by rw [ey_17, ey_8]; rfl))⟩
set_option maxHeartbeats 8000000 in
set_option maxRecDepth 100000 in
theorem s_X7_twoBytes_v2 (l : Launch) (dC : Nat → ClassId) (dI : Nat → Nat → Nat) (cI cJ cZ cM : ClassId) (h : Nat) (r : Nat → Nat) (i : Nat → Int32) (j : Nat → Int64) (f0 : Nat → Int32) (hI : mR i) (hf0 : aR f0 0 255) : k_Mi l yX7_twoBytes wsX7_twoBytes ({ frames := 1, cells := 0, slots := 0, locals := 40 }) (dC, dI) vwCl (tyy cI cJ cZ cM) [(h, .inr (7, oM r i j)), ((r 0), .inl (cI, 1800, .inl f0))] [.ref h, .int 4] 0 0 (fun (u9 : Unit) => [(h, .inr (7, oM r i j)), ((r 0), .inl (cI, 1800, .inl f0))]) (fun (r9 : Int32) (u9 : Unit) => (iR r9 0 65535) ∧ (r9 = (w2b f0 4))) := by
  refine fun sz => k_enter (cc := cX7_twoBytes) (maxL := 2) (ret := some (.int)) (Qc := fun A => va_Qi (fun (r9 : Int32) (u9 : Unit) => (iR r9 0 65535) ∧ (r9 = (w2b f0 4))) (fun u => k_B (dC, dI) vwCl (tyy cI cJ cZ cM) A ((fun (u9 : Unit) => [(h, .inr (7, oM r i j)), ((r 0), .inl (cI, 1800, .inl f0))]) u)) A) sz (by decide +kernel) rfl (Nat.le_of_ble_eq_true rfl) (fun p e s m args below meth c A ls H locs B hP hD hS hl => ?_)
  obtain ⟨hx, hb, hml, hown, hts, hr, hlk, hnm, hK, hA, hN, hC⟩ := id B
  have hown : s.vm.findClass RX7 = some m.cls := hown
  have hl : lv_has ls 2 [(0, .ref h), (1, .int 4)] := hl
  have w_0 : (Cond.fieldLink RX7 7 "WishSeaModel" "tape" "[I").before args s = true := hts _ (List.mem_of_getElem? (i := 1) rfl)
  have hinX7 : ∀ w ∈ u_ws RX7 TX7 92, w ∈ wsX7_twoBytes := fun _ h => List.mem_cons_of_mem _ (List.mem_append_right _ h)
  refine lv_aload_n hx hb dX7_twoBytes_0 rfl (lv_at hl 0 rfl) ?_
  refine k_get (D := (dC, dI)) (ci := 7) (v := .ref (r 0)) (C := RX7) (T := TX7) (N := 92) hx hb hts hinX7 hown hK hP 0 rfl rfl 0 (by decide) w_0 rfl rfl dX7_twoBytes_1 ?_
  refine lv_iload_n hx hb dX7_twoBytes_4 rfl (lv_at hl 1 rfl) ?_
  refine k_iald (v := (f0 4)) hx hb hK hP 1 0 4 rfl rfl rfl (Nat.le_of_ble_eq_true rfl) (Nat.le_of_ble_eq_true rfl) rfl dX7_twoBytes_5 ?_
  have f_5_1 : iR (f0 4) 0 255 := hf0 _
  refine lv_bipush (v := 8) hx hb dX7_twoBytes_6 (by decide +kernel) ?_
  refine lv_ishl hx hb dX7_twoBytes_8 ?_
  refine lv_topi (fun y_8 ey_8 => ?_)
  have f_8_2 : iR y_8 0 65280 := iR_shl 8 ey_8 f_5_1 (iR_c (n := 8) (a := 8) (b := 8) (by decide +kernel) (by decide +kernel)) (by decide +kernel)
  refine lv_aload_n hx hb dX7_twoBytes_9 rfl (lv_at hl 0 rfl) ?_
  refine k_get (D := (dC, dI)) (ci := 7) (v := .ref (r 0)) (C := RX7) (T := TX7) (N := 92) hx hb hts hinX7 hown hK hP 0 rfl rfl 0 (by decide) w_0 rfl rfl dX7_twoBytes_10 ?_
  refine lv_iload_n hx hb dX7_twoBytes_13 rfl (lv_at hl 1 rfl) ?_
  refine lv_iconst (v := 1) hx hb dX7_twoBytes_14 (by decide +kernel) ?_
  refine lv_iadd hx hb dX7_twoBytes_15 ?_
  refine k_int (v := 5) (by decide +kernel) ?_
  refine k_iald (v := (f0 5)) hx hb hK hP 1 0 5 rfl rfl rfl (Nat.le_of_ble_eq_true rfl) (Nat.le_of_ble_eq_true rfl) rfl dX7_twoBytes_16 ?_
  have f_16_3 : iR (f0 5) 0 255 := hf0 _
  refine lv_ior hx hb dX7_twoBytes_17 ?_
  refine lv_topi (fun y_17 ey_17 => ?_)
  have f_17_4 : iR y_17 0 65535 := iR_or 16 ey_17 f_8_2 f_16_3 (by decide +kernel)
  exact k_ri B hP hD hS dX7_twoBytes_18 () [0, 1] rfl rfl rfl (Nat.le_of_ble_eq_true rfl) (Nat.le_of_ble_eq_true rfl) ⟨(show iR y_17 0 65535 from f_17_4), (show y_17 = (w2b f0 4) from (by rw [ey_17, ey_8]; rfl))⟩
set_option maxHeartbeats 8000000 in
set_option maxRecDepth 100000 in
theorem s_X7_twoBytes_v3 (l : Launch) (dC : Nat → ClassId) (dI : Nat → Nat → Nat) (cI cJ cZ cM : ClassId) (h : Nat) (r : Nat → Nat) (i : Nat → Int32) (j : Nat → Int64) (f0 : Nat → Int32) (hI : mR i) (hf0 : aR f0 0 255) : k_Mi l yX7_twoBytes wsX7_twoBytes ({ frames := 1, cells := 0, slots := 0, locals := 40 }) (dC, dI) vwCl (tyy cI cJ cZ cM) [(h, .inr (7, oM r i j)), ((r 0), .inl (cI, 1800, .inl f0))] [.ref h, .int 6] 0 0 (fun (u9 : Unit) => [(h, .inr (7, oM r i j)), ((r 0), .inl (cI, 1800, .inl f0))]) (fun (r9 : Int32) (u9 : Unit) => (iR r9 0 65535) ∧ (r9 = (w2b f0 6))) := by
  refine fun sz => k_enter (cc := cX7_twoBytes) (maxL := 2) (ret := some (.int)) (Qc := fun A => va_Qi (fun (r9 : Int32) (u9 : Unit) => (iR r9 0 65535) ∧ (r9 = (w2b f0 6))) (fun u => k_B (dC, dI) vwCl (tyy cI cJ cZ cM) A ((fun (u9 : Unit) => [(h, .inr (7, oM r i j)), ((r 0), .inl (cI, 1800, .inl f0))]) u)) A) sz (by decide +kernel) rfl (Nat.le_of_ble_eq_true rfl) (fun p e s m args below meth c A ls H locs B hP hD hS hl => ?_)
  obtain ⟨hx, hb, hml, hown, hts, hr, hlk, hnm, hK, hA, hN, hC⟩ := id B
  have hown : s.vm.findClass RX7 = some m.cls := hown
  have hl : lv_has ls 2 [(0, .ref h), (1, .int 6)] := hl
  have w_0 : (Cond.fieldLink RX7 7 "WishSeaModel" "tape" "[I").before args s = true := hts _ (List.mem_of_getElem? (i := 1) rfl)
  have hinX7 : ∀ w ∈ u_ws RX7 TX7 92, w ∈ wsX7_twoBytes := fun _ h => List.mem_cons_of_mem _ (List.mem_append_right _ h)
  refine lv_aload_n hx hb dX7_twoBytes_0 rfl (lv_at hl 0 rfl) ?_
  refine k_get (D := (dC, dI)) (ci := 7) (v := .ref (r 0)) (C := RX7) (T := TX7) (N := 92) hx hb hts hinX7 hown hK hP 0 rfl rfl 0 (by decide) w_0 rfl rfl dX7_twoBytes_1 ?_
  refine lv_iload_n hx hb dX7_twoBytes_4 rfl (lv_at hl 1 rfl) ?_
  refine k_iald (v := (f0 6)) hx hb hK hP 1 0 6 rfl rfl rfl (Nat.le_of_ble_eq_true rfl) (Nat.le_of_ble_eq_true rfl) rfl dX7_twoBytes_5 ?_
  have f_5_1 : iR (f0 6) 0 255 := hf0 _
  refine lv_bipush (v := 8) hx hb dX7_twoBytes_6 (by decide +kernel) ?_
  refine lv_ishl hx hb dX7_twoBytes_8 ?_
  refine lv_topi (fun y_8 ey_8 => ?_)
  have f_8_2 : iR y_8 0 65280 := iR_shl 8 ey_8 f_5_1 (iR_c (n := 8) (a := 8) (b := 8) (by decide +kernel) (by decide +kernel)) (by decide +kernel)
  refine lv_aload_n hx hb dX7_twoBytes_9 rfl (lv_at hl 0 rfl) ?_
  refine k_get (D := (dC, dI)) (ci := 7) (v := .ref (r 0)) (C := RX7) (T := TX7) (N := 92) hx hb hts hinX7 hown hK hP 0 rfl rfl 0 (by decide) w_0 rfl rfl dX7_twoBytes_10 ?_
  refine lv_iload_n hx hb dX7_twoBytes_13 rfl (lv_at hl 1 rfl) ?_
  refine lv_iconst (v := 1) hx hb dX7_twoBytes_14 (by decide +kernel) ?_
  refine lv_iadd hx hb dX7_twoBytes_15 ?_
  refine k_int (v := 7) (by decide +kernel) ?_
  refine k_iald (v := (f0 7)) hx hb hK hP 1 0 7 rfl rfl rfl (Nat.le_of_ble_eq_true rfl) (Nat.le_of_ble_eq_true rfl) rfl dX7_twoBytes_16 ?_
  have f_16_3 : iR (f0 7) 0 255 := hf0 _
  refine lv_ior hx hb dX7_twoBytes_17 ?_
  refine lv_topi (fun y_17 ey_17 => ?_)
  have f_17_4 : iR y_17 0 65535 := iR_or 16 ey_17 f_8_2 f_16_3 (by decide +kernel)
  exact k_ri B hP hD hS dX7_twoBytes_18 () [0, 1] rfl rfl rfl (Nat.le_of_ble_eq_true rfl) (Nat.le_of_ble_eq_true rfl) ⟨(show iR y_17 0 65535 from f_17_4), (show y_17 = (w2b f0 6) from (by rw [ey_17, ey_8]; rfl))⟩
set_option maxHeartbeats 8000000 in
set_option maxRecDepth 100000 in
theorem s_X7_canBe_v0 (l : Launch) (dC : Nat → ClassId) (dI : Nat → Nat → Nat) (cI cJ cZ cM : ClassId) (h : Nat) (r : Nat → Nat) (i : Nat → Int32) (j : Nat → Int64) (x1 : Int32) (f0 : Nat → Int32) (f14 : Nat → Int32) (f30 : Nat → Int32) (hI : mR i) (hf0 : aR f0 0 255) (hf14 : aR f14 0 10) (hf30 : aR f30 0 999) : k_Mi l yX7_canBe wsX7_canBe ({ frames := 2, cells := 0, slots := 0, locals := 61 }) (dC, dI) vwCl (tyy cI cJ cZ cM) [(h, .inr (7, oM r i j)), ((r 0), .inl (cI, 1800, .inl f0)), ((r 14), .inl (cI, 2, .inl f14)), ((r 30), .inl (cI, 2, .inl f30))] [.ref h, .int x1] 0 0 (fun (u9 : Unit) => [(h, .inr (7, oM r i j)), ((r 0), .inl (cI, 1800, .inl f0)), ((r 14), .inl (cI, 2, .inl f14)), ((r 30), .inl (cI, 2, .inl f30))]) (fun (r9 : Int32) (u9 : Unit) => (iR r9 0 1) ∧ ((r9 = 0) ∨ (((w2b f0 4) ≤ (f30 (i 13).toNatClampNeg)) ∧ ((w2b f0 6) ≤ 1023) ∧ ((w2b f0 6).toInt < 2 ^ (f14 (i 13).toNatClampNeg).toInt.toNat)))) := by
  refine fun sz => k_enter (cc := cX7_canBe) (maxL := 4) (ret := some (.boolean)) (Qc := fun A => va_Qi (fun (r9 : Int32) (u9 : Unit) => (iR r9 0 1) ∧ ((r9 = 0) ∨ (((w2b f0 4) ≤ (f30 (i 13).toNatClampNeg)) ∧ ((w2b f0 6) ≤ 1023) ∧ ((w2b f0 6).toInt < 2 ^ (f14 (i 13).toNatClampNeg).toInt.toNat)))) (fun u => k_B (dC, dI) vwCl (tyy cI cJ cZ cM) A ((fun (u9 : Unit) => [(h, .inr (7, oM r i j)), ((r 0), .inl (cI, 1800, .inl f0)), ((r 14), .inl (cI, 2, .inl f14)), ((r 30), .inl (cI, 2, .inl f30))]) u)) A) sz (by decide +kernel) rfl (Nat.le_of_ble_eq_true rfl) (fun p e s m args below meth c A ls H locs B hP hD hS hl => ?_)
  obtain ⟨hx, hb, hml, hown, hts, hr, hlk, hnm, hK, hA, hN, hC⟩ := id B
  have hown : s.vm.findClass RX7 = some m.cls := hown
  have hl : lv_has ls 4 [(0, .ref h), (1, .int x1)] := hl
  have w_0 : (Cond.fieldLink RX7 102 "WishSeaModel" "bearing" "[I").before args s = true := hts _ (List.mem_of_getElem? (i := 1) rfl)
  have w_1 : (Cond.fieldLink RX7 51 "WishSeaModel" "bank" "I").before args s = true := hts _ (List.mem_of_getElem? (i := 2) rfl)
  have w_2 : (Cond.fieldLink RX7 54 "WishSeaModel" "things" "[I").before args s = true := hts _ (List.mem_of_getElem? (i := 3) rfl)
  have w_3 : (Cond.fieldLink RX7 7 "WishSeaModel" "tape" "[I").before args s = true := hts _ (List.mem_of_getElem? (i := 4) rfl)
  have hinX7 : ∀ w ∈ u_ws RX7 TX7 92, w ∈ wsX7_canBe := fun _ h => List.mem_cons_of_mem _ (List.mem_append_right _ h)
  refine lv_iload_n hx hb dX7_canBe_0 rfl (lv_at hl 1 rfl) ?_
  refine lv_bipush (v := 9) hx hb dX7_canBe_1 (by decide +kernel) ?_
  have J_65 : ∀   (H : Heap) (locs : List Loc) (ls : Array Slot), va_P (dC, dI) vwCl [(h, .inr (7, oM r i j)), ((r 0), .inl (cI, 1800, .inl f0)), ((r 14), .inl (cI, 2, .inl f14)), ((r 30), .inl (cI, 2, .inl f30))] H → va_D A [(h, .inr (7, oM r i j)), ((r 0), .inl (cI, 1800, .inl f0)), ((r 14), .inl (cI, 2, .inl f14)), ((r 30), .inl (cI, 2, .inl f30))] → va_S A s.heap H locs → lv_has ls 4 [] → W p l e ({ frames := 2, cells := 0, slots := 0, locals := 61 }) s m args below meth c H locs 0 0 (MQ below (va_Qi (fun (r9 : Int32) (u9 : Unit) => (iR r9 0 1) ∧ ((r9 = 0) ∨ (((w2b f0 4) ≤ (f30 (i 13).toNatClampNeg)) ∧ ((w2b f0 6) ≤ 1023) ∧ ((w2b f0 6).toInt < 2 ^ (f14 (i 13).toNatClampNeg).toInt.toNat)))) (fun u => k_B (dC, dI) vwCl (tyy cI cJ cZ cM) A ((fun (u9 : Unit) => [(h, .inr (7, oM r i j)), ((r 0), .inl (cI, 1800, .inl f0)), ((r 14), .inl (cI, 2, .inl f14)), ((r 30), .inl (cI, 2, .inl f30))]) u)) A) args s 0 0 A) (F0 m 65 ls []) := by
    intro   H locs ls hP hD hS hl
    refine lv_iconst (v := 0) hx hb dX7_canBe_65 (by decide +kernel) ?_
    exact k_ri B hP hD hS dX7_canBe_66 () [0, 1, 2, 3] rfl rfl rfl (Nat.le_of_ble_eq_true rfl) (Nat.le_of_ble_eq_true rfl) ⟨(show iR 0 0 1 from (iR_c (n := 0) (a := 0) (b := 1) (by decide +kernel) (by decide +kernel))), (show (0 = 0) ∨ (((w2b f0 4) ≤ (f30 (i 13).toNatClampNeg)) ∧ ((w2b f0 6) ≤ 1023) ∧ ((w2b f0 6).toInt < 2 ^ (f14 (i 13).toNatClampNeg).toInt.toNat)) from (Or.inl rfl))⟩
  refine lv_icmp_ne (tgt := 65) hx hb dX7_canBe_3 (by decide) (fun c_3 => ?_) (fun c_3 => ?_)
  · have c_3 : ¬ x1 = 9 := c_3
    exact J_65   H locs ls hP hD hS (lv_sub hl [] rfl)
  · have c_3 : x1 = 9 := c_3
    have f_6_1 : iR x1 9 9 := iR_eqL c_3 (iR_top _) (iR_c (n := 9) (a := 9) (b := 9) (by decide +kernel) (by decide +kernel)) (by decide +kernel)
    refine lv_aload_n hx hb dX7_canBe_6 rfl (lv_at hl 0 rfl) ?_
    refine lv_iconst (v := 0) hx hb dX7_canBe_7 (by decide +kernel) ?_
    refine k_ci (wc := [(h, .inr (7, oM r i j)), ((r 0), .inl (cI, 1800, .inl f0))]) (wr := [((r 14), .inl (cI, 2, .inl f14)), ((r 30), .inl (cI, 2, .inl f30))]) (fun hPc hDc hFc => va_runV (As := [.int 0]) (rest := []) ⟨hx, hb, hml, hown, hts⟩ (s_X7_twoBytes_v0 l dC dI cI cJ cZ cM h r i j f0 hI hf0 H.size) (cwV 1 hts gX7_canBe_X7_twoBytes rfl rfl rfl (by decide +kernel) ⟨(Nat.le_of_ble_eq_true rfl), (Nat.le_of_ble_eq_true rfl)⟩) (k_pV hPc hDc hK hN hC hS hFc hP (q0 := 0) (ci := 7) rfl rfl) rfl rfl hl.1 rfl (lv_room (Nat.le_of_ble_eq_true rfl)) dX7_canBe_8 ⟨(Nat.le_of_ble_eq_true rfl), (Nat.le_of_ble_eq_true rfl)⟩) hP hD hS hA [0, 1] [2, 3] rfl rfl rfl rfl (by decide) (fun _ => rfl) 0 0 rfl rfl (fun r_8 u_8 H locs hw hP hD hS => ?_)
    obtain ⟨g_8_0, g_8_1⟩ := hw
    obtain rfl : (w2b f0 0) = r_8 := g_8_1.symm
    have hP : va_P (dC, dI) vwCl [((r 14), .inl (cI, 2, .inl f14)), ((r 30), .inl (cI, 2, .inl f30)), (h, .inr (7, oM r i j)), ((r 0), .inl (cI, 1800, .inl f0))] H := hP
    have hD : va_D A [((r 14), .inl (cI, 2, .inl f14)), ((r 30), .inl (cI, 2, .inl f30)), (h, .inr (7, oM r i j)), ((r 0), .inl (cI, 1800, .inl f0))] := hD
    refine lv_sipush (v := 9999) hx hb dX7_canBe_11 (by decide +kernel) ?_
    refine lv_icmp_gt (tgt := 65) hx hb dX7_canBe_14 (by decide) (fun c_14 => ?_) (fun c_14 => ?_)
    · have c_14 : 9999 < (w2b f0 0) := c_14
      have f_65_2 : iR (w2b f0 0) 10000 65535 := iR_ltR c_14 (iR_c (n := 9999) (a := 9999) (b := 9999) (by decide +kernel) (by decide +kernel)) g_8_0 (by decide +kernel)
      exact J_65   H locs ls (hP.sub [2, 3, 0, 1] rfl) (hD.sub [2, 3, 0, 1] (by decide +kernel) rfl) hS (lv_sub hl [] rfl)
    · have c_14 : (w2b f0 0) ≤ 9999 := i_nlt c_14
      have f_17_2 : iR (w2b f0 0) 0 9999 := iR_leL c_14 g_8_0 (iR_c (n := 9999) (a := 9999) (b := 9999) (by decide +kernel) (by decide +kernel)) (by decide +kernel)
      refine lv_aload_n hx hb dX7_canBe_17 rfl (lv_at hl 0 rfl) ?_
      refine lv_iconst (v := 2) hx hb dX7_canBe_18 (by decide +kernel) ?_
      refine k_ci (wc := [(h, .inr (7, oM r i j)), ((r 0), .inl (cI, 1800, .inl f0))]) (wr := [((r 14), .inl (cI, 2, .inl f14)), ((r 30), .inl (cI, 2, .inl f30))]) (fun hPc hDc hFc => va_runV (As := [.int 2]) (rest := []) ⟨hx, hb, hml, hown, hts⟩ (s_X7_twoBytes_v1 l dC dI cI cJ cZ cM h r i j f0 hI hf0 H.size) (cwV 1 hts gX7_canBe_X7_twoBytes rfl rfl rfl (by decide +kernel) ⟨(Nat.le_of_ble_eq_true rfl), (Nat.le_of_ble_eq_true rfl)⟩) (k_pV hPc hDc hK hN hC hS hFc hP (q0 := 2) (ci := 7) rfl rfl) rfl rfl hl.1 rfl (lv_room (Nat.le_of_ble_eq_true rfl)) dX7_canBe_19 ⟨(Nat.le_of_ble_eq_true rfl), (Nat.le_of_ble_eq_true rfl)⟩) hP hD hS hA [2, 3] [0, 1] rfl rfl rfl rfl (by decide) (fun _ => rfl) 0 0 rfl rfl (fun r_19 u_19 H locs hw hP hD hS => ?_)
      obtain ⟨g_19_0, g_19_1⟩ := hw
      obtain rfl : (w2b f0 2) = r_19 := g_19_1.symm
      have hP : va_P (dC, dI) vwCl [((r 14), .inl (cI, 2, .inl f14)), ((r 30), .inl (cI, 2, .inl f30)), (h, .inr (7, oM r i j)), ((r 0), .inl (cI, 1800, .inl f0))] H := hP
      have hD : va_D A [((r 14), .inl (cI, 2, .inl f14)), ((r 30), .inl (cI, 2, .inl f30)), (h, .inr (7, oM r i j)), ((r 0), .inl (cI, 1800, .inl f0))] := hD
      refine lv_sipush (v := 9999) hx hb dX7_canBe_22 (by decide +kernel) ?_
      refine lv_icmp_gt (tgt := 65) hx hb dX7_canBe_25 (by decide) (fun c_25 => ?_) (fun c_25 => ?_)
      · have c_25 : 9999 < (w2b f0 2) := c_25
        have f_65_3 : iR (w2b f0 2) 10000 65535 := iR_ltR c_25 (iR_c (n := 9999) (a := 9999) (b := 9999) (by decide +kernel) (by decide +kernel)) g_19_0 (by decide +kernel)
        exact J_65   H locs ls (hP.sub [2, 3, 0, 1] rfl) (hD.sub [2, 3, 0, 1] (by decide +kernel) rfl) hS (lv_sub hl [] rfl)
      · have c_25 : (w2b f0 2) ≤ 9999 := i_nlt c_25
        have f_28_3 : iR (w2b f0 2) 0 9999 := iR_leL c_25 g_19_0 (iR_c (n := 9999) (a := 9999) (b := 9999) (by decide +kernel) (by decide +kernel)) (by decide +kernel)
        refine lv_aload_n hx hb dX7_canBe_28 rfl (lv_at hl 0 rfl) ?_
        refine lv_iconst (v := 4) hx hb dX7_canBe_29 (by decide +kernel) ?_
        refine k_ci (wc := [(h, .inr (7, oM r i j)), ((r 0), .inl (cI, 1800, .inl f0))]) (wr := [((r 14), .inl (cI, 2, .inl f14)), ((r 30), .inl (cI, 2, .inl f30))]) (fun hPc hDc hFc => va_runV (As := [.int 4]) (rest := []) ⟨hx, hb, hml, hown, hts⟩ (s_X7_twoBytes_v2 l dC dI cI cJ cZ cM h r i j f0 hI hf0 H.size) (cwV 1 hts gX7_canBe_X7_twoBytes rfl rfl rfl (by decide +kernel) ⟨(Nat.le_of_ble_eq_true rfl), (Nat.le_of_ble_eq_true rfl)⟩) (k_pV hPc hDc hK hN hC hS hFc hP (q0 := 2) (ci := 7) rfl rfl) rfl rfl hl.1 rfl (lv_room (Nat.le_of_ble_eq_true rfl)) dX7_canBe_30 ⟨(Nat.le_of_ble_eq_true rfl), (Nat.le_of_ble_eq_true rfl)⟩) hP hD hS hA [2, 3] [0, 1] rfl rfl rfl rfl (by decide) (fun _ => rfl) 0 0 rfl rfl (fun r_30 u_30 H locs hw hP hD hS => ?_)
        obtain ⟨g_30_0, g_30_1⟩ := hw
        obtain rfl : (w2b f0 4) = r_30 := g_30_1.symm
        have hP : va_P (dC, dI) vwCl [((r 14), .inl (cI, 2, .inl f14)), ((r 30), .inl (cI, 2, .inl f30)), (h, .inr (7, oM r i j)), ((r 0), .inl (cI, 1800, .inl f0))] H := hP
        have hD : va_D A [((r 14), .inl (cI, 2, .inl f14)), ((r 30), .inl (cI, 2, .inl f30)), (h, .inr (7, oM r i j)), ((r 0), .inl (cI, 1800, .inl f0))] := hD
        refine lv_aload_n hx hb dX7_canBe_33 rfl (lv_at hl 0 rfl) ?_
        refine k_get (D := (dC, dI)) (ci := 7) (v := .ref (r 30)) (C := RX7) (T := TX7) (N := 92) hx hb hts hinX7 hown hK hP 2 rfl rfl 30 (by decide) w_0 rfl rfl dX7_canBe_34 ?_
        refine lv_aload_n hx hb dX7_canBe_37 rfl (lv_at hl 0 rfl) ?_
        have f_38_4 : iR (i 13) 0 1 := hI 13
        refine k_get (D := (dC, dI)) (ci := 7) (v := .int (i 13)) (C := RX7) (T := TX7) (N := 92) hx hb hts hinX7 hown hK hP 2 rfl rfl 13 (by decide) w_1 rfl rfl dX7_canBe_38 ?_
        refine va_iald hx hb hK hP 1 0 rfl rfl (iR_vp f_38_4 (by decide +kernel)) dX7_canBe_41 ?_
        have f_41_5 : iR (f30 (i 13).toNatClampNeg) 0 999 := hf30 _
        refine lv_icmp_gt (tgt := 65) hx hb dX7_canBe_42 (by decide) (fun c_42 => ?_) (fun c_42 => ?_)
        · have c_42 : (f30 (i 13).toNatClampNeg) < (w2b f0 4) := c_42
          have f_65_6 : iR (w2b f0 4) 1 65535 := iR_ltR c_42 f_41_5 g_30_0 (by decide +kernel)
          exact J_65   H locs ls (hP.sub [2, 3, 0, 1] rfl) (hD.sub [2, 3, 0, 1] (by decide +kernel) rfl) hS (lv_sub hl [] rfl)
        · have c_42 : (w2b f0 4) ≤ (f30 (i 13).toNatClampNeg) := i_nlt c_42
          have f_45_6 : iR (w2b f0 4) 0 999 := iR_leL c_42 g_30_0 f_41_5 (by decide +kernel)
          refine lv_aload_n hx hb dX7_canBe_45 rfl (lv_at hl 0 rfl) ?_
          refine lv_bipush (v := 6) hx hb dX7_canBe_46 (by decide +kernel) ?_
          refine k_ci (wc := [(h, .inr (7, oM r i j)), ((r 0), .inl (cI, 1800, .inl f0))]) (wr := [((r 14), .inl (cI, 2, .inl f14)), ((r 30), .inl (cI, 2, .inl f30))]) (fun hPc hDc hFc => va_runV (As := [.int 6]) (rest := []) ⟨hx, hb, hml, hown, hts⟩ (s_X7_twoBytes_v3 l dC dI cI cJ cZ cM h r i j f0 hI hf0 H.size) (cwV 1 hts gX7_canBe_X7_twoBytes rfl rfl rfl (by decide +kernel) ⟨(Nat.le_of_ble_eq_true rfl), (Nat.le_of_ble_eq_true rfl)⟩) (k_pV hPc hDc hK hN hC hS hFc hP (q0 := 2) (ci := 7) rfl rfl) rfl rfl hl.1 rfl (lv_room (Nat.le_of_ble_eq_true rfl)) dX7_canBe_48 ⟨(Nat.le_of_ble_eq_true rfl), (Nat.le_of_ble_eq_true rfl)⟩) hP hD hS hA [2, 3] [0, 1] rfl rfl rfl rfl (by decide) (fun _ => rfl) 0 0 rfl rfl (fun r_48 u_48 H locs hw hP hD hS => ?_)
          obtain ⟨g_48_0, g_48_1⟩ := hw
          obtain rfl : (w2b f0 6) = r_48 := g_48_1.symm
          have hP : va_P (dC, dI) vwCl [((r 14), .inl (cI, 2, .inl f14)), ((r 30), .inl (cI, 2, .inl f30)), (h, .inr (7, oM r i j)), ((r 0), .inl (cI, 1800, .inl f0))] H := hP
          have hD : va_D A [((r 14), .inl (cI, 2, .inl f14)), ((r 30), .inl (cI, 2, .inl f30)), (h, .inr (7, oM r i j)), ((r 0), .inl (cI, 1800, .inl f0))] := hD
          refine lv_iconst (v := 1) hx hb dX7_canBe_51 (by decide +kernel) ?_
          refine lv_aload_n hx hb dX7_canBe_52 rfl (lv_at hl 0 rfl) ?_
          refine k_get (D := (dC, dI)) (ci := 7) (v := .ref (r 14)) (C := RX7) (T := TX7) (N := 92) hx hb hts hinX7 hown hK hP 2 rfl rfl 14 (by decide) w_2 rfl rfl dX7_canBe_53 ?_
          refine lv_aload_n hx hb dX7_canBe_56 rfl (lv_at hl 0 rfl) ?_
          refine k_get (D := (dC, dI)) (ci := 7) (v := .int (i 13)) (C := RX7) (T := TX7) (N := 92) hx hb hts hinX7 hown hK hP 2 rfl rfl 13 (by decide) w_1 rfl rfl dX7_canBe_57 ?_
          refine va_iald hx hb hK hP 0 0 rfl rfl (iR_vp f_38_4 (by decide +kernel)) dX7_canBe_60 ?_
          have f_60_7 : iR (f14 (i 13).toNatClampNeg) 0 10 := hf14 _
          refine lv_ishl hx hb dX7_canBe_61 ?_
          refine lv_topi (fun y_61 ey_61 => ?_)
          have f_61_8 : iR y_61 1 1024 := iR_shl 10 ey_61 (iR_c (n := 1) (a := 1) (b := 1) (by decide +kernel) (by decide +kernel)) f_60_7 (by decide +kernel)
          refine lv_icmp_lt (tgt := 67) hx hb dX7_canBe_62 (by decide) (fun c_62 => ?_) (fun c_62 => ?_)
          · have c_62 : (w2b f0 6) < y_61 := c_62
            have f_67_9 : iR (w2b f0 6) 0 1023 := iR_ltL c_62 g_48_0 f_61_8 (by decide +kernel)
            refine lv_bipush (v := 97) hx hb dX7_canBe_67 (by decide +kernel) ?_
            refine lv_istore_n (lv' := [(2, .int 97), (0, .ref h), (1, .int x1)]) hx hb dX7_canBe_69 rfl hl (by decide) rfl (fun ls hl => ?_)
            refine lv_iconst (v := 0) hx hb dX7_canBe_70 (by decide +kernel) ?_
            have J_72 : ∀ (n_72 : Nat) (j72_L2 : Int32) (j72_L3 : Int32) (hj72_L2 : iR j72_L2 0 250) (hj72_L3 : iR j72_L3 0 8) (hm_72 : (8 - j72_L3.toInt).toNat < n_72) (H : Heap) (locs : List Loc) (ls : Array Slot), va_P (dC, dI) vwCl [(h, .inr (7, oM r i j)), ((r 0), .inl (cI, 1800, .inl f0)), ((r 14), .inl (cI, 2, .inl f14)), ((r 30), .inl (cI, 2, .inl f30))] H → va_D A [(h, .inr (7, oM r i j)), ((r 0), .inl (cI, 1800, .inl f0)), ((r 14), .inl (cI, 2, .inl f14)), ((r 30), .inl (cI, 2, .inl f30))] → va_S A s.heap H locs → lv_has ls 4 [(0, .ref h), (1, .int x1), (2, .int j72_L2), (3, .int j72_L3)] → W p l e ({ frames := 2, cells := 0, slots := 0, locals := 61 }) s m args below meth c H locs 0 0 (MQ below (va_Qi (fun (r9 : Int32) (u9 : Unit) => (iR r9 0 1) ∧ ((r9 = 0) ∨ (((w2b f0 4) ≤ (f30 (i 13).toNatClampNeg)) ∧ ((w2b f0 6) ≤ 1023) ∧ ((w2b f0 6).toInt < 2 ^ (f14 (i 13).toNatClampNeg).toInt.toNat)))) (fun u => k_B (dC, dI) vwCl (tyy cI cJ cZ cM) A ((fun (u9 : Unit) => [(h, .inr (7, oM r i j)), ((r 0), .inl (cI, 1800, .inl f0)), ((r 14), .inl (cI, 2, .inl f14)), ((r 30), .inl (cI, 2, .inl f30))]) u)) A) args s 0 0 A) (F0 m 72 ls []) := by
              intro n_72
              induction n_72 with
              | zero => intro j72_L2 j72_L3 hj72_L2 hj72_L3 hm_72; exact absurd hm_72 (Nat.not_lt_zero _)
              | succ n_72 ih_72 =>
                intro j72_L2 j72_L3 hj72_L2 hj72_L3 hm_72 H locs ls hP hD hS hl
                refine lv_iload_n hx hb dX7_canBe_72 rfl (lv_at hl 3 rfl) ?_
                refine lv_iload_n hx hb dX7_canBe_73 rfl (lv_at hl 1 rfl) ?_
                refine lv_iconst (v := 1) hx hb dX7_canBe_74 (by decide +kernel) ?_
                refine lv_isub hx hb dX7_canBe_75 ?_
                refine lv_topi (fun y_75 ey_75 => ?_)
                have f_75_1 : iR y_75 8 8 := iR_sub ey_75 f_6_1 (iR_c (n := 1) (a := 1) (b := 1) (by decide +kernel) (by decide +kernel)) (by decide +kernel)
                refine lv_icmp_ge (tgt := 100) hx hb dX7_canBe_76 (by decide) (fun c_76 => ?_) (fun c_76 => ?_)
                · have c_76 : y_75 ≤ j72_L3 := c_76
                  have f_100_2 : iR j72_L3 8 8 := iR_leR c_76 f_75_1 hj72_L3 (by decide +kernel)
                  refine lv_aload_n hx hb dX7_canBe_100 rfl (lv_at hl 0 rfl) ?_
                  refine k_get (D := (dC, dI)) (ci := 7) (v := .ref (r 0)) (C := RX7) (T := TX7) (N := 92) hx hb hts hinX7 hown hK hP 0 rfl rfl 0 (by decide) w_3 rfl rfl dX7_canBe_101 ?_
                  refine lv_iload_n hx hb dX7_canBe_104 rfl (lv_at hl 1 rfl) ?_
                  refine lv_iconst (v := 1) hx hb dX7_canBe_105 (by decide +kernel) ?_
                  refine lv_isub hx hb dX7_canBe_106 ?_
                  refine lv_topi (fun y_106 ey_106 => ?_)
                  have f_106_3 : iR y_106 8 8 := iR_sub ey_106 f_6_1 (iR_c (n := 1) (a := 1) (b := 1) (by decide +kernel) (by decide +kernel)) (by decide +kernel)
                  refine va_iald hx hb hK hP 1 0 rfl rfl (iR_vp f_106_3 (by decide +kernel)) dX7_canBe_107 ?_
                  have f_107_4 : iR (f0 y_106.toNatClampNeg) 0 255 := hf0 _
                  refine lv_iload_n hx hb dX7_canBe_108 rfl (lv_at hl 2 rfl) ?_
                  refine lv_icmp_ne (tgt := 116) hx hb dX7_canBe_109 (by decide) (fun c_109 => ?_) (fun c_109 => ?_)
                  · have c_109 : ¬ (f0 y_106.toNatClampNeg) = j72_L2 := c_109
                    refine lv_iconst (v := 0) hx hb dX7_canBe_116 (by decide +kernel) ?_
                    exact k_ri B hP hD hS dX7_canBe_117 () [0, 1, 2, 3] rfl rfl rfl (Nat.le_of_ble_eq_true rfl) (Nat.le_of_ble_eq_true rfl) ⟨(show iR 0 0 1 from (iR_c (n := 0) (a := 0) (b := 1) (by decide +kernel) (by decide +kernel))), (show (0 = 0) ∨ (((w2b f0 4) ≤ (f30 (i 13).toNatClampNeg)) ∧ ((w2b f0 6) ≤ 1023) ∧ ((w2b f0 6).toInt < 2 ^ (f14 (i 13).toNatClampNeg).toInt.toNat)) from (Or.inl rfl))⟩
                  · have c_109 : (f0 y_106.toNatClampNeg) = j72_L2 := c_109
                    have f_112_5 : iR (f0 y_106.toNatClampNeg) 0 250 := iR_eqL c_109 f_107_4 hj72_L2 (by decide +kernel)
                    refine lv_iconst (v := 1) hx hb dX7_canBe_112 (by decide +kernel) ?_
                    refine lv_goto (tgt := 117) hx hb dX7_canBe_113 (by decide) ?_
                    exact k_ri B hP hD hS dX7_canBe_117 () [0, 1, 2, 3] rfl rfl rfl (Nat.le_of_ble_eq_true rfl) (Nat.le_of_ble_eq_true rfl) ⟨(show iR 1 0 1 from (iR_c (n := 1) (a := 0) (b := 1) (by decide +kernel) (by decide +kernel))), (show (1 = 0) ∨ (((w2b f0 4) ≤ (f30 (i 13).toNatClampNeg)) ∧ ((w2b f0 6) ≤ 1023) ∧ ((w2b f0 6).toInt < 2 ^ (f14 (i 13).toNatClampNeg).toInt.toNat)) from (Or.inr ⟨c_42, (i_lef f_67_9 (iR_c (n := 1023) (a := 1023) (b := 1023) (by decide +kernel) (by decide +kernel)) (by decide +kernel)), (by have z := sh_eq ey_61 f_60_7; have z2 := i_ti_lt rfl rfl c_62; omega)⟩))⟩
                · have c_76 : j72_L3 < y_75 := i_nle c_76
                  have f_79_2 : iR j72_L3 0 7 := iR_ltL c_76 hj72_L3 f_75_1 (by decide +kernel)
                  refine lv_iconst (v := 5) hx hb dX7_canBe_79 (by decide +kernel) ?_
                  refine lv_iload_n hx hb dX7_canBe_80 rfl (lv_at hl 2 rfl) ?_
                  refine lv_imul hx hb dX7_canBe_81 ?_
                  refine lv_topi (fun y_81 ey_81 => ?_)
                  have f_81_3 : iR y_81 0 1250 := iR_mul ey_81 (iR_c (n := 5) (a := 5) (b := 5) (by decide +kernel) (by decide +kernel)) hj72_L2 (by decide +kernel)
                  refine lv_aload_n hx hb dX7_canBe_82 rfl (lv_at hl 0 rfl) ?_
                  refine k_get (D := (dC, dI)) (ci := 7) (v := .ref (r 0)) (C := RX7) (T := TX7) (N := 92) hx hb hts hinX7 hown hK hP 0 rfl rfl 0 (by decide) w_3 rfl rfl dX7_canBe_83 ?_
                  refine lv_iload_n hx hb dX7_canBe_86 rfl (lv_at hl 3 rfl) ?_
                  refine va_iald hx hb hK hP 1 0 rfl rfl (iR_vp f_79_2 (by decide +kernel)) dX7_canBe_87 ?_
                  have f_87_4 : iR (f0 j72_L3.toNatClampNeg) 0 255 := hf0 _
                  refine lv_iadd hx hb dX7_canBe_88 ?_
                  refine lv_topi (fun y_88 ey_88 => ?_)
                  have f_88_5 : iR y_88 0 1505 := iR_add ey_88 f_81_3 f_87_4 (by decide +kernel)
                  refine lv_sipush (v := 251) hx hb dX7_canBe_89 (by decide +kernel) ?_
                  refine lv_irem hx hb dX7_canBe_92 (i_nz (iR_c (n := 251) (a := 251) (b := 251) (by decide +kernel) (by decide +kernel)) (by decide +kernel)) ?_
                  refine lv_topi (fun y_92 ey_92 => ?_)
                  have f_92_6 : iR y_92 0 250 := iR_rem ey_92 f_88_5 (iR_c (n := 251) (a := 251) (b := 251) (by decide +kernel) (by decide +kernel)) (by decide +kernel)
                  refine lv_istore_n (lv' := [(2, .int y_92), (0, .ref h), (1, .int x1), (3, .int j72_L3)]) hx hb dX7_canBe_93 rfl hl (by decide) rfl (fun ls hl => ?_)
                  obtain ⟨y_94, ey_94⟩ : ∃ y : Int32, y = j72_L3 + 1 := ⟨_, rfl⟩
                  refine lv_iinc (v := y_94) (lv' := [(3, .int y_94), (2, .int y_92), (0, .ref h), (1, .int x1)]) hx hb dX7_canBe_94 hl (k := 3) rfl ey_94.symm (by decide) rfl (fun ls hl => ?_)
                  have f_94_7 : iR y_94 1 8 := iR_add ey_94 f_79_2 (iR_c (n := 1) (a := 1) (b := 1) (by decide +kernel) (by decide +kernel)) (by decide +kernel)
                  refine lv_goto (tgt := 72) hx hb dX7_canBe_97 (by decide) ?_
                  exact ih_72 y_92 y_94 f_92_6 (iR_w f_94_7 (by decide +kernel)) (m_up (B := 8) hm_72 ey_94 f_79_2 (by decide +kernel)) H locs ls hP hD hS (lv_sub hl [2, 3, 1, 0] rfl)
            refine lv_istore_n (lv' := [(3, .int 0), (2, .int 97), (0, .ref h), (1, .int x1)]) hx hb dX7_canBe_71 rfl hl (by decide) rfl (fun ls hl => ?_)
            exact J_72 _ 97 0 (iR_c (n := 97) (a := 0) (b := 250) (by decide +kernel) (by decide +kernel)) (iR_c (n := 0) (a := 0) (b := 8) (by decide +kernel) (by decide +kernel)) (Nat.lt_succ_self _) H locs ls (hP.sub [2, 3, 0, 1] rfl) (hD.sub [2, 3, 0, 1] (by decide +kernel) rfl) hS (lv_sub hl [2, 3, 1, 0] rfl)
          · have c_62 : y_61 ≤ (w2b f0 6) := i_nlt c_62
            have f_65_9 : iR (w2b f0 6) 1 65535 := iR_leR c_62 f_61_8 g_48_0 (by decide +kernel)
            exact J_65   H locs ls (hP.sub [2, 3, 0, 1] rfl) (hD.sub [2, 3, 0, 1] (by decide +kernel) rfl) hS (lv_sub hl [] rfl)
set_option maxHeartbeats 8000000 in
set_option maxRecDepth 100000 in
theorem s_X7_on_v0 (l : Launch) (dC : Nat → ClassId) (dI : Nat → Nat → Nat) (cI cJ cZ cM : ClassId) (h : Nat) (r : Nat → Nat) (i : Nat → Int32) (j : Nat → Int64) (f0 : Nat → Int32) (f14 : Nat → Int32) (f30 : Nat → Int32) (f48 : Nat → Int32) (f49 : Nat → Int32) (f50 : Nat → Int32) (f51 : Nat → Int32) (f52 : Nat → Int32) (f53 : Nat → Int32) (hI : mR i) (hf0 : aR f0 0 255) (hf14 : aR f14 0 10) (hf30 : aR f30 0 999) (hf49 : aR f49 0 1023) (hf50 : aR f50 0 999) (hf53 : aR f53 0 50) : k_Mi l yX7_on wsX7_on ({ frames := 3, cells := 0, slots := 0, locals := 84 }) (dC, dI) vwCl (tyy cI cJ cZ cM) [(h, .inr (7, oM r i j)), ((r 0), .inl (cI, 1800, .inl f0)), ((r 14), .inl (cI, 2, .inl f14)), ((r 30), .inl (cI, 2, .inl f30)), ((r 48), .inl (cI, 6, .inl f48)), ((r 49), .inl (cI, 22, .inl f49)), ((r 50), .inl (cI, 22, .inl f50)), ((r 51), .inl (cI, 22, .inl f51)), ((r 52), .inl (cI, 22, .inl f52)), ((r 53), .inl (cI, 22, .inl f53))] [.ref h] 0 0 (fun (u9 : SU) => [(h, .inr (7, oM r (upd (upd i 1 0) 59 (u9.1 0)) j)), ((r 0), .inl (cI, 1800, .inl f0)), ((r 14), .inl (cI, 2, .inl f14)), ((r 30), .inl (cI, 2, .inl f30)), ((r 48), .inl (cI, 6, .inl (u9.2.2.1 0))), ((r 49), .inl (cI, 22, .inl (u9.2.2.1 1))), ((r 50), .inl (cI, 22, .inl (u9.2.2.1 2))), ((r 51), .inl (cI, 22, .inl (u9.2.2.1 3))), ((r 52), .inl (cI, 22, .inl (u9.2.2.1 4))), ((r 53), .inl (cI, 22, .inl (u9.2.2.1 5)))]) (fun (r9 : Int32) (u9 : SU) => (iR r9 0 1) ∧ (iR (u9.1 0) 0 20) ∧ (aR (u9.2.2.1 1) 0 1023) ∧ (aR (u9.2.2.1 2) 0 999) ∧ (aR (u9.2.2.1 5) 0 50) ∧ (JH f14 f49 (i 13).toNatClampNeg (i 58) (i 59) → JH f14 (u9.2.2.1 1) (i 13).toNatClampNeg (i 58) (u9.1 0))) := by
  refine fun sz => k_enter (cc := cX7_on) (maxL := 2) (ret := some (.boolean)) (Qc := fun A => va_Qi (fun (r9 : Int32) (u9 : SU) => (iR r9 0 1) ∧ (iR (u9.1 0) 0 20) ∧ (aR (u9.2.2.1 1) 0 1023) ∧ (aR (u9.2.2.1 2) 0 999) ∧ (aR (u9.2.2.1 5) 0 50) ∧ (JH f14 f49 (i 13).toNatClampNeg (i 58) (i 59) → JH f14 (u9.2.2.1 1) (i 13).toNatClampNeg (i 58) (u9.1 0))) (fun u => k_B (dC, dI) vwCl (tyy cI cJ cZ cM) A ((fun (u9 : SU) => [(h, .inr (7, oM r (upd (upd i 1 0) 59 (u9.1 0)) j)), ((r 0), .inl (cI, 1800, .inl f0)), ((r 14), .inl (cI, 2, .inl f14)), ((r 30), .inl (cI, 2, .inl f30)), ((r 48), .inl (cI, 6, .inl (u9.2.2.1 0))), ((r 49), .inl (cI, 22, .inl (u9.2.2.1 1))), ((r 50), .inl (cI, 22, .inl (u9.2.2.1 2))), ((r 51), .inl (cI, 22, .inl (u9.2.2.1 3))), ((r 52), .inl (cI, 22, .inl (u9.2.2.1 4))), ((r 53), .inl (cI, 22, .inl (u9.2.2.1 5)))]) u)) A) sz (by decide +kernel) rfl (Nat.le_of_ble_eq_true rfl) (fun p e s m args below meth c A ls H locs B hP hD hS hl => ?_)
  obtain ⟨hx, hb, hml, hown, hts, hr, hlk, hnm, hK, hA, hN, hC⟩ := id B
  have hown : s.vm.findClass RX7 = some m.cls := hown
  have hl : lv_has ls 2 [(0, .ref h)] := hl
  have w_0 : (Cond.fieldLink RX7 13 "WishSeaModel" "taped" "I").before args s = true := hts _ (List.mem_of_getElem? (i := 1) rfl)
  have w_1 : (Cond.fieldLink RX7 171 "WishSeaModel" "dayOf" "[I").before args s = true := hts _ (List.mem_of_getElem? (i := 2) rfl)
  have w_2 : (Cond.fieldLink RX7 168 "WishSeaModel" "saidOf" "[I").before args s = true := hts _ (List.mem_of_getElem? (i := 3) rfl)
  have w_3 : (Cond.fieldLink RX7 165 "WishSeaModel" "seaOf" "[I").before args s = true := hts _ (List.mem_of_getElem? (i := 4) rfl)
  have w_4 : (Cond.fieldLink RX7 162 "WishSeaModel" "hadOf" "[I").before args s = true := hts _ (List.mem_of_getElem? (i := 5) rfl)
  have w_5 : (Cond.fieldLink RX7 174 "WishSeaModel" "keptMany" "[I").before args s = true := hts _ (List.mem_of_getElem? (i := 6) rfl)
  have w_6 : (Cond.fieldLink RX7 192 "WishSeaModel" "undos" "I").before args s = true := hts _ (List.mem_of_getElem? (i := 7) rfl)
  have hinX7 : ∀ w ∈ u_ws RX7 TX7 92, w ∈ wsX7_on := fun _ h => List.mem_cons_of_mem _ (List.mem_append_right _ h)
  refine lv_aload_n hx hb dX7_on_0 rfl (lv_at hl 0 rfl) ?_
  have f_1_1 : iR (i 1) 0 1600 := hI 1
  refine k_get (D := (dC, dI)) (ci := 7) (v := .int (i 1)) (C := RX7) (T := TX7) (N := 92) hx hb hts hinX7 hown hK hP 0 rfl rfl 1 (by decide) w_0 rfl rfl dX7_on_1 ?_
  refine lv_istore_n (lv' := [(1, .int (i 1)), (0, .ref h)]) hx hb dX7_on_4 rfl hl (by decide) rfl (fun ls hl => ?_)
  refine lv_aload_n hx hb dX7_on_5 rfl (lv_at hl 1 rfl) ?_
  refine lv_iconst (v := 0) hx hb dX7_on_6 (by decide +kernel) ?_
  refine k_put (D := (dC, dI)) (ci := 7) (v := .int 0) (C := RX7) (T := TX7) (N := 92) (ws' := [(h, .inr (7, oM r (upd i 1 0) j)), ((r 0), .inl (cI, 1800, .inl f0)), ((r 14), .inl (cI, 2, .inl f14)), ((r 30), .inl (cI, 2, .inl f30)), ((r 48), .inl (cI, 6, .inl f48)), ((r 49), .inl (cI, 22, .inl f49)), ((r 50), .inl (cI, 22, .inl f50)), ((r 51), .inl (cI, 22, .inl f51)), ((r 52), .inl (cI, 22, .inl f52)), ((r 53), .inl (cI, 22, .inl f53))]) hx hb hts hinX7 tyX7 tyX7_ok nmX7 hown hK hP hD hS 0 rfl rfl 1 (by decide) w_0 rfl rfl rfl rfl (Nat.le_of_ble_eq_true rfl) rfl dX7_on_7 (fun H locs hP hD hS => ?_)
  refine lv_aload_n hx hb dX7_on_10 rfl (lv_at hl 1 rfl) ?_
  refine lv_iload_n hx hb dX7_on_11 rfl (lv_at hl 0 rfl) ?_
  refine k_ci (wc := [(h, .inr (7, oM r (upd i 1 0) j)), ((r 0), .inl (cI, 1800, .inl f0)), ((r 14), .inl (cI, 2, .inl f14)), ((r 30), .inl (cI, 2, .inl f30))]) (wr := [((r 48), .inl (cI, 6, .inl f48)), ((r 49), .inl (cI, 22, .inl f49)), ((r 50), .inl (cI, 22, .inl f50)), ((r 51), .inl (cI, 22, .inl f51)), ((r 52), .inl (cI, 22, .inl f52)), ((r 53), .inl (cI, 22, .inl f53))]) (fun hPc hDc hFc => va_runV (As := [.int (i 1)]) (rest := []) ⟨hx, hb, hml, hown, hts⟩ (s_X7_canBe_v0 l dC dI cI cJ cZ cM h r (upd i 1 0) j (i 1) f0 f14 f30 (mR_upd 1 hI (show iR _ (loI 1) (hiI 1) from (iR_c (n := 0) (a := 0) (b := 1600) (by decide +kernel) (by decide +kernel)))) hf0 hf14 hf30 H.size) (cwV 1 hts gX7_on_X7_canBe rfl rfl rfl (by decide +kernel) ⟨(Nat.le_of_ble_eq_true rfl), (Nat.le_of_ble_eq_true rfl)⟩) (k_pV hPc hDc hK hN hC hS hFc hP (q0 := 0) (ci := 7) rfl rfl) rfl rfl hl.1 rfl (lv_room (Nat.le_of_ble_eq_true rfl)) dX7_on_12 ⟨(Nat.le_of_ble_eq_true rfl), (Nat.le_of_ble_eq_true rfl)⟩) hP hD hS hA [0, 1, 2, 3] [4, 5, 6, 7, 8, 9] rfl rfl rfl rfl (by decide) (fun _ => rfl) 0 0 rfl rfl (fun r_12 u_12 H locs hw hP hD hS => ?_)
  obtain ⟨g_12_0, g_12_1⟩ := hw
  have hP : va_P (dC, dI) vwCl [((r 48), .inl (cI, 6, .inl f48)), ((r 49), .inl (cI, 22, .inl f49)), ((r 50), .inl (cI, 22, .inl f50)), ((r 51), .inl (cI, 22, .inl f51)), ((r 52), .inl (cI, 22, .inl f52)), ((r 53), .inl (cI, 22, .inl f53)), (h, .inr (7, oM r (upd i 1 0) j)), ((r 0), .inl (cI, 1800, .inl f0)), ((r 14), .inl (cI, 2, .inl f14)), ((r 30), .inl (cI, 2, .inl f30))] H := hP
  have hD : va_D A [((r 48), .inl (cI, 6, .inl f48)), ((r 49), .inl (cI, 22, .inl f49)), ((r 50), .inl (cI, 22, .inl f50)), ((r 51), .inl (cI, 22, .inl f51)), ((r 52), .inl (cI, 22, .inl f52)), ((r 53), .inl (cI, 22, .inl f53)), (h, .inr (7, oM r (upd i 1 0) j)), ((r 0), .inl (cI, 1800, .inl f0)), ((r 14), .inl (cI, 2, .inl f14)), ((r 30), .inl (cI, 2, .inl f30))] := hD
  have g_12_1 : (r_12 = 0) ∨ (((w2b f0 4) ≤ (f30 (i 13).toNatClampNeg)) ∧ ((w2b f0 6) ≤ 1023) ∧ ((w2b f0 6).toInt < 2 ^ (f14 (i 13).toNatClampNeg).toInt.toNat)) := g_12_1
  refine lv_if_ne (tgt := 32) hx hb dX7_on_15 (by decide) (fun c_15 => ?_) (fun c_15 => ?_)
  · have c_15 : ¬ r_12 = 0 := c_15
    have f_32_2 : iR r_12 1 1 := iR_neL c_15 g_12_0 (iR_c (n := 0) (a := 0) (b := 0) (by decide +kernel) (by decide +kernel)) (by decide +kernel)
    obtain ⟨d_15_1_0, d_15_1_1, d_15_1_2⟩ := g_12_1.resolve_left c_15
    have f_32_3 : iR (w2b f0 4) (-2147483648) 999 := iR_leL d_15_1_0 (iR_top _) (show iR (f30 (i 13).toNatClampNeg) 0 999 from hf30 _) (by decide +kernel)
    have f_32_4 : iR (w2b f0 6) (-2147483648) 1023 := iR_leL d_15_1_1 (iR_top _) (iR_c (n := 1023) (a := 1023) (b := 1023) (by decide +kernel) (by decide +kernel)) (by decide +kernel)
    refine lv_aload_n hx hb dX7_on_32 rfl (lv_at hl 1 rfl) ?_
    refine k_get (D := (dC, dI)) (ci := 7) (v := .ref (r 52)) (C := RX7) (T := TX7) (N := 92) hx hb hts hinX7 hown hK hP 6 rfl rfl 52 (by decide) w_1 rfl rfl dX7_on_33 ?_
    refine lv_iconst (v := 0) hx hb dX7_on_36 (by decide +kernel) ?_
    refine lv_aload_n hx hb dX7_on_37 rfl (lv_at hl 1 rfl) ?_
    refine lv_iconst (v := 0) hx hb dX7_on_38 (by decide +kernel) ?_
    refine k_ci (wc := [(h, .inr (7, oM r (upd i 1 0) j)), ((r 0), .inl (cI, 1800, .inl f0))]) (wr := [((r 48), .inl (cI, 6, .inl f48)), ((r 49), .inl (cI, 22, .inl f49)), ((r 50), .inl (cI, 22, .inl f50)), ((r 51), .inl (cI, 22, .inl f51)), ((r 52), .inl (cI, 22, .inl f52)), ((r 53), .inl (cI, 22, .inl f53)), ((r 14), .inl (cI, 2, .inl f14)), ((r 30), .inl (cI, 2, .inl f30))]) (fun hPc hDc hFc => va_runV (As := [.int 0]) (rest := [.int 0, .ref (r 52)]) ⟨hx, hb, hml, hown, hts⟩ (s_X7_twoBytes_v0 l dC dI cI cJ cZ cM h r (upd i 1 0) j f0 (mR_upd 1 hI (show iR _ (loI 1) (hiI 1) from (iR_c (n := 0) (a := 0) (b := 1600) (by decide +kernel) (by decide +kernel)))) hf0 H.size) (cwV 1 hts gX7_on_X7_twoBytes rfl rfl rfl (by decide +kernel) ⟨(Nat.le_of_ble_eq_true rfl), (Nat.le_of_ble_eq_true rfl)⟩) (k_pV hPc hDc hK hN hC hS hFc hP (q0 := 6) (ci := 7) rfl rfl) rfl rfl hl.1 rfl (lv_room (Nat.le_of_ble_eq_true rfl)) dX7_on_39 ⟨(Nat.le_of_ble_eq_true rfl), (Nat.le_of_ble_eq_true rfl)⟩) hP hD hS hA [6, 7] [0, 1, 2, 3, 4, 5, 8, 9] rfl rfl rfl rfl (by decide) (fun _ => rfl) 0 0 rfl rfl (fun r_39 u_39 H locs hw hP hD hS => ?_)
    obtain ⟨g_39_0, g_39_1⟩ := hw
    obtain rfl : (w2b f0 0) = r_39 := g_39_1.symm
    have hP : va_P (dC, dI) vwCl [((r 48), .inl (cI, 6, .inl f48)), ((r 49), .inl (cI, 22, .inl f49)), ((r 50), .inl (cI, 22, .inl f50)), ((r 51), .inl (cI, 22, .inl f51)), ((r 52), .inl (cI, 22, .inl f52)), ((r 53), .inl (cI, 22, .inl f53)), ((r 14), .inl (cI, 2, .inl f14)), ((r 30), .inl (cI, 2, .inl f30)), (h, .inr (7, oM r (upd i 1 0) j)), ((r 0), .inl (cI, 1800, .inl f0))] H := hP
    have hD : va_D A [((r 48), .inl (cI, 6, .inl f48)), ((r 49), .inl (cI, 22, .inl f49)), ((r 50), .inl (cI, 22, .inl f50)), ((r 51), .inl (cI, 22, .inl f51)), ((r 52), .inl (cI, 22, .inl f52)), ((r 53), .inl (cI, 22, .inl f53)), ((r 14), .inl (cI, 2, .inl f14)), ((r 30), .inl (cI, 2, .inl f30)), (h, .inr (7, oM r (upd i 1 0) j)), ((r 0), .inl (cI, 1800, .inl f0))] := hD
    refine k_iast (g := (upd f52 0 (w2b f0 0))) (ws' := [((r 48), .inl (cI, 6, .inl f48)), ((r 49), .inl (cI, 22, .inl f49)), ((r 50), .inl (cI, 22, .inl f50)), ((r 51), .inl (cI, 22, .inl f51)), ((r 52), .inl (cI, 22, .inl (upd f52 0 (w2b f0 0)))), ((r 53), .inl (cI, 22, .inl f53)), ((r 14), .inl (cI, 2, .inl f14)), ((r 30), .inl (cI, 2, .inl f30)), (h, .inr (7, oM r (upd i 1 0) j)), ((r 0), .inl (cI, 1800, .inl f0))]) hx hb hK hP hD hS 4 0 0 rfl rfl rfl (Nat.le_of_ble_eq_true rfl) (Nat.le_of_ble_eq_true rfl) rfl rfl dX7_on_42 (fun H locs hP hD hS => ?_)
    refine lv_aload_n hx hb dX7_on_43 rfl (lv_at hl 1 rfl) ?_
    refine k_get (D := (dC, dI)) (ci := 7) (v := .ref (r 51)) (C := RX7) (T := TX7) (N := 92) hx hb hts hinX7 hown hK hP 8 rfl rfl 51 (by decide) w_2 rfl rfl dX7_on_44 ?_
    refine lv_iconst (v := 0) hx hb dX7_on_47 (by decide +kernel) ?_
    refine lv_aload_n hx hb dX7_on_48 rfl (lv_at hl 1 rfl) ?_
    refine lv_iconst (v := 2) hx hb dX7_on_49 (by decide +kernel) ?_
    refine k_ci (wc := [(h, .inr (7, oM r (upd i 1 0) j)), ((r 0), .inl (cI, 1800, .inl f0))]) (wr := [((r 48), .inl (cI, 6, .inl f48)), ((r 49), .inl (cI, 22, .inl f49)), ((r 50), .inl (cI, 22, .inl f50)), ((r 51), .inl (cI, 22, .inl f51)), ((r 52), .inl (cI, 22, .inl (upd f52 0 (w2b f0 0)))), ((r 53), .inl (cI, 22, .inl f53)), ((r 14), .inl (cI, 2, .inl f14)), ((r 30), .inl (cI, 2, .inl f30))]) (fun hPc hDc hFc => va_runV (As := [.int 2]) (rest := [.int 0, .ref (r 51)]) ⟨hx, hb, hml, hown, hts⟩ (s_X7_twoBytes_v1 l dC dI cI cJ cZ cM h r (upd i 1 0) j f0 (mR_upd 1 hI (show iR _ (loI 1) (hiI 1) from (iR_c (n := 0) (a := 0) (b := 1600) (by decide +kernel) (by decide +kernel)))) hf0 H.size) (cwV 1 hts gX7_on_X7_twoBytes rfl rfl rfl (by decide +kernel) ⟨(Nat.le_of_ble_eq_true rfl), (Nat.le_of_ble_eq_true rfl)⟩) (k_pV hPc hDc hK hN hC hS hFc hP (q0 := 8) (ci := 7) rfl rfl) rfl rfl hl.1 rfl (lv_room (Nat.le_of_ble_eq_true rfl)) dX7_on_50 ⟨(Nat.le_of_ble_eq_true rfl), (Nat.le_of_ble_eq_true rfl)⟩) hP hD hS hA [8, 9] [0, 1, 2, 3, 4, 5, 6, 7] rfl rfl rfl rfl (by decide) (fun _ => rfl) 0 0 rfl rfl (fun r_50 u_50 H locs hw hP hD hS => ?_)
    obtain ⟨g_50_0, g_50_1⟩ := hw
    obtain rfl : (w2b f0 2) = r_50 := g_50_1.symm
    have hP : va_P (dC, dI) vwCl [((r 48), .inl (cI, 6, .inl f48)), ((r 49), .inl (cI, 22, .inl f49)), ((r 50), .inl (cI, 22, .inl f50)), ((r 51), .inl (cI, 22, .inl f51)), ((r 52), .inl (cI, 22, .inl (upd f52 0 (w2b f0 0)))), ((r 53), .inl (cI, 22, .inl f53)), ((r 14), .inl (cI, 2, .inl f14)), ((r 30), .inl (cI, 2, .inl f30)), (h, .inr (7, oM r (upd i 1 0) j)), ((r 0), .inl (cI, 1800, .inl f0))] H := hP
    have hD : va_D A [((r 48), .inl (cI, 6, .inl f48)), ((r 49), .inl (cI, 22, .inl f49)), ((r 50), .inl (cI, 22, .inl f50)), ((r 51), .inl (cI, 22, .inl f51)), ((r 52), .inl (cI, 22, .inl (upd f52 0 (w2b f0 0)))), ((r 53), .inl (cI, 22, .inl f53)), ((r 14), .inl (cI, 2, .inl f14)), ((r 30), .inl (cI, 2, .inl f30)), (h, .inr (7, oM r (upd i 1 0) j)), ((r 0), .inl (cI, 1800, .inl f0))] := hD
    refine k_iast (g := (upd f51 0 (w2b f0 2))) (ws' := [((r 48), .inl (cI, 6, .inl f48)), ((r 49), .inl (cI, 22, .inl f49)), ((r 50), .inl (cI, 22, .inl f50)), ((r 51), .inl (cI, 22, .inl (upd f51 0 (w2b f0 2)))), ((r 52), .inl (cI, 22, .inl (upd f52 0 (w2b f0 0)))), ((r 53), .inl (cI, 22, .inl f53)), ((r 14), .inl (cI, 2, .inl f14)), ((r 30), .inl (cI, 2, .inl f30)), (h, .inr (7, oM r (upd i 1 0) j)), ((r 0), .inl (cI, 1800, .inl f0))]) hx hb hK hP hD hS 3 0 0 rfl rfl rfl (Nat.le_of_ble_eq_true rfl) (Nat.le_of_ble_eq_true rfl) rfl rfl dX7_on_53 (fun H locs hP hD hS => ?_)
    refine lv_aload_n hx hb dX7_on_54 rfl (lv_at hl 1 rfl) ?_
    refine k_get (D := (dC, dI)) (ci := 7) (v := .ref (r 50)) (C := RX7) (T := TX7) (N := 92) hx hb hts hinX7 hown hK hP 8 rfl rfl 50 (by decide) w_3 rfl rfl dX7_on_55 ?_
    refine lv_iconst (v := 0) hx hb dX7_on_58 (by decide +kernel) ?_
    refine lv_aload_n hx hb dX7_on_59 rfl (lv_at hl 1 rfl) ?_
    refine lv_iconst (v := 4) hx hb dX7_on_60 (by decide +kernel) ?_
    refine k_ci (wc := [(h, .inr (7, oM r (upd i 1 0) j)), ((r 0), .inl (cI, 1800, .inl f0))]) (wr := [((r 48), .inl (cI, 6, .inl f48)), ((r 49), .inl (cI, 22, .inl f49)), ((r 50), .inl (cI, 22, .inl f50)), ((r 51), .inl (cI, 22, .inl (upd f51 0 (w2b f0 2)))), ((r 52), .inl (cI, 22, .inl (upd f52 0 (w2b f0 0)))), ((r 53), .inl (cI, 22, .inl f53)), ((r 14), .inl (cI, 2, .inl f14)), ((r 30), .inl (cI, 2, .inl f30))]) (fun hPc hDc hFc => va_runV (As := [.int 4]) (rest := [.int 0, .ref (r 50)]) ⟨hx, hb, hml, hown, hts⟩ (s_X7_twoBytes_v2 l dC dI cI cJ cZ cM h r (upd i 1 0) j f0 (mR_upd 1 hI (show iR _ (loI 1) (hiI 1) from (iR_c (n := 0) (a := 0) (b := 1600) (by decide +kernel) (by decide +kernel)))) hf0 H.size) (cwV 1 hts gX7_on_X7_twoBytes rfl rfl rfl (by decide +kernel) ⟨(Nat.le_of_ble_eq_true rfl), (Nat.le_of_ble_eq_true rfl)⟩) (k_pV hPc hDc hK hN hC hS hFc hP (q0 := 8) (ci := 7) rfl rfl) rfl rfl hl.1 rfl (lv_room (Nat.le_of_ble_eq_true rfl)) dX7_on_61 ⟨(Nat.le_of_ble_eq_true rfl), (Nat.le_of_ble_eq_true rfl)⟩) hP hD hS hA [8, 9] [0, 1, 2, 3, 4, 5, 6, 7] rfl rfl rfl rfl (by decide) (fun _ => rfl) 0 0 rfl rfl (fun r_61 u_61 H locs hw hP hD hS => ?_)
    obtain ⟨g_61_0, g_61_1⟩ := hw
    obtain rfl : (w2b f0 4) = r_61 := g_61_1.symm
    have hP : va_P (dC, dI) vwCl [((r 48), .inl (cI, 6, .inl f48)), ((r 49), .inl (cI, 22, .inl f49)), ((r 50), .inl (cI, 22, .inl f50)), ((r 51), .inl (cI, 22, .inl (upd f51 0 (w2b f0 2)))), ((r 52), .inl (cI, 22, .inl (upd f52 0 (w2b f0 0)))), ((r 53), .inl (cI, 22, .inl f53)), ((r 14), .inl (cI, 2, .inl f14)), ((r 30), .inl (cI, 2, .inl f30)), (h, .inr (7, oM r (upd i 1 0) j)), ((r 0), .inl (cI, 1800, .inl f0))] H := hP
    have hD : va_D A [((r 48), .inl (cI, 6, .inl f48)), ((r 49), .inl (cI, 22, .inl f49)), ((r 50), .inl (cI, 22, .inl f50)), ((r 51), .inl (cI, 22, .inl (upd f51 0 (w2b f0 2)))), ((r 52), .inl (cI, 22, .inl (upd f52 0 (w2b f0 0)))), ((r 53), .inl (cI, 22, .inl f53)), ((r 14), .inl (cI, 2, .inl f14)), ((r 30), .inl (cI, 2, .inl f30)), (h, .inr (7, oM r (upd i 1 0) j)), ((r 0), .inl (cI, 1800, .inl f0))] := hD
    have f_61_5 : iR (w2b f0 4) 0 999 := iR_both g_61_0 f_32_3 (by decide +kernel)
    refine k_iast (g := (upd f50 0 (w2b f0 4))) (ws' := [((r 48), .inl (cI, 6, .inl f48)), ((r 49), .inl (cI, 22, .inl f49)), ((r 50), .inl (cI, 22, .inl (upd f50 0 (w2b f0 4)))), ((r 51), .inl (cI, 22, .inl (upd f51 0 (w2b f0 2)))), ((r 52), .inl (cI, 22, .inl (upd f52 0 (w2b f0 0)))), ((r 53), .inl (cI, 22, .inl f53)), ((r 14), .inl (cI, 2, .inl f14)), ((r 30), .inl (cI, 2, .inl f30)), (h, .inr (7, oM r (upd i 1 0) j)), ((r 0), .inl (cI, 1800, .inl f0))]) hx hb hK hP hD hS 2 0 0 rfl rfl rfl (Nat.le_of_ble_eq_true rfl) (Nat.le_of_ble_eq_true rfl) rfl rfl dX7_on_64 (fun H locs hP hD hS => ?_)
    refine lv_aload_n hx hb dX7_on_65 rfl (lv_at hl 1 rfl) ?_
    refine k_get (D := (dC, dI)) (ci := 7) (v := .ref (r 49)) (C := RX7) (T := TX7) (N := 92) hx hb hts hinX7 hown hK hP 8 rfl rfl 49 (by decide) w_4 rfl rfl dX7_on_66 ?_
    refine lv_iconst (v := 0) hx hb dX7_on_69 (by decide +kernel) ?_
    refine lv_aload_n hx hb dX7_on_70 rfl (lv_at hl 1 rfl) ?_
    refine lv_bipush (v := 6) hx hb dX7_on_71 (by decide +kernel) ?_
    refine k_ci (wc := [(h, .inr (7, oM r (upd i 1 0) j)), ((r 0), .inl (cI, 1800, .inl f0))]) (wr := [((r 48), .inl (cI, 6, .inl f48)), ((r 49), .inl (cI, 22, .inl f49)), ((r 50), .inl (cI, 22, .inl (upd f50 0 (w2b f0 4)))), ((r 51), .inl (cI, 22, .inl (upd f51 0 (w2b f0 2)))), ((r 52), .inl (cI, 22, .inl (upd f52 0 (w2b f0 0)))), ((r 53), .inl (cI, 22, .inl f53)), ((r 14), .inl (cI, 2, .inl f14)), ((r 30), .inl (cI, 2, .inl f30))]) (fun hPc hDc hFc => va_runV (As := [.int 6]) (rest := [.int 0, .ref (r 49)]) ⟨hx, hb, hml, hown, hts⟩ (s_X7_twoBytes_v3 l dC dI cI cJ cZ cM h r (upd i 1 0) j f0 (mR_upd 1 hI (show iR _ (loI 1) (hiI 1) from (iR_c (n := 0) (a := 0) (b := 1600) (by decide +kernel) (by decide +kernel)))) hf0 H.size) (cwV 1 hts gX7_on_X7_twoBytes rfl rfl rfl (by decide +kernel) ⟨(Nat.le_of_ble_eq_true rfl), (Nat.le_of_ble_eq_true rfl)⟩) (k_pV hPc hDc hK hN hC hS hFc hP (q0 := 8) (ci := 7) rfl rfl) rfl rfl hl.1 rfl (lv_room (Nat.le_of_ble_eq_true rfl)) dX7_on_73 ⟨(Nat.le_of_ble_eq_true rfl), (Nat.le_of_ble_eq_true rfl)⟩) hP hD hS hA [8, 9] [0, 1, 2, 3, 4, 5, 6, 7] rfl rfl rfl rfl (by decide) (fun _ => rfl) 0 0 rfl rfl (fun r_73 u_73 H locs hw hP hD hS => ?_)
    obtain ⟨g_73_0, g_73_1⟩ := hw
    obtain rfl : (w2b f0 6) = r_73 := g_73_1.symm
    have hP : va_P (dC, dI) vwCl [((r 48), .inl (cI, 6, .inl f48)), ((r 49), .inl (cI, 22, .inl f49)), ((r 50), .inl (cI, 22, .inl (upd f50 0 (w2b f0 4)))), ((r 51), .inl (cI, 22, .inl (upd f51 0 (w2b f0 2)))), ((r 52), .inl (cI, 22, .inl (upd f52 0 (w2b f0 0)))), ((r 53), .inl (cI, 22, .inl f53)), ((r 14), .inl (cI, 2, .inl f14)), ((r 30), .inl (cI, 2, .inl f30)), (h, .inr (7, oM r (upd i 1 0) j)), ((r 0), .inl (cI, 1800, .inl f0))] H := hP
    have hD : va_D A [((r 48), .inl (cI, 6, .inl f48)), ((r 49), .inl (cI, 22, .inl f49)), ((r 50), .inl (cI, 22, .inl (upd f50 0 (w2b f0 4)))), ((r 51), .inl (cI, 22, .inl (upd f51 0 (w2b f0 2)))), ((r 52), .inl (cI, 22, .inl (upd f52 0 (w2b f0 0)))), ((r 53), .inl (cI, 22, .inl f53)), ((r 14), .inl (cI, 2, .inl f14)), ((r 30), .inl (cI, 2, .inl f30)), (h, .inr (7, oM r (upd i 1 0) j)), ((r 0), .inl (cI, 1800, .inl f0))] := hD
    have f_73_6 : iR (w2b f0 6) 0 1023 := iR_both g_73_0 f_32_4 (by decide +kernel)
    refine k_iast (g := (upd f49 0 (w2b f0 6))) (ws' := [((r 48), .inl (cI, 6, .inl f48)), ((r 49), .inl (cI, 22, .inl (upd f49 0 (w2b f0 6)))), ((r 50), .inl (cI, 22, .inl (upd f50 0 (w2b f0 4)))), ((r 51), .inl (cI, 22, .inl (upd f51 0 (w2b f0 2)))), ((r 52), .inl (cI, 22, .inl (upd f52 0 (w2b f0 0)))), ((r 53), .inl (cI, 22, .inl f53)), ((r 14), .inl (cI, 2, .inl f14)), ((r 30), .inl (cI, 2, .inl f30)), (h, .inr (7, oM r (upd i 1 0) j)), ((r 0), .inl (cI, 1800, .inl f0))]) hx hb hK hP hD hS 1 0 0 rfl rfl rfl (Nat.le_of_ble_eq_true rfl) (Nat.le_of_ble_eq_true rfl) rfl rfl dX7_on_76 (fun H locs hP hD hS => ?_)
    refine lv_aload_n hx hb dX7_on_77 rfl (lv_at hl 1 rfl) ?_
    refine k_get (D := (dC, dI)) (ci := 7) (v := .ref (r 53)) (C := RX7) (T := TX7) (N := 92) hx hb hts hinX7 hown hK hP 8 rfl rfl 53 (by decide) w_5 rfl rfl dX7_on_78 ?_
    refine lv_iconst (v := 0) hx hb dX7_on_81 (by decide +kernel) ?_
    refine lv_iconst (v := 0) hx hb dX7_on_82 (by decide +kernel) ?_
    refine k_iast (g := (upd f53 0 0)) (ws' := [((r 48), .inl (cI, 6, .inl f48)), ((r 49), .inl (cI, 22, .inl (upd f49 0 (w2b f0 6)))), ((r 50), .inl (cI, 22, .inl (upd f50 0 (w2b f0 4)))), ((r 51), .inl (cI, 22, .inl (upd f51 0 (w2b f0 2)))), ((r 52), .inl (cI, 22, .inl (upd f52 0 (w2b f0 0)))), ((r 53), .inl (cI, 22, .inl (upd f53 0 0))), ((r 14), .inl (cI, 2, .inl f14)), ((r 30), .inl (cI, 2, .inl f30)), (h, .inr (7, oM r (upd i 1 0) j)), ((r 0), .inl (cI, 1800, .inl f0))]) hx hb hK hP hD hS 5 0 0 rfl rfl rfl (Nat.le_of_ble_eq_true rfl) (Nat.le_of_ble_eq_true rfl) rfl rfl dX7_on_83 (fun H locs hP hD hS => ?_)
    refine lv_aload_n hx hb dX7_on_84 rfl (lv_at hl 1 rfl) ?_
    refine lv_iconst (v := 0) hx hb dX7_on_85 (by decide +kernel) ?_
    refine k_put (D := (dC, dI)) (ci := 7) (v := .int 0) (C := RX7) (T := TX7) (N := 92) (ws' := [((r 48), .inl (cI, 6, .inl f48)), ((r 49), .inl (cI, 22, .inl (upd f49 0 (w2b f0 6)))), ((r 50), .inl (cI, 22, .inl (upd f50 0 (w2b f0 4)))), ((r 51), .inl (cI, 22, .inl (upd f51 0 (w2b f0 2)))), ((r 52), .inl (cI, 22, .inl (upd f52 0 (w2b f0 0)))), ((r 53), .inl (cI, 22, .inl (upd f53 0 0))), ((r 14), .inl (cI, 2, .inl f14)), ((r 30), .inl (cI, 2, .inl f30)), (h, .inr (7, oM r (upd (upd i 1 0) 59 0) j)), ((r 0), .inl (cI, 1800, .inl f0))]) hx hb hts hinX7 tyX7 tyX7_ok nmX7 hown hK hP hD hS 8 rfl rfl 59 (by decide) w_6 rfl rfl rfl rfl (Nat.le_of_ble_eq_true rfl) rfl dX7_on_86 (fun H locs hP hD hS => ?_)
    refine lv_iconst (v := 1) hx hb dX7_on_89 (by decide +kernel) ?_
    exact k_ri B hP hD hS dX7_on_90 ((fun k9 => match k9 with | 0 => 0 | _ => 0), (fun _ => 0), (fun k9 => match k9 with | 0 => f48 | 1 => (upd f49 0 (w2b f0 6)) | 2 => (upd f50 0 (w2b f0 4)) | 3 => (upd f51 0 (w2b f0 2)) | 4 => (upd f52 0 (w2b f0 0)) | 5 => (upd f53 0 0) | _ => (fun _ => 0)), (fun _ => (fun _ => 0)), (fun _ => 0)) [8, 9, 6, 7, 0, 1, 2, 3, 4, 5] rfl rfl rfl (Nat.le_of_ble_eq_true rfl) (Nat.le_of_ble_eq_true rfl) ⟨(show iR 1 0 1 from (iR_c (n := 1) (a := 0) (b := 1) (by decide +kernel) (by decide +kernel))), (show iR 0 0 20 from (iR_c (n := 0) (a := 0) (b := 20) (by decide +kernel) (by decide +kernel))), (show aR (upd f49 0 (w2b f0 6)) 0 1023 from (aR_upd _ hf49 f_73_6)), (show aR (upd f50 0 (w2b f0 4)) 0 999 from (aR_upd _ hf50 f_61_5)), (show aR (upd f53 0 0) 0 50 from (aR_upd _ hf53 (iR_c (n := 0) (a := 0) (b := 50) (by decide +kernel) (by decide +kernel)))), (show JH f14 f49 (i 13).toNatClampNeg (i 58) (i 59) → JH f14 (upd f49 0 (w2b f0 6)) (i 13).toNatClampNeg (i 58) 0 from (fun hj => ⟨HV_at d_15_1_2, HU_none (by decide)⟩))⟩
  · have c_15 : r_12 = 0 := c_15
    have f_18_2 : iR r_12 0 0 := iR_eqL c_15 g_12_0 (iR_c (n := 0) (a := 0) (b := 0) (by decide +kernel) (by decide +kernel)) (by decide +kernel)
    refine lv_aload_n hx hb dX7_on_18 rfl (lv_at hl 1 rfl) ?_
    refine lv_iconst (v := 5) hx hb dX7_on_19 (by decide +kernel) ?_
    refine k_ci (wc := [(h, .inr (7, oM r (upd i 1 0) j)), ((r 48), .inl (cI, 6, .inl f48))]) (wr := [((r 49), .inl (cI, 22, .inl f49)), ((r 50), .inl (cI, 22, .inl f50)), ((r 51), .inl (cI, 22, .inl f51)), ((r 52), .inl (cI, 22, .inl f52)), ((r 53), .inl (cI, 22, .inl f53)), ((r 0), .inl (cI, 1800, .inl f0)), ((r 14), .inl (cI, 2, .inl f14)), ((r 30), .inl (cI, 2, .inl f30))]) (fun hPc hDc hFc => va_runV (As := [.int 5]) (rest := []) ⟨hx, hb, hml, hown, hts⟩ (s_X7_refuses_v0 l dC dI cI cJ cZ cM h r (upd i 1 0) j 5 f48 (iR_c (n := 5) (a := 0) (b := 5) (by decide +kernel) (by decide +kernel)) (mR_upd 1 hI (show iR _ (loI 1) (hiI 1) from (iR_c (n := 0) (a := 0) (b := 1600) (by decide +kernel) (by decide +kernel)))) H.size) (cwV 1 hts gX7_on_X7_refuses rfl rfl rfl (by decide +kernel) ⟨(Nat.le_of_ble_eq_true rfl), (Nat.le_of_ble_eq_true rfl)⟩) (k_pV hPc hDc hK hN hC hS hFc hP (q0 := 6) (ci := 7) rfl rfl) rfl rfl hl.1 rfl (lv_room (Nat.le_of_ble_eq_true rfl)) dX7_on_20 ⟨(Nat.le_of_ble_eq_true rfl), (Nat.le_of_ble_eq_true rfl)⟩) hP hD hS hA [6, 0] [1, 2, 3, 4, 5, 7, 8, 9] rfl rfl rfl rfl (by decide) (fun _ => rfl) 0 0 rfl rfl (fun r_20 u_20 H locs hw hP hD hS => ?_)
    have g_20_0 := hw
    obtain rfl : (-1) = r_20 := g_20_0.symm
    have hP : va_P (dC, dI) vwCl [((r 49), .inl (cI, 22, .inl f49)), ((r 50), .inl (cI, 22, .inl f50)), ((r 51), .inl (cI, 22, .inl f51)), ((r 52), .inl (cI, 22, .inl f52)), ((r 53), .inl (cI, 22, .inl f53)), ((r 0), .inl (cI, 1800, .inl f0)), ((r 14), .inl (cI, 2, .inl f14)), ((r 30), .inl (cI, 2, .inl f30)), (h, .inr (7, oM r (upd i 1 0) j)), ((r 48), .inl (cI, 6, .inl (u_20.2.2.1 0)))] H := hP
    have hD : va_D A [((r 49), .inl (cI, 22, .inl f49)), ((r 50), .inl (cI, 22, .inl f50)), ((r 51), .inl (cI, 22, .inl f51)), ((r 52), .inl (cI, 22, .inl f52)), ((r 53), .inl (cI, 22, .inl f53)), ((r 0), .inl (cI, 1800, .inl f0)), ((r 14), .inl (cI, 2, .inl f14)), ((r 30), .inl (cI, 2, .inl f30)), (h, .inr (7, oM r (upd i 1 0) j)), ((r 48), .inl (cI, 6, .inl (u_20.2.2.1 0)))] := hD
    refine lv_if_lt (tgt := 30) hx hb dX7_on_23 (by decide) (fun _ => ?_) (fun q9 => absurd q9 (by decide +kernel))
    refine lv_iconst (v := 0) hx hb dX7_on_30 (by decide +kernel) ?_
    exact k_ri B hP hD hS dX7_on_31 ((fun k9 => match k9 with | 0 => (i 59) | _ => 0), (fun _ => 0), (fun k9 => match k9 with | 0 => (u_20.2.2.1 0) | 1 => f49 | 2 => f50 | 3 => f51 | 4 => f52 | 5 => f53 | _ => (fun _ => 0)), (fun _ => (fun _ => 0)), (fun _ => 0)) [8, 5, 6, 7, 9, 0, 1, 2, 3, 4] rfl rfl rfl (Nat.le_of_ble_eq_true rfl) (Nat.le_of_ble_eq_true rfl) ⟨(show iR 0 0 1 from (iR_c (n := 0) (a := 0) (b := 1) (by decide +kernel) (by decide +kernel))), (show iR (i 59) 0 20 from (hI 59)), (show aR f49 0 1023 from hf49), (show aR f50 0 999 from hf50), (show aR f53 0 50 from hf53), (show JH f14 f49 (i 13).toNatClampNeg (i 58) (i 59) → JH f14 f49 (i 13).toNatClampNeg (i 58) (i 59) from (fun h => h))⟩
set_option maxHeartbeats 8000000 in
set_option maxRecDepth 100000 in
theorem s_X7_status_v0 (l : Launch) (dC : Nat → ClassId) (dI : Nat → Nat → Nat) (cI cJ cZ cM : ClassId) (h : Nat) (r : Nat → Nat) (i : Nat → Int32) (j : Nat → Int64) (x1 : Int32) (f48 : Nat → Int32) (hI : mR i) : k_Mi l yX7_status wsX7_status ({ frames := 2, cells := 0, slots := 0, locals := 62 }) (dC, dI) vwCl (tyy cI cJ cZ cM) [(h, .inr (7, oM r i j)), ((r 48), .inl (cI, 6, .inl f48))] [.ref h, .int x1] 0 0 (fun (u9 : Unit) => [(h, .inr (7, oM r i j)), ((r 48), .inl (cI, 6, .inl f48))]) (fun (r9 : Int32) (u9 : Unit) => True) := by
  refine fun sz => k_enter (cc := cX7_status) (maxL := 2) (ret := some (.int)) (Qc := fun A => va_Qi (fun (r9 : Int32) (u9 : Unit) => True) (fun u => k_B (dC, dI) vwCl (tyy cI cJ cZ cM) A ((fun (u9 : Unit) => [(h, .inr (7, oM r i j)), ((r 48), .inl (cI, 6, .inl f48))]) u)) A) sz (by decide +kernel) rfl (Nat.le_of_ble_eq_true rfl) (fun p e s m args below meth c A ls H locs B hP hD hS hl => ?_)
  obtain ⟨hx, hb, hml, hown, hts, hr, hlk, hnm, hK, hA, hN, hC⟩ := id B
  have hown : s.vm.findClass RX7 = some m.cls := hown
  have hl : lv_has ls 2 [(0, .ref h), (1, .int x1)] := hl
  have w_0 : (Cond.fieldLink RX7 159 "WishSeaModel" "refused" "[I").before args s = true := hts _ (List.mem_of_getElem? (i := 1) rfl)
  have hinX7 : ∀ w ∈ u_ws RX7 TX7 92, w ∈ wsX7_status := fun _ h => List.mem_cons_of_mem _ (List.mem_append_right _ h)
  refine lv_iload_n hx hb dX7_status_0 rfl (lv_at hl 1 rfl) ?_
  refine lv_iconst (v := 0) hx hb dX7_status_1 (by decide +kernel) ?_
  refine lv_iconst (v := 5) hx hb dX7_status_2 (by decide +kernel) ?_
  refine k_ci (wc := []) (wr := [(h, .inr (7, oM r i j)), ((r 48), .inl (cI, 6, .inl f48))]) (fun hPc hDc hFc => va_runS (As := [.int x1, .int 0, .int 5]) (rest := []) ⟨hx, hb, hml, hown, hts⟩ (s_X7_is_v0 l dC dI cI cJ cZ cM x1 0 5 H.size) (va_cwS 3 hts gX7_status_X7_is rfl rfl rfl (by decide +kernel) ⟨(Nat.le_of_ble_eq_true rfl), (Nat.le_of_ble_eq_true rfl)⟩) (k_pS hPc hDc hK hN hC hS hFc) rfl rfl hl.1 rfl (lv_room (Nat.le_of_ble_eq_true rfl)) dX7_status_3 ⟨(Nat.le_of_ble_eq_true rfl), (Nat.le_of_ble_eq_true rfl)⟩) hP hD hS hA [] [0, 1] rfl rfl rfl rfl (by decide) (fun _ => rfl) 0 0 rfl rfl (fun r_3 u_3 H locs hw hP hD hS => ?_)
  obtain ⟨g_3_0, g_3_1⟩ := hw
  have hP : va_P (dC, dI) vwCl [(h, .inr (7, oM r i j)), ((r 48), .inl (cI, 6, .inl f48))] H := hP
  have hD : va_D A [(h, .inr (7, oM r i j)), ((r 48), .inl (cI, 6, .inl f48))] := hD
  have g_3_1 : (r_3 = 0) ∨ ((0 ≤ x1) ∧ (x1 ≤ 5)) := g_3_1
  refine lv_if_eq (tgt := 18) hx hb dX7_status_6 (by decide) (fun c_6 => ?_) (fun c_6 => ?_)
  · have c_6 : r_3 = 0 := c_6
    have f_18_1 : iR r_3 0 0 := iR_eqL c_6 g_3_0 (iR_c (n := 0) (a := 0) (b := 0) (by decide +kernel) (by decide +kernel)) (by decide +kernel)
    refine lv_iconst (v := (-1)) hx hb dX7_status_18 (by decide +kernel) ?_
    exact k_ri B hP hD hS dX7_status_19 () [0, 1] rfl rfl rfl (Nat.le_of_ble_eq_true rfl) (Nat.le_of_ble_eq_true rfl) trivial
  · have c_6 : ¬ r_3 = 0 := c_6
    have f_9_1 : iR r_3 1 1 := iR_neL c_6 g_3_0 (iR_c (n := 0) (a := 0) (b := 0) (by decide +kernel) (by decide +kernel)) (by decide +kernel)
    obtain ⟨d_6_1_0, d_6_1_1⟩ := g_3_1.resolve_left c_6
    have f_9_2 : iR x1 0 2147483647 := iR_leR d_6_1_0 (iR_c (n := 0) (a := 0) (b := 0) (by decide +kernel) (by decide +kernel)) (iR_top _) (by decide +kernel)
    have f_9_3 : iR x1 0 5 := iR_leL d_6_1_1 f_9_2 (iR_c (n := 5) (a := 5) (b := 5) (by decide +kernel) (by decide +kernel)) (by decide +kernel)
    refine lv_aload_n hx hb dX7_status_9 rfl (lv_at hl 0 rfl) ?_
    refine k_get (D := (dC, dI)) (ci := 7) (v := .ref (r 48)) (C := RX7) (T := TX7) (N := 92) hx hb hts hinX7 hown hK hP 0 rfl rfl 48 (by decide) w_0 rfl rfl dX7_status_10 ?_
    refine lv_iload_n hx hb dX7_status_13 rfl (lv_at hl 1 rfl) ?_
    refine va_iald hx hb hK hP 1 0 rfl rfl (iR_vp f_9_3 (by decide +kernel)) dX7_status_14 ?_
    refine lv_goto (tgt := 19) hx hb dX7_status_15 (by decide) ?_
    exact k_ri B hP hD hS dX7_status_19 () [0, 1] rfl rfl rfl (Nat.le_of_ble_eq_true rfl) (Nat.le_of_ble_eq_true rfl) trivial
