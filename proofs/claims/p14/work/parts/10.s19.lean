set_option maxHeartbeats 8000000 in
set_option maxRecDepth 100000 in
theorem s_X7_seed_v0 (l : Launch) (dC : Nat → ClassId) (dI : Nat → Nat → Nat) (cI cJ cZ cM : ClassId) (h : Nat) (r : Nat → Nat) (i : Nat → Int32) (j : Nat → Int64) (x1 : Int32) (f48 : Nat → Int32) (hI : mR i) (hJ60 : lR (j 60) 0 2147483647) : k_Mi l yX7_seed wsX7_seed ({ frames := 2, cells := 0, slots := 0, locals := 61 }) (dC, dI) vwCl (tyy cI cJ cZ cM) [(h, .inr (7, oM r i j)), ((r 48), .inl (cI, 6, .inl f48))] [.ref h, .int x1] 0 0 (fun (u9 : SU) => [(h, .inr (7, oM r i (vp_updL j 60 (u9.2.1 0)))), ((r 48), .inl (cI, 6, .inl (u9.2.2.1 0)))]) (fun (r9 : Int32) (u9 : SU) => (iR r9 0 1) ∧ (lR (u9.2.1 0) 0 2147483647)) := by
  refine fun sz => k_enter (cc := cX7_seed) (maxL := 2) (ret := some (.boolean)) (Qc := fun A => va_Qi (fun (r9 : Int32) (u9 : SU) => (iR r9 0 1) ∧ (lR (u9.2.1 0) 0 2147483647)) (fun u => k_B (dC, dI) vwCl (tyy cI cJ cZ cM) A ((fun (u9 : SU) => [(h, .inr (7, oM r i (vp_updL j 60 (u9.2.1 0)))), ((r 48), .inl (cI, 6, .inl (u9.2.2.1 0)))]) u)) A) sz (by decide +kernel) rfl (Nat.le_of_ble_eq_true rfl) (fun p e s m args below meth c A ls H locs B hP hD hS hl => ?_)
  obtain ⟨hx, hb, hml, hown, hts, hr, hlk, hnm, hK, hA, hN, hC⟩ := id B
  have hown : s.vm.findClass RX7 = some m.cls := hown
  have hl : lv_has ls 2 [(0, .ref h), (1, .int x1)] := hl
  have w_0 : (Cond.fieldLink RX7 195 "WishSeaModel" "seeds" "J").before args s = true := hts _ (List.mem_of_getElem? (i := 1) rfl)
  have hinX7 : ∀ w ∈ u_ws RX7 TX7 92, w ∈ wsX7_seed := fun _ h => List.mem_cons_of_mem _ (List.mem_append_right _ h)
  refine lv_iload_n hx hb dX7_seed_0 rfl (lv_at hl 1 rfl) ?_
  refine lv_if_ge (tgt := 18) hx hb dX7_seed_1 (by decide) (fun c_1 => ?_) (fun c_1 => ?_)
  · have c_1 : 0 ≤ x1 := c_1
    have f_18_1 : iR x1 0 2147483647 := iR_leR c_1 (iR_c (n := 0) (a := 0) (b := 0) (by decide +kernel) (by decide +kernel)) (iR_top _) (by decide +kernel)
    refine lv_aload_n hx hb dX7_seed_18 rfl (lv_at hl 0 rfl) ?_
    refine lv_iload_n hx hb dX7_seed_19 rfl (lv_at hl 1 rfl) ?_
    refine lv_i2l (v := x1.toInt64) hx hb dX7_seed_20 rfl ?_
    refine lv_topl (fun y_20 ey_20 => ?_)
    have f_20_2 : lR y_20 0 2147483647 := lR_i2l ey_20 f_18_1
    refine k_put (D := (dC, dI)) (ci := 7) (v := .long y_20) (C := RX7) (T := TX7) (N := 92) (ws' := [(h, .inr (7, oM r i (vp_updL j 60 y_20))), ((r 48), .inl (cI, 6, .inl f48))]) hx hb hts hinX7 tyX7 tyX7_ok nmX7 hown hK hP hD hS 0 rfl rfl 60 (by decide) w_0 rfl rfl rfl rfl (Nat.le_of_ble_eq_true rfl) rfl dX7_seed_21 (fun H locs hP hD hS => ?_)
    refine lv_iconst (v := 1) hx hb dX7_seed_24 (by decide +kernel) ?_
    exact k_ri B hP hD hS dX7_seed_25 ((fun _ => 0), (fun k9 => match k9 with | 0 => y_20 | _ => 0), (fun k9 => match k9 with | 0 => f48 | _ => (fun _ => 0)), (fun _ => (fun _ => 0)), (fun _ => 0)) [0, 1] rfl rfl rfl (Nat.le_of_ble_eq_true rfl) (Nat.le_of_ble_eq_true rfl) ⟨(show iR 1 0 1 from (iR_c (n := 1) (a := 0) (b := 1) (by decide +kernel) (by decide +kernel))), (show lR y_20 0 2147483647 from f_20_2)⟩
  · have c_1 : x1 < 0 := i_nle c_1
    have f_4_1 : iR x1 (-2147483648) (-1) := iR_ltL c_1 (iR_top _) (iR_c (n := 0) (a := 0) (b := 0) (by decide +kernel) (by decide +kernel)) (by decide +kernel)
    refine lv_aload_n hx hb dX7_seed_4 rfl (lv_at hl 0 rfl) ?_
    refine lv_iconst (v := 5) hx hb dX7_seed_5 (by decide +kernel) ?_
    refine k_ci (wc := [(h, .inr (7, oM r i j)), ((r 48), .inl (cI, 6, .inl f48))]) (wr := []) (fun hPc hDc hFc => va_runV (As := [.int 5]) (rest := []) ⟨hx, hb, hml, hown, hts⟩ (s_X7_refuses_v2 l dC dI cI cJ cZ cM h r i j 5 f48 (iR_c (n := 5) (a := 0) (b := 5) (by decide +kernel) (by decide +kernel)) hI H.size) (cwV 1 hts gX7_seed_X7_refuses rfl rfl rfl (by decide +kernel) ⟨(Nat.le_of_ble_eq_true rfl), (Nat.le_of_ble_eq_true rfl)⟩) (k_pV hPc hDc hK hN hC hS hFc hP (q0 := 0) (ci := 7) rfl rfl) rfl rfl hl.1 rfl (lv_room (Nat.le_of_ble_eq_true rfl)) dX7_seed_6 ⟨(Nat.le_of_ble_eq_true rfl), (Nat.le_of_ble_eq_true rfl)⟩) hP hD hS hA [0, 1] [] rfl rfl rfl rfl (by decide) (fun _ => rfl) 0 0 rfl rfl (fun r_6 u_6 H locs hw hP hD hS => ?_)
    have g_6_0 := hw
    obtain rfl : r_6 = (-1) := g_6_0
    have hP : va_P (dC, dI) vwCl [(h, .inr (7, oM r i j)), ((r 48), .inl (cI, 6, .inl (u_6.2.2.1 0)))] H := hP
    have hD : va_D A [(h, .inr (7, oM r i j)), ((r 48), .inl (cI, 6, .inl (u_6.2.2.1 0)))] := hD
    refine lv_if_lt (tgt := 16) hx hb dX7_seed_9 (by decide) (fun _ => ?_) (fun q9 => absurd q9 (by decide +kernel))
    refine lv_iconst (v := 0) hx hb dX7_seed_16 (by decide +kernel) ?_
    exact k_ri B hP hD hS dX7_seed_17 ((fun _ => 0), (fun k9 => match k9 with | 0 => (j 60) | _ => 0), (fun k9 => match k9 with | 0 => (u_6.2.2.1 0) | _ => (fun _ => 0)), (fun _ => (fun _ => 0)), (fun _ => 0)) [0, 1] rfl rfl rfl (Nat.le_of_ble_eq_true rfl) (Nat.le_of_ble_eq_true rfl) ⟨(show iR 0 0 1 from (iR_c (n := 0) (a := 0) (b := 1) (by decide +kernel) (by decide +kernel))), (show lR (j 60) 0 2147483647 from hJ60)⟩
set_option maxHeartbeats 8000000 in
set_option maxRecDepth 100000 in
theorem s_X7_kept_v0 (l : Launch) (dC : Nat → ClassId) (dI : Nat → Nat → Nat) (cI cJ cZ cM : ClassId) (h : Nat) (r : Nat → Nat) (i : Nat → Int32) (j : Nat → Int64) (x1 : Int32) (x2 : Int32) (f53 : Nat → Int32) (f54 : Nat → Int32) (f55 : Nat → Int32) (f56 : Nat → Int32) (f57 : Nat → Int32) (hI : mR i) (hf53 : aR f53 0 50) : k_Mi l yX7_kept wsX7_kept ({ frames := 2, cells := 0, slots := 0, locals := 62 }) (dC, dI) vwCl (tyy cI cJ cZ cM) [(h, .inr (7, oM r i j)), ((r 53), .inl (cI, 22, .inl f53)), ((r 54), .inl (cI, 1100, .inl f54)), ((r 55), .inl (cI, 1100, .inl f55)), ((r 56), .inl (cI, 1100, .inl f56)), ((r 57), .inl (cI, 1100, .inl f57))] [.ref h, .int x1, .int x2] 0 0 (fun (u9 : Unit) => [(h, .inr (7, oM r i j)), ((r 53), .inl (cI, 22, .inl f53)), ((r 54), .inl (cI, 1100, .inl f54)), ((r 55), .inl (cI, 1100, .inl f55)), ((r 56), .inl (cI, 1100, .inl f56)), ((r 57), .inl (cI, 1100, .inl f57))]) (fun (r9 : Int32) (u9 : Unit) => True) := by
  refine fun sz => k_enter (cc := cX7_kept) (maxL := 3) (ret := some (.int)) (Qc := fun A => va_Qi (fun (r9 : Int32) (u9 : Unit) => True) (fun u => k_B (dC, dI) vwCl (tyy cI cJ cZ cM) A ((fun (u9 : Unit) => [(h, .inr (7, oM r i j)), ((r 53), .inl (cI, 22, .inl f53)), ((r 54), .inl (cI, 1100, .inl f54)), ((r 55), .inl (cI, 1100, .inl f55)), ((r 56), .inl (cI, 1100, .inl f56)), ((r 57), .inl (cI, 1100, .inl f57))]) u)) A) sz (by decide +kernel) rfl (Nat.le_of_ble_eq_true rfl) (fun p e s m args below meth c A ls H locs B hP hD hS hl => ?_)
  obtain ⟨hx, hb, hml, hown, hts, hr, hlk, hnm, hK, hA, hN, hC⟩ := id B
  have hown : s.vm.findClass RX7 = some m.cls := hown
  have hl : lv_has ls 3 [(0, .ref h), (1, .int x1), (2, .int x2)] := hl
  have w_0 : (Cond.fieldLink RX7 174 "WishSeaModel" "keptMany" "[I").before args s = true := hts _ (List.mem_of_getElem? (i := 1) rfl)
  have w_1 : (Cond.fieldLink RX7 186 "WishSeaModel" "keptFell" "[I").before args s = true := hts _ (List.mem_of_getElem? (i := 5) rfl)
  have w_2 : (Cond.fieldLink RX7 183 "WishSeaModel" "keptSea" "[I").before args s = true := hts _ (List.mem_of_getElem? (i := 4) rfl)
  have w_3 : (Cond.fieldLink RX7 180 "WishSeaModel" "keptWish" "[I").before args s = true := hts _ (List.mem_of_getElem? (i := 3) rfl)
  have w_4 : (Cond.fieldLink RX7 177 "WishSeaModel" "keptDay" "[I").before args s = true := hts _ (List.mem_of_getElem? (i := 2) rfl)
  have hinX7 : ∀ w ∈ u_ws RX7 TX7 92, w ∈ wsX7_kept := fun _ h => List.mem_cons_of_mem _ (List.mem_append_right _ h)
  refine lv_iload_n hx hb dX7_kept_0 rfl (lv_at hl 1 rfl) ?_
  refine lv_iconst (v := 0) hx hb dX7_kept_1 (by decide +kernel) ?_
  refine lv_aload_n hx hb dX7_kept_2 rfl (lv_at hl 0 rfl) ?_
  refine k_get (D := (dC, dI)) (ci := 7) (v := .ref (r 53)) (C := RX7) (T := TX7) (N := 92) hx hb hts hinX7 hown hK hP 0 rfl rfl 53 (by decide) w_0 rfl rfl dX7_kept_3 ?_
  refine lv_iconst (v := 0) hx hb dX7_kept_6 (by decide +kernel) ?_
  refine k_iald (v := (f53 0)) hx hb hK hP 1 0 0 rfl rfl rfl (Nat.le_of_ble_eq_true rfl) (Nat.le_of_ble_eq_true rfl) rfl dX7_kept_7 ?_
  have f_7_1 : iR (f53 0) 0 50 := hf53 _
  refine lv_iconst (v := 1) hx hb dX7_kept_8 (by decide +kernel) ?_
  refine lv_isub hx hb dX7_kept_9 ?_
  refine lv_topi (fun y_9 ey_9 => ?_)
  have f_9_2 : iR y_9 (-1) 49 := iR_sub ey_9 f_7_1 (iR_c (n := 1) (a := 1) (b := 1) (by decide +kernel) (by decide +kernel)) (by decide +kernel)
  refine k_ci (wc := []) (wr := [(h, .inr (7, oM r i j)), ((r 53), .inl (cI, 22, .inl f53)), ((r 54), .inl (cI, 1100, .inl f54)), ((r 55), .inl (cI, 1100, .inl f55)), ((r 56), .inl (cI, 1100, .inl f56)), ((r 57), .inl (cI, 1100, .inl f57))]) (fun hPc hDc hFc => va_runS (As := [.int x1, .int 0, .int y_9]) (rest := []) ⟨hx, hb, hml, hown, hts⟩ (s_X7_is_v0 l dC dI cI cJ cZ cM x1 0 y_9 H.size) (va_cwS 3 hts gX7_kept_X7_is rfl rfl rfl (by decide +kernel) ⟨(Nat.le_of_ble_eq_true rfl), (Nat.le_of_ble_eq_true rfl)⟩) (k_pS hPc hDc hK hN hC hS hFc) rfl rfl hl.1 rfl (lv_room (Nat.le_of_ble_eq_true rfl)) dX7_kept_10 ⟨(Nat.le_of_ble_eq_true rfl), (Nat.le_of_ble_eq_true rfl)⟩) hP hD hS hA [] [0, 1, 2, 3, 4, 5] rfl rfl rfl rfl (by decide) (fun _ => rfl) 0 0 rfl rfl (fun r_10 u_10 H locs hw hP hD hS => ?_)
  obtain ⟨g_10_0, g_10_1⟩ := hw
  have hP : va_P (dC, dI) vwCl [(h, .inr (7, oM r i j)), ((r 53), .inl (cI, 22, .inl f53)), ((r 54), .inl (cI, 1100, .inl f54)), ((r 55), .inl (cI, 1100, .inl f55)), ((r 56), .inl (cI, 1100, .inl f56)), ((r 57), .inl (cI, 1100, .inl f57))] H := hP
  have hD : va_D A [(h, .inr (7, oM r i j)), ((r 53), .inl (cI, 22, .inl f53)), ((r 54), .inl (cI, 1100, .inl f54)), ((r 55), .inl (cI, 1100, .inl f55)), ((r 56), .inl (cI, 1100, .inl f56)), ((r 57), .inl (cI, 1100, .inl f57))] := hD
  have g_10_1 : (r_10 = 0) ∨ ((0 ≤ x1) ∧ (x1 ≤ y_9)) := g_10_1
  have J_25 : ∀   (H : Heap) (locs : List Loc) (ls : Array Slot), va_P (dC, dI) vwCl [(h, .inr (7, oM r i j)), ((r 53), .inl (cI, 22, .inl f53)), ((r 54), .inl (cI, 1100, .inl f54)), ((r 55), .inl (cI, 1100, .inl f55)), ((r 56), .inl (cI, 1100, .inl f56)), ((r 57), .inl (cI, 1100, .inl f57))] H → va_D A [(h, .inr (7, oM r i j)), ((r 53), .inl (cI, 22, .inl f53)), ((r 54), .inl (cI, 1100, .inl f54)), ((r 55), .inl (cI, 1100, .inl f55)), ((r 56), .inl (cI, 1100, .inl f56)), ((r 57), .inl (cI, 1100, .inl f57))] → va_S A s.heap H locs → lv_has ls 3 [] → W p l e ({ frames := 2, cells := 0, slots := 0, locals := 62 }) s m args below meth c H locs 0 0 (MQ below (va_Qi (fun (r9 : Int32) (u9 : Unit) => True) (fun u => k_B (dC, dI) vwCl (tyy cI cJ cZ cM) A ((fun (u9 : Unit) => [(h, .inr (7, oM r i j)), ((r 53), .inl (cI, 22, .inl f53)), ((r 54), .inl (cI, 1100, .inl f54)), ((r 55), .inl (cI, 1100, .inl f55)), ((r 56), .inl (cI, 1100, .inl f56)), ((r 57), .inl (cI, 1100, .inl f57))]) u)) A) args s 0 0 A) (F0 m 25 ls []) := by
    intro   H locs ls hP hD hS hl
    refine lv_iconst (v := (-1)) hx hb dX7_kept_25 (by decide +kernel) ?_
    exact k_ri B hP hD hS dX7_kept_26 () [0, 1, 2, 3, 4, 5] rfl rfl rfl (Nat.le_of_ble_eq_true rfl) (Nat.le_of_ble_eq_true rfl) trivial
  refine lv_if_eq (tgt := 25) hx hb dX7_kept_13 (by decide) (fun c_13 => ?_) (fun c_13 => ?_)
  · have c_13 : r_10 = 0 := c_13
    have f_25_3 : iR r_10 0 0 := iR_eqL c_13 g_10_0 (iR_c (n := 0) (a := 0) (b := 0) (by decide +kernel) (by decide +kernel)) (by decide +kernel)
    exact J_25   H locs ls hP hD hS (lv_sub hl [] rfl)
  · have c_13 : ¬ r_10 = 0 := c_13
    have f_16_3 : iR r_10 1 1 := iR_neL c_13 g_10_0 (iR_c (n := 0) (a := 0) (b := 0) (by decide +kernel) (by decide +kernel)) (by decide +kernel)
    obtain ⟨d_13_1_0, d_13_1_1⟩ := g_10_1.resolve_left c_13
    have f_16_4 : iR x1 0 2147483647 := iR_leR d_13_1_0 (iR_c (n := 0) (a := 0) (b := 0) (by decide +kernel) (by decide +kernel)) (iR_top _) (by decide +kernel)
    have f_16_5 : iR x1 0 49 := iR_leL d_13_1_1 f_16_4 f_9_2 (by decide +kernel)
    have f_16_6 : iR y_9 0 49 := iR_leR d_13_1_1 f_16_4 f_9_2 (by decide +kernel)
    refine lv_iload_n hx hb dX7_kept_16 rfl (lv_at hl 2 rfl) ?_
    refine lv_iconst (v := 0) hx hb dX7_kept_17 (by decide +kernel) ?_
    refine lv_iconst (v := 3) hx hb dX7_kept_18 (by decide +kernel) ?_
    refine k_ci (wc := []) (wr := [(h, .inr (7, oM r i j)), ((r 53), .inl (cI, 22, .inl f53)), ((r 54), .inl (cI, 1100, .inl f54)), ((r 55), .inl (cI, 1100, .inl f55)), ((r 56), .inl (cI, 1100, .inl f56)), ((r 57), .inl (cI, 1100, .inl f57))]) (fun hPc hDc hFc => va_runS (As := [.int x2, .int 0, .int 3]) (rest := []) ⟨hx, hb, hml, hown, hts⟩ (s_X7_is_v0 l dC dI cI cJ cZ cM x2 0 3 H.size) (va_cwS 3 hts gX7_kept_X7_is rfl rfl rfl (by decide +kernel) ⟨(Nat.le_of_ble_eq_true rfl), (Nat.le_of_ble_eq_true rfl)⟩) (k_pS hPc hDc hK hN hC hS hFc) rfl rfl hl.1 rfl (lv_room (Nat.le_of_ble_eq_true rfl)) dX7_kept_19 ⟨(Nat.le_of_ble_eq_true rfl), (Nat.le_of_ble_eq_true rfl)⟩) hP hD hS hA [] [0, 1, 2, 3, 4, 5] rfl rfl rfl rfl (by decide) (fun _ => rfl) 0 0 rfl rfl (fun r_19 u_19 H locs hw hP hD hS => ?_)
    obtain ⟨g_19_0, g_19_1⟩ := hw
    have hP : va_P (dC, dI) vwCl [(h, .inr (7, oM r i j)), ((r 53), .inl (cI, 22, .inl f53)), ((r 54), .inl (cI, 1100, .inl f54)), ((r 55), .inl (cI, 1100, .inl f55)), ((r 56), .inl (cI, 1100, .inl f56)), ((r 57), .inl (cI, 1100, .inl f57))] H := hP
    have hD : va_D A [(h, .inr (7, oM r i j)), ((r 53), .inl (cI, 22, .inl f53)), ((r 54), .inl (cI, 1100, .inl f54)), ((r 55), .inl (cI, 1100, .inl f55)), ((r 56), .inl (cI, 1100, .inl f56)), ((r 57), .inl (cI, 1100, .inl f57))] := hD
    have g_19_1 : (r_19 = 0) ∨ ((0 ≤ x2) ∧ (x2 ≤ 3)) := g_19_1
    refine lv_if_ne (tgt := 27) hx hb dX7_kept_22 (by decide) (fun c_22 => ?_) (fun c_22 => ?_)
    · have c_22 : ¬ r_19 = 0 := c_22
      have f_27_7 : iR r_19 1 1 := iR_neL c_22 g_19_0 (iR_c (n := 0) (a := 0) (b := 0) (by decide +kernel) (by decide +kernel)) (by decide +kernel)
      obtain ⟨d_22_2_0, d_22_2_1⟩ := g_19_1.resolve_left c_22
      have f_27_8 : iR x2 0 2147483647 := iR_leR d_22_2_0 (iR_c (n := 0) (a := 0) (b := 0) (by decide +kernel) (by decide +kernel)) (iR_top _) (by decide +kernel)
      have f_27_9 : iR x2 0 3 := iR_leL d_22_2_1 f_27_8 (iR_c (n := 3) (a := 3) (b := 3) (by decide +kernel) (by decide +kernel)) (by decide +kernel)
      refine lv_iload_n hx hb dX7_kept_27 rfl (lv_at hl 2 rfl) ?_
      refine lv_if_ne (tgt := 40) hx hb dX7_kept_28 (by decide) (fun c_28 => ?_) (fun c_28 => ?_)
      · have c_28 : ¬ x2 = 0 := c_28
        have f_40_10 : iR x2 1 3 := iR_ltR (i_ltne d_22_2_0 (fun q => c_28 q.symm)) (iR_c (n := 0) (a := 0) (b := 0) (by decide +kernel) (by decide +kernel)) f_27_9 (by decide +kernel)
        refine lv_iload_n hx hb dX7_kept_40 rfl (lv_at hl 2 rfl) ?_
        refine lv_iconst (v := 1) hx hb dX7_kept_41 (by decide +kernel) ?_
        refine lv_icmp_ne (tgt := 54) hx hb dX7_kept_42 (by decide) (fun c_42 => ?_) (fun c_42 => ?_)
        · have c_42 : ¬ x2 = 1 := c_42
          have f_54_11 : iR x2 2 3 := iR_neL c_42 f_40_10 (iR_c (n := 1) (a := 1) (b := 1) (by decide +kernel) (by decide +kernel)) (by decide +kernel)
          refine lv_iload_n hx hb dX7_kept_54 rfl (lv_at hl 2 rfl) ?_
          refine lv_iconst (v := 2) hx hb dX7_kept_55 (by decide +kernel) ?_
          refine lv_icmp_ne (tgt := 68) hx hb dX7_kept_56 (by decide) (fun c_56 => ?_) (fun c_56 => ?_)
          · have c_56 : ¬ x2 = 2 := c_56
            have f_68_12 : iR x2 3 3 := iR_neL c_56 f_54_11 (iR_c (n := 2) (a := 2) (b := 2) (by decide +kernel) (by decide +kernel)) (by decide +kernel)
            refine lv_aload_n hx hb dX7_kept_68 rfl (lv_at hl 0 rfl) ?_
            refine k_get (D := (dC, dI)) (ci := 7) (v := .ref (r 57)) (C := RX7) (T := TX7) (N := 92) hx hb hts hinX7 hown hK hP 0 rfl rfl 57 (by decide) w_1 rfl rfl dX7_kept_69 ?_
            refine lv_iload_n hx hb dX7_kept_72 rfl (lv_at hl 1 rfl) ?_
            refine va_iald hx hb hK hP 5 0 rfl rfl (iR_vp f_16_5 (by decide +kernel)) dX7_kept_73 ?_
            exact k_ri B hP hD hS dX7_kept_74 () [0, 1, 2, 3, 4, 5] rfl rfl rfl (Nat.le_of_ble_eq_true rfl) (Nat.le_of_ble_eq_true rfl) trivial
          · have c_56 : x2 = 2 := c_56
            have f_59_12 : iR x2 2 2 := iR_eqL c_56 f_54_11 (iR_c (n := 2) (a := 2) (b := 2) (by decide +kernel) (by decide +kernel)) (by decide +kernel)
            refine lv_aload_n hx hb dX7_kept_59 rfl (lv_at hl 0 rfl) ?_
            refine k_get (D := (dC, dI)) (ci := 7) (v := .ref (r 56)) (C := RX7) (T := TX7) (N := 92) hx hb hts hinX7 hown hK hP 0 rfl rfl 56 (by decide) w_2 rfl rfl dX7_kept_60 ?_
            refine lv_iload_n hx hb dX7_kept_63 rfl (lv_at hl 1 rfl) ?_
            refine va_iald hx hb hK hP 4 0 rfl rfl (iR_vp f_16_5 (by decide +kernel)) dX7_kept_64 ?_
            refine lv_goto (tgt := 74) hx hb dX7_kept_65 (by decide) ?_
            exact k_ri B hP hD hS dX7_kept_74 () [0, 1, 2, 3, 4, 5] rfl rfl rfl (Nat.le_of_ble_eq_true rfl) (Nat.le_of_ble_eq_true rfl) trivial
        · have c_42 : x2 = 1 := c_42
          have f_45_11 : iR x2 1 1 := iR_eqL c_42 f_40_10 (iR_c (n := 1) (a := 1) (b := 1) (by decide +kernel) (by decide +kernel)) (by decide +kernel)
          refine lv_aload_n hx hb dX7_kept_45 rfl (lv_at hl 0 rfl) ?_
          refine k_get (D := (dC, dI)) (ci := 7) (v := .ref (r 55)) (C := RX7) (T := TX7) (N := 92) hx hb hts hinX7 hown hK hP 0 rfl rfl 55 (by decide) w_3 rfl rfl dX7_kept_46 ?_
          refine lv_iload_n hx hb dX7_kept_49 rfl (lv_at hl 1 rfl) ?_
          refine va_iald hx hb hK hP 3 0 rfl rfl (iR_vp f_16_5 (by decide +kernel)) dX7_kept_50 ?_
          refine lv_goto (tgt := 74) hx hb dX7_kept_51 (by decide) ?_
          exact k_ri B hP hD hS dX7_kept_74 () [0, 1, 2, 3, 4, 5] rfl rfl rfl (Nat.le_of_ble_eq_true rfl) (Nat.le_of_ble_eq_true rfl) trivial
      · have c_28 : x2 = 0 := c_28
        have f_31_10 : iR x2 0 0 := iR_eqL c_28 f_27_9 (iR_c (n := 0) (a := 0) (b := 0) (by decide +kernel) (by decide +kernel)) (by decide +kernel)
        refine lv_aload_n hx hb dX7_kept_31 rfl (lv_at hl 0 rfl) ?_
        refine k_get (D := (dC, dI)) (ci := 7) (v := .ref (r 54)) (C := RX7) (T := TX7) (N := 92) hx hb hts hinX7 hown hK hP 0 rfl rfl 54 (by decide) w_4 rfl rfl dX7_kept_32 ?_
        refine lv_iload_n hx hb dX7_kept_35 rfl (lv_at hl 1 rfl) ?_
        refine va_iald hx hb hK hP 2 0 rfl rfl (iR_vp f_16_5 (by decide +kernel)) dX7_kept_36 ?_
        refine lv_goto (tgt := 74) hx hb dX7_kept_37 (by decide) ?_
        exact k_ri B hP hD hS dX7_kept_74 () [0, 1, 2, 3, 4, 5] rfl rfl rfl (Nat.le_of_ble_eq_true rfl) (Nat.le_of_ble_eq_true rfl) trivial
    · have c_22 : r_19 = 0 := c_22
      have f_25_7 : iR r_19 0 0 := iR_eqL c_22 g_19_0 (iR_c (n := 0) (a := 0) (b := 0) (by decide +kernel) (by decide +kernel)) (by decide +kernel)
      exact J_25   H locs ls hP hD hS (lv_sub hl [] rfl)
set_option maxHeartbeats 8000000 in
set_option maxRecDepth 100000 in
theorem s_X7_isWish_v1 (l : Launch) (dC : Nat → ClassId) (dI : Nat → Nat → Nat) (cI cJ cZ cM : ClassId) (h : Nat) (r : Nat → Nat) (i : Nat → Int32) (j : Nat → Int64) (x1 : Int32) (f18 : Nat → Int32) (hI : mR i) (hf18 : aR f18 0 12) : k_Mi l yX7_isWish wsX7_isWish ({ frames := 1, cells := 0, slots := 0, locals := 40 }) (dC, dI) vwCl (tyy cI cJ cZ cM) [(h, .inr (7, oM r i j)), ((r 18), .inl (cI, 2, .inl f18))] [.ref h, .int x1] 0 0 (fun (u9 : Unit) => [(h, .inr (7, oM r i j)), ((r 18), .inl (cI, 2, .inl f18))]) (fun (r9 : Int32) (u9 : Unit) => (iR r9 0 1) ∧ ((r9 = 0) ∨ ((0 ≤ x1) ∧ (x1 < (f18 (i 13).toNatClampNeg))))) := by
  refine fun sz => k_enter (cc := cX7_isWish) (maxL := 2) (ret := some (.boolean)) (Qc := fun A => va_Qi (fun (r9 : Int32) (u9 : Unit) => (iR r9 0 1) ∧ ((r9 = 0) ∨ ((0 ≤ x1) ∧ (x1 < (f18 (i 13).toNatClampNeg))))) (fun u => k_B (dC, dI) vwCl (tyy cI cJ cZ cM) A ((fun (u9 : Unit) => [(h, .inr (7, oM r i j)), ((r 18), .inl (cI, 2, .inl f18))]) u)) A) sz (by decide +kernel) rfl (Nat.le_of_ble_eq_true rfl) (fun p e s m args below meth c A ls H locs B hP hD hS hl => ?_)
  obtain ⟨hx, hb, hml, hown, hts, hr, hlk, hnm, hK, hA, hN, hC⟩ := id B
  have hown : s.vm.findClass RX7 = some m.cls := hown
  have hl : lv_has ls 2 [(0, .ref h), (1, .int x1)] := hl
  have w_0 : (Cond.fieldLink RX7 66 "WishSeaModel" "wishes" "[I").before args s = true := hts _ (List.mem_of_getElem? (i := 1) rfl)
  have w_1 : (Cond.fieldLink RX7 51 "WishSeaModel" "bank" "I").before args s = true := hts _ (List.mem_of_getElem? (i := 2) rfl)
  have hinX7 : ∀ w ∈ u_ws RX7 TX7 92, w ∈ wsX7_isWish := fun _ h => List.mem_cons_of_mem _ (List.mem_append_right _ h)
  refine lv_iload_n hx hb dX7_isWish_0 rfl (lv_at hl 1 rfl) ?_
  have J_21 : ∀   (H : Heap) (locs : List Loc) (ls : Array Slot), va_P (dC, dI) vwCl [(h, .inr (7, oM r i j)), ((r 18), .inl (cI, 2, .inl f18))] H → va_D A [(h, .inr (7, oM r i j)), ((r 18), .inl (cI, 2, .inl f18))] → va_S A s.heap H locs → lv_has ls 2 [] → W p l e ({ frames := 1, cells := 0, slots := 0, locals := 40 }) s m args below meth c H locs 0 0 (MQ below (va_Qi (fun (r9 : Int32) (u9 : Unit) => (iR r9 0 1) ∧ ((r9 = 0) ∨ ((0 ≤ x1) ∧ (x1 < (f18 (i 13).toNatClampNeg))))) (fun u => k_B (dC, dI) vwCl (tyy cI cJ cZ cM) A ((fun (u9 : Unit) => [(h, .inr (7, oM r i j)), ((r 18), .inl (cI, 2, .inl f18))]) u)) A) args s 0 0 A) (F0 m 21 ls []) := by
    intro   H locs ls hP hD hS hl
    refine lv_iconst (v := 0) hx hb dX7_isWish_21 (by decide +kernel) ?_
    exact k_ri B hP hD hS dX7_isWish_22 () [0, 1] rfl rfl rfl (Nat.le_of_ble_eq_true rfl) (Nat.le_of_ble_eq_true rfl) ⟨(show iR 0 0 1 from (iR_c (n := 0) (a := 0) (b := 1) (by decide +kernel) (by decide +kernel))), (show (0 = 0) ∨ ((0 ≤ x1) ∧ (x1 < (f18 (i 13).toNatClampNeg))) from (Or.inl rfl))⟩
  refine lv_if_lt (tgt := 21) hx hb dX7_isWish_1 (by decide) (fun c_1 => ?_) (fun c_1 => ?_)
  · have c_1 : x1 < 0 := c_1
    have f_21_1 : iR x1 (-2147483648) (-1) := iR_ltL c_1 (iR_top _) (iR_c (n := 0) (a := 0) (b := 0) (by decide +kernel) (by decide +kernel)) (by decide +kernel)
    exact J_21   H locs ls hP hD hS (lv_sub hl [] rfl)
  · have c_1 : 0 ≤ x1 := i_nlt c_1
    have f_4_1 : iR x1 0 2147483647 := iR_leR c_1 (iR_c (n := 0) (a := 0) (b := 0) (by decide +kernel) (by decide +kernel)) (iR_top _) (by decide +kernel)
    refine lv_iload_n hx hb dX7_isWish_4 rfl (lv_at hl 1 rfl) ?_
    refine lv_aload_n hx hb dX7_isWish_5 rfl (lv_at hl 0 rfl) ?_
    refine k_get (D := (dC, dI)) (ci := 7) (v := .ref (r 18)) (C := RX7) (T := TX7) (N := 92) hx hb hts hinX7 hown hK hP 0 rfl rfl 18 (by decide) w_0 rfl rfl dX7_isWish_6 ?_
    refine lv_aload_n hx hb dX7_isWish_9 rfl (lv_at hl 0 rfl) ?_
    have f_10_2 : iR (i 13) 0 1 := hI 13
    refine k_get (D := (dC, dI)) (ci := 7) (v := .int (i 13)) (C := RX7) (T := TX7) (N := 92) hx hb hts hinX7 hown hK hP 0 rfl rfl 13 (by decide) w_1 rfl rfl dX7_isWish_10 ?_
    refine va_iald hx hb hK hP 1 0 rfl rfl (iR_vp f_10_2 (by decide +kernel)) dX7_isWish_13 ?_
    have f_13_3 : iR (f18 (i 13).toNatClampNeg) 0 12 := hf18 _
    refine lv_icmp_ge (tgt := 21) hx hb dX7_isWish_14 (by decide) (fun c_14 => ?_) (fun c_14 => ?_)
    · have c_14 : (f18 (i 13).toNatClampNeg) ≤ x1 := c_14
      exact J_21   H locs ls hP hD hS (lv_sub hl [] rfl)
    · have c_14 : x1 < (f18 (i 13).toNatClampNeg) := i_nle c_14
      have f_17_4 : iR x1 0 11 := iR_ltL c_14 f_4_1 f_13_3 (by decide +kernel)
      have f_17_5 : iR (f18 (i 13).toNatClampNeg) 1 12 := iR_ltR c_14 f_4_1 f_13_3 (by decide +kernel)
      refine lv_iconst (v := 1) hx hb dX7_isWish_17 (by decide +kernel) ?_
      refine lv_goto (tgt := 22) hx hb dX7_isWish_18 (by decide) ?_
      exact k_ri B hP hD hS dX7_isWish_22 () [0, 1] rfl rfl rfl (Nat.le_of_ble_eq_true rfl) (Nat.le_of_ble_eq_true rfl) ⟨(show iR 1 0 1 from (iR_c (n := 1) (a := 0) (b := 1) (by decide +kernel) (by decide +kernel))), (show (1 = 0) ∨ ((0 ≤ x1) ∧ (x1 < (f18 (i 13).toNatClampNeg))) from (Or.inr ⟨c_1, c_14⟩))⟩
set_option maxHeartbeats 8000000 in
set_option maxRecDepth 100000 in
theorem s_X7_areWishes_v0 (l : Launch) (dC : Nat → ClassId) (dI : Nat → Nat → Nat) (cI cJ cZ cM : ClassId) (h : Nat) (r : Nat → Nat) (i : Nat → Int32) (j : Nat → Int64) (x1 : Int32) (f0 : Nat → Int32) (f18 : Nat → Int32) (hx1 : iR x1 0 1600) (hI : mR i) (hf0 : aR f0 0 255) (hf18 : aR f18 0 12) : k_Mi l yX7_areWishes wsX7_areWishes ({ frames := 2, cells := 0, slots := 0, locals := 61 }) (dC, dI) vwCl (tyy cI cJ cZ cM) [(h, .inr (7, oM r i j)), ((r 0), .inl (cI, 1800, .inl f0)), ((r 18), .inl (cI, 2, .inl f18))] [.ref h, .int x1, .int 1] 0 0 (fun (u9 : Unit) => [(h, .inr (7, oM r i j)), ((r 0), .inl (cI, 1800, .inl f0)), ((r 18), .inl (cI, 2, .inl f18))]) (fun (r9 : Int32) (u9 : Unit) => (iR r9 0 1) ∧ ((r9 = 0) ∨ ((AW f0 (f18 (i 13).toNatClampNeg) x1 1)))) := by
  refine fun sz => k_enter (cc := cX7_areWishes) (maxL := 4) (ret := some (.boolean)) (Qc := fun A => va_Qi (fun (r9 : Int32) (u9 : Unit) => (iR r9 0 1) ∧ ((r9 = 0) ∨ ((AW f0 (f18 (i 13).toNatClampNeg) x1 1)))) (fun u => k_B (dC, dI) vwCl (tyy cI cJ cZ cM) A ((fun (u9 : Unit) => [(h, .inr (7, oM r i j)), ((r 0), .inl (cI, 1800, .inl f0)), ((r 18), .inl (cI, 2, .inl f18))]) u)) A) sz (by decide +kernel) rfl (Nat.le_of_ble_eq_true rfl) (fun p e s m args below meth c A ls H locs B hP hD hS hl => ?_)
  obtain ⟨hx, hb, hml, hown, hts, hr, hlk, hnm, hK, hA, hN, hC⟩ := id B
  have hown : s.vm.findClass RX7 = some m.cls := hown
  have hl : lv_has ls 4 [(0, .ref h), (1, .int x1), (2, .int 1)] := hl
  have w_0 : (Cond.fieldLink RX7 7 "WishSeaModel" "tape" "[I").before args s = true := hts _ (List.mem_of_getElem? (i := 1) rfl)
  have hinX7 : ∀ w ∈ u_ws RX7 TX7 92, w ∈ wsX7_areWishes := fun _ h => List.mem_cons_of_mem _ (List.mem_append_right _ h)
  refine lv_iconst (v := 0) hx hb dX7_areWishes_0 (by decide +kernel) ?_
  have J_2 : ∀ (n_2 : Nat) (j2_L3 : Int32) (hj2_L3 : iR j2_L3 0 1600) (p2_0 : AW f0 (f18 (i 13).toNatClampNeg) j2_L3 1) (hm_2 : (1600 - j2_L3.toInt).toNat < n_2) (H : Heap) (locs : List Loc) (ls : Array Slot), va_P (dC, dI) vwCl [(h, .inr (7, oM r i j)), ((r 0), .inl (cI, 1800, .inl f0)), ((r 18), .inl (cI, 2, .inl f18))] H → va_D A [(h, .inr (7, oM r i j)), ((r 0), .inl (cI, 1800, .inl f0)), ((r 18), .inl (cI, 2, .inl f18))] → va_S A s.heap H locs → lv_has ls 4 [(0, .ref h), (1, .int x1), (2, .int 1), (3, .int j2_L3)] → W p l e ({ frames := 2, cells := 0, slots := 0, locals := 61 }) s m args below meth c H locs 0 0 (MQ below (va_Qi (fun (r9 : Int32) (u9 : Unit) => (iR r9 0 1) ∧ ((r9 = 0) ∨ ((AW f0 (f18 (i 13).toNatClampNeg) x1 1)))) (fun u => k_B (dC, dI) vwCl (tyy cI cJ cZ cM) A ((fun (u9 : Unit) => [(h, .inr (7, oM r i j)), ((r 0), .inl (cI, 1800, .inl f0)), ((r 18), .inl (cI, 2, .inl f18))]) u)) A) args s 0 0 A) (F0 m 2 ls []) := by
    intro n_2
    induction n_2 with
    | zero => intro j2_L3 hj2_L3 p2_0 hm_2; exact absurd hm_2 (Nat.not_lt_zero _)
    | succ n_2 ih_2 =>
      intro j2_L3 hj2_L3 p2_0 hm_2 H locs ls hP hD hS hl
      refine lv_iload_n hx hb dX7_areWishes_2 rfl (lv_at hl 3 rfl) ?_
      refine lv_iload_n hx hb dX7_areWishes_3 rfl (lv_at hl 1 rfl) ?_
      refine lv_icmp_ge (tgt := 44) hx hb dX7_areWishes_4 (by decide) (fun c_4 => ?_) (fun c_4 => ?_)
      · have c_4 : x1 ≤ j2_L3 := c_4
        refine lv_iconst (v := 1) hx hb dX7_areWishes_44 (by decide +kernel) ?_
        exact k_ri B hP hD hS dX7_areWishes_45 () [0, 1, 2] rfl rfl rfl (Nat.le_of_ble_eq_true rfl) (Nat.le_of_ble_eq_true rfl) ⟨(show iR 1 0 1 from (iR_c (n := 1) (a := 0) (b := 1) (by decide +kernel) (by decide +kernel))), (show (1 = 0) ∨ ((AW f0 (f18 (i 13).toNatClampNeg) x1 1)) from (Or.inr (AW_le p2_0 c_4)))⟩
      · have c_4 : j2_L3 < x1 := i_nle c_4
        have f_7_1 : iR j2_L3 0 1599 := iR_ltL c_4 hj2_L3 hx1 (by decide +kernel)
        have f_7_2 : iR x1 1 1600 := iR_ltR c_4 hj2_L3 hx1 (by decide +kernel)
        refine lv_aload_n hx hb dX7_areWishes_7 rfl (lv_at hl 0 rfl) ?_
        refine lv_aload_n hx hb dX7_areWishes_8 rfl (lv_at hl 0 rfl) ?_
        refine k_get (D := (dC, dI)) (ci := 7) (v := .ref (r 0)) (C := RX7) (T := TX7) (N := 92) hx hb hts hinX7 hown hK hP 0 rfl rfl 0 (by decide) w_0 rfl rfl dX7_areWishes_9 ?_
        refine lv_iload_n hx hb dX7_areWishes_12 rfl (lv_at hl 3 rfl) ?_
        refine va_iald hx hb hK hP 1 0 rfl rfl (iR_vp f_7_1 (by decide +kernel)) dX7_areWishes_13 ?_
        have f_13_3 : iR (f0 j2_L3.toNatClampNeg) 0 255 := hf0 _
        refine k_ci (wc := [(h, .inr (7, oM r i j)), ((r 18), .inl (cI, 2, .inl f18))]) (wr := [((r 0), .inl (cI, 1800, .inl f0))]) (fun hPc hDc hFc => va_runV (As := [.int (f0 j2_L3.toNatClampNeg)]) (rest := []) ⟨hx, hb, hml, hown, hts⟩ (s_X7_isWish_v1 l dC dI cI cJ cZ cM h r i j (f0 j2_L3.toNatClampNeg) f18 hI hf18 H.size) (cwV 1 hts gX7_areWishes_X7_isWish rfl rfl rfl (by decide +kernel) ⟨(Nat.le_of_ble_eq_true rfl), (Nat.le_of_ble_eq_true rfl)⟩) (k_pV hPc hDc hK hN hC hS hFc hP (q0 := 0) (ci := 7) rfl rfl) rfl rfl hl.1 rfl (lv_room (Nat.le_of_ble_eq_true rfl)) dX7_areWishes_14 ⟨(Nat.le_of_ble_eq_true rfl), (Nat.le_of_ble_eq_true rfl)⟩) hP hD hS hA [0, 2] [1] rfl rfl rfl rfl (by decide) (fun _ => rfl) 0 0 rfl rfl (fun r_14 u_14 H locs hw hP hD hS => ?_)
        obtain ⟨g_14_0, g_14_1⟩ := hw
        have hP : va_P (dC, dI) vwCl [((r 0), .inl (cI, 1800, .inl f0)), (h, .inr (7, oM r i j)), ((r 18), .inl (cI, 2, .inl f18))] H := hP
        have hD : va_D A [((r 0), .inl (cI, 1800, .inl f0)), (h, .inr (7, oM r i j)), ((r 18), .inl (cI, 2, .inl f18))] := hD
        have g_14_1 : (r_14 = 0) ∨ ((0 ≤ (f0 j2_L3.toNatClampNeg)) ∧ ((f0 j2_L3.toNatClampNeg) < (f18 (i 13).toNatClampNeg))) := g_14_1
        refine lv_if_ne (tgt := 38) hx hb dX7_areWishes_17 (by decide) (fun c_17 => ?_) (fun c_17 => ?_)
        · have c_17 : ¬ r_14 = 0 := c_17
          have f_38_4 : iR r_14 1 1 := iR_neL c_17 g_14_0 (iR_c (n := 0) (a := 0) (b := 0) (by decide +kernel) (by decide +kernel)) (by decide +kernel)
          obtain ⟨d_17_1_0, d_17_1_1⟩ := g_14_1.resolve_left c_17
          have f_38_5 : iR (f0 j2_L3.toNatClampNeg) 0 11 := iR_ltL d_17_1_1 f_13_3 (show iR (f18 (i 13).toNatClampNeg) 0 12 from hf18 _) (by decide +kernel)
          have f_38_6 : iR (f18 (i 13).toNatClampNeg) 1 12 := iR_ltR d_17_1_1 f_13_3 (show iR (f18 (i 13).toNatClampNeg) 0 12 from hf18 _) (by decide +kernel)
          obtain ⟨y_38p17, ey_38p17⟩ : ∃ y : Int32, y = j2_L3 + 1 := ⟨_, rfl⟩
          refine lv_iinc (v := y_38p17) (lv' := [(3, .int y_38p17), (0, .ref h), (1, .int x1), (2, .int 1)]) hx hb dX7_areWishes_38 hl (k := 3) rfl ey_38p17.symm (by decide) rfl (fun ls hl => ?_)
          have f_38p17_7 : iR y_38p17 1 1600 := iR_add ey_38p17 f_7_1 (iR_c (n := 1) (a := 1) (b := 1) (by decide +kernel) (by decide +kernel)) (by decide +kernel)
          refine lv_goto (tgt := 2) hx hb dX7_areWishes_41 (by decide) ?_
          exact ih_2 y_38p17 (iR_w f_38p17_7 (by decide +kernel)) (show AW f0 (f18 (i 13).toNatClampNeg) y_38p17 1 from (AW_step p2_0 ey_38p17 f_7_1 (by decide +kernel) (Or.inl ⟨d_17_1_0, d_17_1_1⟩))) (m_up (B := 1600) hm_2 ey_38p17 f_7_1 (by decide +kernel)) H locs ls (hP.sub [1, 0, 2] rfl) (hD.sub [1, 0, 2] (by decide +kernel) rfl) hS (lv_sub hl [1, 2, 3, 0] rfl)
        · have c_17 : r_14 = 0 := c_17
          have f_20_4 : iR r_14 0 0 := iR_eqL c_17 g_14_0 (iR_c (n := 0) (a := 0) (b := 0) (by decide +kernel) (by decide +kernel)) (by decide +kernel)
          refine lv_iload_n hx hb dX7_areWishes_20 rfl (lv_at hl 2 rfl) ?_
          have J_36 : ∀  (k36_0 : iR (f0 j2_L3.toNatClampNeg) 0 254) (q36_0 : ¬ (f0 j2_L3.toNatClampNeg) = 255) (H : Heap) (locs : List Loc) (ls : Array Slot), va_P (dC, dI) vwCl [(h, .inr (7, oM r i j)), ((r 0), .inl (cI, 1800, .inl f0)), ((r 18), .inl (cI, 2, .inl f18))] H → va_D A [(h, .inr (7, oM r i j)), ((r 0), .inl (cI, 1800, .inl f0)), ((r 18), .inl (cI, 2, .inl f18))] → va_S A s.heap H locs → lv_has ls 4 [] → W p l e ({ frames := 2, cells := 0, slots := 0, locals := 61 }) s m args below meth c H locs 0 0 (MQ below (va_Qi (fun (r9 : Int32) (u9 : Unit) => (iR r9 0 1) ∧ ((r9 = 0) ∨ ((AW f0 (f18 (i 13).toNatClampNeg) x1 1)))) (fun u => k_B (dC, dI) vwCl (tyy cI cJ cZ cM) A ((fun (u9 : Unit) => [(h, .inr (7, oM r i j)), ((r 0), .inl (cI, 1800, .inl f0)), ((r 18), .inl (cI, 2, .inl f18))]) u)) A) args s 0 0 A) (F0 m 36 ls []) := by
            intro  k36_0 q36_0 H locs ls hP hD hS hl
            refine lv_iconst (v := 0) hx hb dX7_areWishes_36 (by decide +kernel) ?_
            exact k_ri B hP hD hS dX7_areWishes_37 () [0, 1, 2] rfl rfl rfl (Nat.le_of_ble_eq_true rfl) (Nat.le_of_ble_eq_true rfl) ⟨(show iR 0 0 1 from (iR_c (n := 0) (a := 0) (b := 1) (by decide +kernel) (by decide +kernel))), (show (0 = 0) ∨ ((AW f0 (f18 (i 13).toNatClampNeg) x1 1)) from (Or.inl rfl))⟩
          refine lv_if_eq (tgt := 36) hx hb dX7_areWishes_21 (by decide) (fun q9 => absurd q9 (by decide +kernel)) (fun _ => ?_)
          refine lv_aload_n hx hb dX7_areWishes_24 rfl (lv_at hl 0 rfl) ?_
          refine k_get (D := (dC, dI)) (ci := 7) (v := .ref (r 0)) (C := RX7) (T := TX7) (N := 92) hx hb hts hinX7 hown hK hP 1 rfl rfl 0 (by decide) w_0 rfl rfl dX7_areWishes_25 ?_
          refine lv_iload_n hx hb dX7_areWishes_28 rfl (lv_at hl 3 rfl) ?_
          refine va_iald hx hb hK hP 0 0 rfl rfl (iR_vp f_7_1 (by decide +kernel)) dX7_areWishes_29 ?_
          refine lv_sipush (v := 255) hx hb dX7_areWishes_30 (by decide +kernel) ?_
          refine lv_icmp_eq (tgt := 38) hx hb dX7_areWishes_33 (by decide) (fun c_33 => ?_) (fun c_33 => ?_)
          · have c_33 : (f0 j2_L3.toNatClampNeg) = 255 := c_33
            have f_38_5 : iR (f0 j2_L3.toNatClampNeg) 255 255 := iR_eqL c_33 f_13_3 (iR_c (n := 255) (a := 255) (b := 255) (by decide +kernel) (by decide +kernel)) (by decide +kernel)
            obtain ⟨y_38p33, ey_38p33⟩ : ∃ y : Int32, y = j2_L3 + 1 := ⟨_, rfl⟩
            refine lv_iinc (v := y_38p33) (lv' := [(3, .int y_38p33), (0, .ref h), (1, .int x1), (2, .int 1)]) hx hb dX7_areWishes_38 hl (k := 3) rfl ey_38p33.symm (by decide) rfl (fun ls hl => ?_)
            have f_38p33_6 : iR y_38p33 1 1600 := iR_add ey_38p33 f_7_1 (iR_c (n := 1) (a := 1) (b := 1) (by decide +kernel) (by decide +kernel)) (by decide +kernel)
            refine lv_goto (tgt := 2) hx hb dX7_areWishes_41 (by decide) ?_
            exact ih_2 y_38p33 (iR_w f_38p33_6 (by decide +kernel)) (show AW f0 (f18 (i 13).toNatClampNeg) y_38p33 1 from (AW_step p2_0 ey_38p33 f_7_1 (by decide +kernel) (Or.inr ⟨by decide, c_33⟩))) (m_up (B := 1600) hm_2 ey_38p33 f_7_1 (by decide +kernel)) H locs ls (hP.sub [1, 0, 2] rfl) (hD.sub [1, 0, 2] (by decide +kernel) rfl) hS (lv_sub hl [1, 2, 3, 0] rfl)
          · have c_33 : ¬ (f0 j2_L3.toNatClampNeg) = 255 := c_33
            have f_36_5 : iR (f0 j2_L3.toNatClampNeg) 0 254 := iR_neL c_33 f_13_3 (iR_c (n := 255) (a := 255) (b := 255) (by decide +kernel) (by decide +kernel)) (by decide +kernel)
            exact J_36  f_36_5 c_33 H locs ls (hP.sub [1, 0, 2] rfl) (hD.sub [1, 0, 2] (by decide +kernel) rfl) hS (lv_sub hl [] rfl)
  refine lv_istore_n (lv' := [(3, .int 0), (0, .ref h), (1, .int x1), (2, .int 1)]) hx hb dX7_areWishes_1 rfl hl (by decide) rfl (fun ls hl => ?_)
  exact J_2 _ 0 (iR_c (n := 0) (a := 0) (b := 1600) (by decide +kernel) (by decide +kernel)) (show AW f0 (f18 (i 13).toNatClampNeg) 0 1 from AW_0) (Nat.lt_succ_self _) H locs ls hP hD hS (lv_sub hl [1, 2, 3, 0] rfl)
set_option maxHeartbeats 8000000 in
set_option maxRecDepth 100000 in
theorem s_X7_remembers_v0 (l : Launch) (dC : Nat → ClassId) (dI : Nat → Nat → Nat) (cI cJ cZ cM : ClassId) (h : Nat) (r : Nat → Nat) (i : Nat → Int32) (j : Nat → Int64) (x1 : Int32) (f49 : Nat → Int32) (f50 : Nat → Int32) (f52 : Nat → Int32) (hI : mR i) (hf49 : aR f49 0 1023) (hf50 : aR f50 0 999) : k_Mv l yX7_remembers wsX7_remembers ({ frames := 1, cells := 0, slots := 0, locals := 40 }) (dC, dI) vwCl (tyy cI cJ cZ cM) [(h, .inr (7, oM r i j)), ((r 49), .inl (cI, 22, .inl f49)), ((r 50), .inl (cI, 22, .inl f50)), ((r 52), .inl (cI, 22, .inl f52))] [.ref h, .int x1] 0 0 (fun (u9 : SU) => [(h, .inr (7, oM r (upd (upd (upd (upd (upd i 67 x1) 68 (f49 1)) 69 (f50 1)) 70 (f52 1)) 71 (u9.1 0)) j)), ((r 49), .inl (cI, 22, .inl f49)), ((r 50), .inl (cI, 22, .inl f50)), ((r 52), .inl (cI, 22, .inl f52))]) (fun (u9 : SU) => (iR (u9.1 0) 0 2147483647)) := by
  refine fun sz => k_enter (cc := cX7_remembers) (maxL := 2) (ret := none) (Qc := fun A => va_Qv (fun (u9 : SU) => (iR (u9.1 0) 0 2147483647)) (fun u => k_B (dC, dI) vwCl (tyy cI cJ cZ cM) A ((fun (u9 : SU) => [(h, .inr (7, oM r (upd (upd (upd (upd (upd i 67 x1) 68 (f49 1)) 69 (f50 1)) 70 (f52 1)) 71 (u9.1 0)) j)), ((r 49), .inl (cI, 22, .inl f49)), ((r 50), .inl (cI, 22, .inl f50)), ((r 52), .inl (cI, 22, .inl f52))]) u)) A) sz (by decide +kernel) rfl (Nat.le_of_ble_eq_true rfl) (fun p e s m args below meth c A ls H locs B hP hD hS hl => ?_)
  obtain ⟨hx, hb, hml, hown, hts, hr, hlk, hnm, hK, hA, hN, hC⟩ := id B
  have hown : s.vm.findClass RX7 = some m.cls := hown
  have hl : lv_has ls 2 [(0, .ref h), (1, .int x1)] := hl
  have w_0 : (Cond.fieldLink RX7 216 "WishSeaModel" "wentEnd" "I").before args s = true := hts _ (List.mem_of_getElem? (i := 1) rfl)
  have w_1 : (Cond.fieldLink RX7 162 "WishSeaModel" "hadOf" "[I").before args s = true := hts _ (List.mem_of_getElem? (i := 2) rfl)
  have w_2 : (Cond.fieldLink RX7 219 "WishSeaModel" "wentHad" "I").before args s = true := hts _ (List.mem_of_getElem? (i := 3) rfl)
  have w_3 : (Cond.fieldLink RX7 165 "WishSeaModel" "seaOf" "[I").before args s = true := hts _ (List.mem_of_getElem? (i := 4) rfl)
  have w_4 : (Cond.fieldLink RX7 222 "WishSeaModel" "wentSea" "I").before args s = true := hts _ (List.mem_of_getElem? (i := 5) rfl)
  have w_5 : (Cond.fieldLink RX7 171 "WishSeaModel" "dayOf" "[I").before args s = true := hts _ (List.mem_of_getElem? (i := 6) rfl)
  have w_6 : (Cond.fieldLink RX7 225 "WishSeaModel" "wentDay" "I").before args s = true := hts _ (List.mem_of_getElem? (i := 7) rfl)
  have w_7 : (Cond.fieldLink RX7 228 "WishSeaModel" "wentMost" "I").before args s = true := hts _ (List.mem_of_getElem? (i := 8) rfl)
  have hinX7 : ∀ w ∈ u_ws RX7 TX7 92, w ∈ wsX7_remembers := fun _ h => List.mem_cons_of_mem _ (List.mem_append_right _ h)
  refine lv_aload_n hx hb dX7_remembers_0 rfl (lv_at hl 0 rfl) ?_
  refine lv_iload_n hx hb dX7_remembers_1 rfl (lv_at hl 1 rfl) ?_
  refine k_put (D := (dC, dI)) (ci := 7) (v := .int x1) (C := RX7) (T := TX7) (N := 92) (ws' := [(h, .inr (7, oM r (upd i 67 x1) j)), ((r 49), .inl (cI, 22, .inl f49)), ((r 50), .inl (cI, 22, .inl f50)), ((r 52), .inl (cI, 22, .inl f52))]) hx hb hts hinX7 tyX7 tyX7_ok nmX7 hown hK hP hD hS 0 rfl rfl 67 (by decide) w_0 rfl rfl rfl rfl (Nat.le_of_ble_eq_true rfl) rfl dX7_remembers_2 (fun H locs hP hD hS => ?_)
  refine lv_aload_n hx hb dX7_remembers_5 rfl (lv_at hl 0 rfl) ?_
  refine lv_aload_n hx hb dX7_remembers_6 rfl (lv_at hl 0 rfl) ?_
  refine k_get (D := (dC, dI)) (ci := 7) (v := .ref (r 49)) (C := RX7) (T := TX7) (N := 92) hx hb hts hinX7 hown hK hP 0 rfl rfl 49 (by decide) w_1 rfl rfl dX7_remembers_7 ?_
  refine lv_iconst (v := 1) hx hb dX7_remembers_10 (by decide +kernel) ?_
  refine k_iald (v := (f49 1)) hx hb hK hP 1 0 1 rfl rfl rfl (Nat.le_of_ble_eq_true rfl) (Nat.le_of_ble_eq_true rfl) rfl dX7_remembers_11 ?_
  have f_11_1 : iR (f49 1) 0 1023 := hf49 _
  refine k_put (D := (dC, dI)) (ci := 7) (v := .int (f49 1)) (C := RX7) (T := TX7) (N := 92) (ws' := [(h, .inr (7, oM r (upd (upd i 67 x1) 68 (f49 1)) j)), ((r 49), .inl (cI, 22, .inl f49)), ((r 50), .inl (cI, 22, .inl f50)), ((r 52), .inl (cI, 22, .inl f52))]) hx hb hts hinX7 tyX7 tyX7_ok nmX7 hown hK hP hD hS 0 rfl rfl 68 (by decide) w_2 rfl rfl rfl rfl (Nat.le_of_ble_eq_true rfl) rfl dX7_remembers_12 (fun H locs hP hD hS => ?_)
  refine lv_aload_n hx hb dX7_remembers_15 rfl (lv_at hl 0 rfl) ?_
  refine lv_aload_n hx hb dX7_remembers_16 rfl (lv_at hl 0 rfl) ?_
  refine k_get (D := (dC, dI)) (ci := 7) (v := .ref (r 50)) (C := RX7) (T := TX7) (N := 92) hx hb hts hinX7 hown hK hP 0 rfl rfl 50 (by decide) w_3 rfl rfl dX7_remembers_17 ?_
  refine lv_iconst (v := 1) hx hb dX7_remembers_20 (by decide +kernel) ?_
  refine k_iald (v := (f50 1)) hx hb hK hP 2 0 1 rfl rfl rfl (Nat.le_of_ble_eq_true rfl) (Nat.le_of_ble_eq_true rfl) rfl dX7_remembers_21 ?_
  have f_21_2 : iR (f50 1) 0 999 := hf50 _
  refine k_put (D := (dC, dI)) (ci := 7) (v := .int (f50 1)) (C := RX7) (T := TX7) (N := 92) (ws' := [(h, .inr (7, oM r (upd (upd (upd i 67 x1) 68 (f49 1)) 69 (f50 1)) j)), ((r 49), .inl (cI, 22, .inl f49)), ((r 50), .inl (cI, 22, .inl f50)), ((r 52), .inl (cI, 22, .inl f52))]) hx hb hts hinX7 tyX7 tyX7_ok nmX7 hown hK hP hD hS 0 rfl rfl 69 (by decide) w_4 rfl rfl rfl rfl (Nat.le_of_ble_eq_true rfl) rfl dX7_remembers_22 (fun H locs hP hD hS => ?_)
  refine lv_aload_n hx hb dX7_remembers_25 rfl (lv_at hl 0 rfl) ?_
  refine lv_aload_n hx hb dX7_remembers_26 rfl (lv_at hl 0 rfl) ?_
  refine k_get (D := (dC, dI)) (ci := 7) (v := .ref (r 52)) (C := RX7) (T := TX7) (N := 92) hx hb hts hinX7 hown hK hP 0 rfl rfl 52 (by decide) w_5 rfl rfl dX7_remembers_27 ?_
  refine lv_iconst (v := 1) hx hb dX7_remembers_30 (by decide +kernel) ?_
  refine k_iald (v := (f52 1)) hx hb hK hP 3 0 1 rfl rfl rfl (Nat.le_of_ble_eq_true rfl) (Nat.le_of_ble_eq_true rfl) rfl dX7_remembers_31 ?_
  refine k_put (D := (dC, dI)) (ci := 7) (v := .int (f52 1)) (C := RX7) (T := TX7) (N := 92) (ws' := [(h, .inr (7, oM r (upd (upd (upd (upd i 67 x1) 68 (f49 1)) 69 (f50 1)) 70 (f52 1)) j)), ((r 49), .inl (cI, 22, .inl f49)), ((r 50), .inl (cI, 22, .inl f50)), ((r 52), .inl (cI, 22, .inl f52))]) hx hb hts hinX7 tyX7 tyX7_ok nmX7 hown hK hP hD hS 0 rfl rfl 70 (by decide) w_6 rfl rfl rfl rfl (Nat.le_of_ble_eq_true rfl) rfl dX7_remembers_32 (fun H locs hP hD hS => ?_)
  refine lv_aload_n hx hb dX7_remembers_35 rfl (lv_at hl 0 rfl) ?_
  refine lv_aload_n hx hb dX7_remembers_36 rfl (lv_at hl 0 rfl) ?_
  refine k_get (D := (dC, dI)) (ci := 7) (v := .int (f50 1)) (C := RX7) (T := TX7) (N := 92) hx hb hts hinX7 hown hK hP 0 rfl rfl 69 (by decide) w_4 rfl rfl dX7_remembers_37 ?_
  refine lv_aload_n hx hb dX7_remembers_40 rfl (lv_at hl 0 rfl) ?_
  refine k_get (D := (dC, dI)) (ci := 7) (v := .int (i 71)) (C := RX7) (T := TX7) (N := 92) hx hb hts hinX7 hown hK hP 0 rfl rfl 71 (by decide) w_7 rfl rfl dX7_remembers_41 ?_
  have J_58 : ∀ (j58_S0 : Int32) (hj58_S0 : iR j58_S0 0 2147483647) (H : Heap) (locs : List Loc) (ls : Array Slot), va_P (dC, dI) vwCl [(h, .inr (7, oM r (upd (upd (upd (upd i 67 x1) 68 (f49 1)) 69 (f50 1)) 70 (f52 1)) j)), ((r 49), .inl (cI, 22, .inl f49)), ((r 50), .inl (cI, 22, .inl f50)), ((r 52), .inl (cI, 22, .inl f52))] H → va_D A [(h, .inr (7, oM r (upd (upd (upd (upd i 67 x1) 68 (f49 1)) 69 (f50 1)) 70 (f52 1)) j)), ((r 49), .inl (cI, 22, .inl f49)), ((r 50), .inl (cI, 22, .inl f50)), ((r 52), .inl (cI, 22, .inl f52))] → va_S A s.heap H locs → lv_has ls 2 [] → W p l e ({ frames := 1, cells := 0, slots := 0, locals := 40 }) s m args below meth c H locs 0 0 (MQ below (va_Qv (fun (u9 : SU) => (iR (u9.1 0) 0 2147483647)) (fun u => k_B (dC, dI) vwCl (tyy cI cJ cZ cM) A ((fun (u9 : SU) => [(h, .inr (7, oM r (upd (upd (upd (upd (upd i 67 x1) 68 (f49 1)) 69 (f50 1)) 70 (f52 1)) 71 (u9.1 0)) j)), ((r 49), .inl (cI, 22, .inl f49)), ((r 50), .inl (cI, 22, .inl f50)), ((r 52), .inl (cI, 22, .inl f52))]) u)) A) args s 0 0 A) (F0 m 58 ls [.int j58_S0, .ref h]) := by
    intro j58_S0 hj58_S0 H locs ls hP hD hS hl
    refine k_put (D := (dC, dI)) (ci := 7) (v := .int j58_S0) (C := RX7) (T := TX7) (N := 92) (ws' := [(h, .inr (7, oM r (upd (upd (upd (upd (upd i 67 x1) 68 (f49 1)) 69 (f50 1)) 70 (f52 1)) 71 j58_S0) j)), ((r 49), .inl (cI, 22, .inl f49)), ((r 50), .inl (cI, 22, .inl f50)), ((r 52), .inl (cI, 22, .inl f52))]) hx hb hts hinX7 tyX7 tyX7_ok nmX7 hown hK hP hD hS 0 rfl rfl 71 (by decide) w_7 rfl rfl rfl rfl (Nat.le_of_ble_eq_true rfl) rfl dX7_remembers_58 (fun H locs hP hD hS => ?_)
    exact k_rv B hP hD hS dX7_remembers_61 ((fun k9 => match k9 with | 0 => j58_S0 | _ => 0), (fun _ => 0), (fun _ => (fun _ => 0)), (fun _ => (fun _ => 0)), (fun _ => 0)) [0, 1, 2, 3] rfl rfl (Nat.le_of_ble_eq_true rfl) (Nat.le_of_ble_eq_true rfl) (show iR j58_S0 0 2147483647 from hj58_S0)
  refine lv_icmp_le (tgt := 54) hx hb dX7_remembers_44 (by decide) (fun c_44 => ?_) (fun c_44 => ?_)
  · have c_44 : (f50 1) ≤ (i 71) := c_44
    have f_54_3 : iR (i 71) 0 2147483647 := iR_leR c_44 f_21_2 (iR_top _) (by decide +kernel)
    refine lv_aload_n hx hb dX7_remembers_54 rfl (lv_at hl 0 rfl) ?_
    refine k_get (D := (dC, dI)) (ci := 7) (v := .int (i 71)) (C := RX7) (T := TX7) (N := 92) hx hb hts hinX7 hown hK hP 0 rfl rfl 71 (by decide) w_7 rfl rfl dX7_remembers_55 ?_
    exact J_58 (i 71) f_54_3 H locs ls hP hD hS (lv_sub hl [] rfl)
  · have c_44 : (i 71) < (f50 1) := i_nle c_44
    have f_47_3 : iR (i 71) (-2147483648) 998 := iR_ltL c_44 (iR_top _) f_21_2 (by decide +kernel)
    refine lv_aload_n hx hb dX7_remembers_47 rfl (lv_at hl 0 rfl) ?_
    refine k_get (D := (dC, dI)) (ci := 7) (v := .int (f50 1)) (C := RX7) (T := TX7) (N := 92) hx hb hts hinX7 hown hK hP 0 rfl rfl 69 (by decide) w_4 rfl rfl dX7_remembers_48 ?_
    refine lv_goto (tgt := 58) hx hb dX7_remembers_51 (by decide) ?_
    exact J_58 (f50 1) (iR_w f_21_2 (by decide +kernel)) H locs ls hP hD hS (lv_sub hl [] rfl)
set_option maxHeartbeats 8000000 in
set_option maxRecDepth 100000 in
theorem s_X7_went_v0 (l : Launch) (dC : Nat → ClassId) (dI : Nat → Nat → Nat) (cI cJ cZ cM : ClassId) (h : Nat) (r : Nat → Nat) (i : Nat → Int32) (j : Nat → Int64) (x1 : Int32) (hI : mR i) : k_Mi l yX7_went wsX7_went ({ frames := 1, cells := 0, slots := 0, locals := 40 }) (dC, dI) vwCl (tyy cI cJ cZ cM) [(h, .inr (7, oM r i j))] [.ref h, .int x1] 0 0 (fun (u9 : Unit) => [(h, .inr (7, oM r i j))]) (fun (r9 : Int32) (u9 : Unit) => True) := by
  refine fun sz => k_enter (cc := cX7_went) (maxL := 2) (ret := some (.int)) (Qc := fun A => va_Qi (fun (r9 : Int32) (u9 : Unit) => True) (fun u => k_B (dC, dI) vwCl (tyy cI cJ cZ cM) A ((fun (u9 : Unit) => [(h, .inr (7, oM r i j))]) u)) A) sz (by decide +kernel) rfl (Nat.le_of_ble_eq_true rfl) (fun p e s m args below meth c A ls H locs B hP hD hS hl => ?_)
  obtain ⟨hx, hb, hml, hown, hts, hr, hlk, hnm, hK, hA, hN, hC⟩ := id B
  have hown : s.vm.findClass RX7 = some m.cls := hown
  have hl : lv_has ls 2 [(0, .ref h), (1, .int x1)] := hl
  have w_0 : (Cond.fieldLink RX7 216 "WishSeaModel" "wentEnd" "I").before args s = true := hts _ (List.mem_of_getElem? (i := 1) rfl)
  have w_1 : (Cond.fieldLink RX7 228 "WishSeaModel" "wentMost" "I").before args s = true := hts _ (List.mem_of_getElem? (i := 5) rfl)
  have w_2 : (Cond.fieldLink RX7 225 "WishSeaModel" "wentDay" "I").before args s = true := hts _ (List.mem_of_getElem? (i := 4) rfl)
  have w_3 : (Cond.fieldLink RX7 222 "WishSeaModel" "wentSea" "I").before args s = true := hts _ (List.mem_of_getElem? (i := 3) rfl)
  have w_4 : (Cond.fieldLink RX7 219 "WishSeaModel" "wentHad" "I").before args s = true := hts _ (List.mem_of_getElem? (i := 2) rfl)
  have hinX7 : ∀ w ∈ u_ws RX7 TX7 92, w ∈ wsX7_went := fun _ h => List.mem_cons_of_mem _ (List.mem_append_right _ h)
  refine lv_aload_n hx hb dX7_went_0 rfl (lv_at hl 0 rfl) ?_
  refine k_get (D := (dC, dI)) (ci := 7) (v := .int (i 67)) (C := RX7) (T := TX7) (N := 92) hx hb hts hinX7 hown hK hP 0 rfl rfl 67 (by decide) w_0 rfl rfl dX7_went_1 ?_
  refine lv_iconst (v := (-1)) hx hb dX7_went_4 (by decide +kernel) ?_
  refine lv_icmp_ne (tgt := 10) hx hb dX7_went_5 (by decide) (fun c_5 => ?_) (fun c_5 => ?_)
  · have c_5 : ¬ (i 67) = (-1) := c_5
    refine lv_iload_n hx hb dX7_went_10 rfl (lv_at hl 1 rfl) ?_
    refine lv_if_ne (tgt := 21) hx hb dX7_went_11 (by decide) (fun c_11 => ?_) (fun c_11 => ?_)
    · have c_11 : ¬ x1 = 0 := c_11
      refine lv_iload_n hx hb dX7_went_21 rfl (lv_at hl 1 rfl) ?_
      refine lv_iconst (v := 1) hx hb dX7_went_22 (by decide +kernel) ?_
      refine lv_icmp_ne (tgt := 33) hx hb dX7_went_23 (by decide) (fun c_23 => ?_) (fun c_23 => ?_)
      · have c_23 : ¬ x1 = 1 := c_23
        refine lv_iload_n hx hb dX7_went_33 rfl (lv_at hl 1 rfl) ?_
        refine lv_iconst (v := 2) hx hb dX7_went_34 (by decide +kernel) ?_
        refine lv_icmp_ne (tgt := 45) hx hb dX7_went_35 (by decide) (fun c_35 => ?_) (fun c_35 => ?_)
        · have c_35 : ¬ x1 = 2 := c_35
          refine lv_iload_n hx hb dX7_went_45 rfl (lv_at hl 1 rfl) ?_
          refine lv_iconst (v := 3) hx hb dX7_went_46 (by decide +kernel) ?_
          refine lv_icmp_ne (tgt := 57) hx hb dX7_went_47 (by decide) (fun c_47 => ?_) (fun c_47 => ?_)
          · have c_47 : ¬ x1 = 3 := c_47
            refine lv_iload_n hx hb dX7_went_57 rfl (lv_at hl 1 rfl) ?_
            refine lv_iconst (v := 4) hx hb dX7_went_58 (by decide +kernel) ?_
            refine lv_icmp_ne (tgt := 69) hx hb dX7_went_59 (by decide) (fun c_59 => ?_) (fun c_59 => ?_)
            · have c_59 : ¬ x1 = 4 := c_59
              refine lv_iconst (v := (-1)) hx hb dX7_went_69 (by decide +kernel) ?_
              exact k_ri B hP hD hS dX7_went_70 () [0] rfl rfl rfl (Nat.le_of_ble_eq_true rfl) (Nat.le_of_ble_eq_true rfl) trivial
            · have c_59 : x1 = 4 := c_59
              have f_62_1 : iR x1 4 4 := iR_eqL c_59 (iR_top _) (iR_c (n := 4) (a := 4) (b := 4) (by decide +kernel) (by decide +kernel)) (by decide +kernel)
              refine lv_aload_n hx hb dX7_went_62 rfl (lv_at hl 0 rfl) ?_
              refine k_get (D := (dC, dI)) (ci := 7) (v := .int (i 71)) (C := RX7) (T := TX7) (N := 92) hx hb hts hinX7 hown hK hP 0 rfl rfl 71 (by decide) w_1 rfl rfl dX7_went_63 ?_
              refine lv_goto (tgt := 70) hx hb dX7_went_66 (by decide) ?_
              exact k_ri B hP hD hS dX7_went_70 () [0] rfl rfl rfl (Nat.le_of_ble_eq_true rfl) (Nat.le_of_ble_eq_true rfl) trivial
          · have c_47 : x1 = 3 := c_47
            have f_50_1 : iR x1 3 3 := iR_eqL c_47 (iR_top _) (iR_c (n := 3) (a := 3) (b := 3) (by decide +kernel) (by decide +kernel)) (by decide +kernel)
            refine lv_aload_n hx hb dX7_went_50 rfl (lv_at hl 0 rfl) ?_
            refine k_get (D := (dC, dI)) (ci := 7) (v := .int (i 70)) (C := RX7) (T := TX7) (N := 92) hx hb hts hinX7 hown hK hP 0 rfl rfl 70 (by decide) w_2 rfl rfl dX7_went_51 ?_
            refine lv_goto (tgt := 70) hx hb dX7_went_54 (by decide) ?_
            exact k_ri B hP hD hS dX7_went_70 () [0] rfl rfl rfl (Nat.le_of_ble_eq_true rfl) (Nat.le_of_ble_eq_true rfl) trivial
        · have c_35 : x1 = 2 := c_35
          have f_38_1 : iR x1 2 2 := iR_eqL c_35 (iR_top _) (iR_c (n := 2) (a := 2) (b := 2) (by decide +kernel) (by decide +kernel)) (by decide +kernel)
          refine lv_aload_n hx hb dX7_went_38 rfl (lv_at hl 0 rfl) ?_
          refine k_get (D := (dC, dI)) (ci := 7) (v := .int (i 69)) (C := RX7) (T := TX7) (N := 92) hx hb hts hinX7 hown hK hP 0 rfl rfl 69 (by decide) w_3 rfl rfl dX7_went_39 ?_
          refine lv_goto (tgt := 70) hx hb dX7_went_42 (by decide) ?_
          exact k_ri B hP hD hS dX7_went_70 () [0] rfl rfl rfl (Nat.le_of_ble_eq_true rfl) (Nat.le_of_ble_eq_true rfl) trivial
      · have c_23 : x1 = 1 := c_23
        have f_26_1 : iR x1 1 1 := iR_eqL c_23 (iR_top _) (iR_c (n := 1) (a := 1) (b := 1) (by decide +kernel) (by decide +kernel)) (by decide +kernel)
        refine lv_aload_n hx hb dX7_went_26 rfl (lv_at hl 0 rfl) ?_
        refine k_get (D := (dC, dI)) (ci := 7) (v := .int (i 68)) (C := RX7) (T := TX7) (N := 92) hx hb hts hinX7 hown hK hP 0 rfl rfl 68 (by decide) w_4 rfl rfl dX7_went_27 ?_
        refine lv_goto (tgt := 70) hx hb dX7_went_30 (by decide) ?_
        exact k_ri B hP hD hS dX7_went_70 () [0] rfl rfl rfl (Nat.le_of_ble_eq_true rfl) (Nat.le_of_ble_eq_true rfl) trivial
    · have c_11 : x1 = 0 := c_11
      have f_14_1 : iR x1 0 0 := iR_eqL c_11 (iR_top _) (iR_c (n := 0) (a := 0) (b := 0) (by decide +kernel) (by decide +kernel)) (by decide +kernel)
      refine lv_aload_n hx hb dX7_went_14 rfl (lv_at hl 0 rfl) ?_
      refine k_get (D := (dC, dI)) (ci := 7) (v := .int (i 67)) (C := RX7) (T := TX7) (N := 92) hx hb hts hinX7 hown hK hP 0 rfl rfl 67 (by decide) w_0 rfl rfl dX7_went_15 ?_
      refine lv_goto (tgt := 70) hx hb dX7_went_18 (by decide) ?_
      exact k_ri B hP hD hS dX7_went_70 () [0] rfl rfl rfl (Nat.le_of_ble_eq_true rfl) (Nat.le_of_ble_eq_true rfl) trivial
  · have c_5 : (i 67) = (-1) := c_5
    have f_8_1 : iR (i 67) (-1) (-1) := iR_eqL c_5 (iR_top _) (iR_c (n := (-1)) (a := (-1)) (b := (-1)) (by decide +kernel) (by decide +kernel)) (by decide +kernel)
    refine lv_iconst (v := (-1)) hx hb dX7_went_8 (by decide +kernel) ?_
    exact k_ri B hP hD hS dX7_went_9 () [0] rfl rfl rfl (Nat.le_of_ble_eq_true rfl) (Nat.le_of_ble_eq_true rfl) trivial
set_option maxHeartbeats 8000000 in
set_option maxRecDepth 100000 in
theorem s_X7_refuses_v5 (l : Launch) (dC : Nat → ClassId) (dI : Nat → Nat → Nat) (cI cJ cZ cM : ClassId) (h : Nat) (r : Nat → Nat) (i : Nat → Int32) (j : Nat → Int64) (x1 : Int32) (f48 : Nat → Int32) (hx1 : iR x1 0 5) (hI : mR i) : k_Mi l yX7_refuses wsX7_refuses ({ frames := 1, cells := 0, slots := 0, locals := 40 }) (dC, dI) vwCl (tyy cI cJ cZ cM) [(h, .inr (7, oM r i j)), ((r 48), .inl (cI, 6, .inl f48))] [.ref h, .int x1] 0 0 (fun (u9 : SU) => [(h, .inr (7, oM r i j)), ((r 48), .inl (cI, 6, .inl (u9.2.2.1 0)))]) (fun (r9 : Int32) (u9 : SU) => (r9 = (-1))) := by
  refine fun sz => k_enter (cc := cX7_refuses) (maxL := 2) (ret := some (.int)) (Qc := fun A => va_Qi (fun (r9 : Int32) (u9 : SU) => (r9 = (-1))) (fun u => k_B (dC, dI) vwCl (tyy cI cJ cZ cM) A ((fun (u9 : SU) => [(h, .inr (7, oM r i j)), ((r 48), .inl (cI, 6, .inl (u9.2.2.1 0)))]) u)) A) sz (by decide +kernel) rfl (Nat.le_of_ble_eq_true rfl) (fun p e s m args below meth c A ls H locs B hP hD hS hl => ?_)
  obtain ⟨hx, hb, hml, hown, hts, hr, hlk, hnm, hK, hA, hN, hC⟩ := id B
  have hown : s.vm.findClass RX7 = some m.cls := hown
  have hl : lv_has ls 2 [(0, .ref h), (1, .int x1)] := hl
  have w_0 : (Cond.fieldLink RX7 159 "WishSeaModel" "refused" "[I").before args s = true := hts _ (List.mem_of_getElem? (i := 1) rfl)
  have hinX7 : ∀ w ∈ u_ws RX7 TX7 92, w ∈ wsX7_refuses := fun _ h => List.mem_cons_of_mem _ (List.mem_append_right _ h)
  refine lv_aload_n hx hb dX7_refuses_0 rfl (lv_at hl 0 rfl) ?_
  refine k_get (D := (dC, dI)) (ci := 7) (v := .ref (r 48)) (C := RX7) (T := TX7) (N := 92) hx hb hts hinX7 hown hK hP 0 rfl rfl 48 (by decide) w_0 rfl rfl dX7_refuses_1 ?_
  refine lv_iload_n hx hb dX7_refuses_4 rfl (lv_at hl 1 rfl) ?_
  refine lv_dup2_11 hx hb dX7_refuses_5 rfl rfl ?_
  refine va_iald hx hb hK hP 1 0 rfl rfl (iR_vp hx1 (by decide +kernel)) dX7_refuses_6 ?_
  refine lv_iconst (v := 1) hx hb dX7_refuses_7 (by decide +kernel) ?_
  refine lv_iadd hx hb dX7_refuses_8 ?_
  refine lv_topi (fun y_8 ey_8 => ?_)
  refine s_iast (g := (upd f48 x1.toNatClampNeg y_8)) (ws' := [(h, .inr (7, oM r i j)), ((r 48), .inl (cI, 6, .inl (upd f48 x1.toNatClampNeg y_8)))]) hx hb hK hP hD hS 1 0 rfl rfl (iR_vp hx1 (by decide +kernel)) rfl rfl dX7_refuses_9 (fun H locs hP hD hS => ?_)
  refine lv_iconst (v := (-1)) hx hb dX7_refuses_10 (by decide +kernel) ?_
  exact k_ri B hP hD hS dX7_refuses_11 ((fun _ => 0), (fun _ => 0), (fun k9 => match k9 with | 0 => (upd f48 x1.toNatClampNeg y_8) | _ => (fun _ => 0)), (fun _ => (fun _ => 0)), (fun _ => 0)) [0, 1] rfl rfl rfl (Nat.le_of_ble_eq_true rfl) (Nat.le_of_ble_eq_true rfl) rfl
set_option maxHeartbeats 8000000 in
set_option maxRecDepth 100000 in
theorem s_X7_falls_v0 (l : Launch) (dC : Nat → ClassId) (dI : Nat → Nat → Nat) (cI cJ cZ cM : ClassId) (h : Nat) (r : Nat → Nat) (i : Nat → Int32) (j : Nat → Int64) (f0 : Nat → Int32) (f48 : Nat → Int32) (f78 : Nat → Int32) (f79 : Nat → Int32) (hI : mR i) (hf0 : aR f0 0 255) : k_Mi l yX7_falls wsX7_falls ({ frames := 2, cells := 0, slots := 0, locals := 61 }) (dC, dI) vwCl (tyy cI cJ cZ cM) [(h, .inr (7, oM r i j)), ((r 0), .inl (cI, 1800, .inl f0)), ((r 48), .inl (cI, 6, .inl f48)), ((r 78), .inl (cI, 20, .inl f78)), ((r 79), .inl (cI, 20, .inl f79))] [.ref h] 0 0 (fun (u9 : SU) => [(h, .inr (7, oM r (upd (upd i 1 0) 77 (u9.1 0)) j)), ((r 0), .inl (cI, 1800, .inl f0)), ((r 48), .inl (cI, 6, .inl (u9.2.2.1 0))), ((r 78), .inl (cI, 20, .inl (u9.2.2.1 1))), ((r 79), .inl (cI, 20, .inl (u9.2.2.1 2)))]) (fun (r9 : Int32) (u9 : SU) => (iR r9 (-1) 20) ∧ (iR (u9.1 0) 0 20)) := by
  refine fun sz => k_enter (cc := cX7_falls) (maxL := 4) (ret := some (.int)) (Qc := fun A => va_Qi (fun (r9 : Int32) (u9 : SU) => (iR r9 (-1) 20) ∧ (iR (u9.1 0) 0 20)) (fun u => k_B (dC, dI) vwCl (tyy cI cJ cZ cM) A ((fun (u9 : SU) => [(h, .inr (7, oM r (upd (upd i 1 0) 77 (u9.1 0)) j)), ((r 0), .inl (cI, 1800, .inl f0)), ((r 48), .inl (cI, 6, .inl (u9.2.2.1 0))), ((r 78), .inl (cI, 20, .inl (u9.2.2.1 1))), ((r 79), .inl (cI, 20, .inl (u9.2.2.1 2)))]) u)) A) sz (by decide +kernel) rfl (Nat.le_of_ble_eq_true rfl) (fun p e s m args below meth c A ls H locs B hP hD hS hl => ?_)
  obtain ⟨hx, hb, hml, hown, hts, hr, hlk, hnm, hK, hA, hN, hC⟩ := id B
  have hown : s.vm.findClass RX7 = some m.cls := hown
  have hl : lv_has ls 4 [(0, .ref h)] := hl
  have w_0 : (Cond.fieldLink RX7 13 "WishSeaModel" "taped" "I").before args s = true := hts _ (List.mem_of_getElem? (i := 1) rfl)
  have w_1 : (Cond.fieldLink RX7 246 "WishSeaModel" "fallMany" "I").before args s = true := hts _ (List.mem_of_getElem? (i := 3) rfl)
  have w_2 : (Cond.fieldLink RX7 249 "WishSeaModel" "fallDark" "[I").before args s = true := hts _ (List.mem_of_getElem? (i := 4) rfl)
  have w_3 : (Cond.fieldLink RX7 7 "WishSeaModel" "tape" "[I").before args s = true := hts _ (List.mem_of_getElem? (i := 2) rfl)
  have w_4 : (Cond.fieldLink RX7 252 "WishSeaModel" "fallIs" "[I").before args s = true := hts _ (List.mem_of_getElem? (i := 5) rfl)
  have hinX7 : ∀ w ∈ u_ws RX7 TX7 92, w ∈ wsX7_falls := fun _ h => List.mem_cons_of_mem _ (List.mem_append_right _ h)
  refine lv_aload_n hx hb dX7_falls_0 rfl (lv_at hl 0 rfl) ?_
  have f_1_1 : iR (i 1) 0 1600 := hI 1
  refine k_get (D := (dC, dI)) (ci := 7) (v := .int (i 1)) (C := RX7) (T := TX7) (N := 92) hx hb hts hinX7 hown hK hP 0 rfl rfl 1 (by decide) w_0 rfl rfl dX7_falls_1 ?_
  refine lv_istore_n (lv' := [(1, .int (i 1)), (0, .ref h)]) hx hb dX7_falls_4 rfl hl (by decide) rfl (fun ls hl => ?_)
  refine lv_aload_n hx hb dX7_falls_5 rfl (lv_at hl 1 rfl) ?_
  refine lv_iconst (v := 0) hx hb dX7_falls_6 (by decide +kernel) ?_
  refine k_put (D := (dC, dI)) (ci := 7) (v := .int 0) (C := RX7) (T := TX7) (N := 92) (ws' := [(h, .inr (7, oM r (upd i 1 0) j)), ((r 0), .inl (cI, 1800, .inl f0)), ((r 48), .inl (cI, 6, .inl f48)), ((r 78), .inl (cI, 20, .inl f78)), ((r 79), .inl (cI, 20, .inl f79))]) hx hb hts hinX7 tyX7 tyX7_ok nmX7 hown hK hP hD hS 0 rfl rfl 1 (by decide) w_0 rfl rfl rfl rfl (Nat.le_of_ble_eq_true rfl) rfl dX7_falls_7 (fun H locs hP hD hS => ?_)
  refine lv_iload_n hx hb dX7_falls_10 rfl (lv_at hl 0 rfl) ?_
  have J_30 : ∀   (H : Heap) (locs : List Loc) (ls : Array Slot), va_P (dC, dI) vwCl [(h, .inr (7, oM r (upd i 1 0) j)), ((r 0), .inl (cI, 1800, .inl f0)), ((r 48), .inl (cI, 6, .inl f48)), ((r 78), .inl (cI, 20, .inl f78)), ((r 79), .inl (cI, 20, .inl f79))] H → va_D A [(h, .inr (7, oM r (upd i 1 0) j)), ((r 0), .inl (cI, 1800, .inl f0)), ((r 48), .inl (cI, 6, .inl f48)), ((r 78), .inl (cI, 20, .inl f78)), ((r 79), .inl (cI, 20, .inl f79))] → va_S A s.heap H locs → lv_has ls 4 [(0, .ref h), (1, .int (i 1))] → W p l e ({ frames := 2, cells := 0, slots := 0, locals := 61 }) s m args below meth c H locs 0 0 (MQ below (va_Qi (fun (r9 : Int32) (u9 : SU) => (iR r9 (-1) 20) ∧ (iR (u9.1 0) 0 20)) (fun u => k_B (dC, dI) vwCl (tyy cI cJ cZ cM) A ((fun (u9 : SU) => [(h, .inr (7, oM r (upd (upd i 1 0) 77 (u9.1 0)) j)), ((r 0), .inl (cI, 1800, .inl f0)), ((r 48), .inl (cI, 6, .inl (u9.2.2.1 0))), ((r 78), .inl (cI, 20, .inl (u9.2.2.1 1))), ((r 79), .inl (cI, 20, .inl (u9.2.2.1 2)))]) u)) A) args s 0 0 A) (F0 m 30 ls []) := by
    intro   H locs ls hP hD hS hl
    refine lv_iconst (v := 0) hx hb dX7_falls_30 (by decide +kernel) ?_
    refine lv_istore_n (lv' := [(2, .int 0), (0, .ref h), (1, .int (i 1))]) hx hb dX7_falls_31 rfl hl (by decide) rfl (fun ls hl => ?_)
    refine lv_iconst (v := 2) hx hb dX7_falls_32 (by decide +kernel) ?_
    have J_34p30 : ∀ (n_34p30 : Nat)   (hm_34p30 : 0 < n_34p30) (H : Heap) (locs : List Loc) (ls : Array Slot), va_P (dC, dI) vwCl [(h, .inr (7, oM r (upd i 1 0) j)), ((r 0), .inl (cI, 1800, .inl f0)), ((r 48), .inl (cI, 6, .inl f48)), ((r 78), .inl (cI, 20, .inl f78)), ((r 79), .inl (cI, 20, .inl f79))] H → va_D A [(h, .inr (7, oM r (upd i 1 0) j)), ((r 0), .inl (cI, 1800, .inl f0)), ((r 48), .inl (cI, 6, .inl f48)), ((r 78), .inl (cI, 20, .inl f78)), ((r 79), .inl (cI, 20, .inl f79))] → va_S A s.heap H locs → lv_has ls 4 [(0, .ref h), (1, .int (i 1)), (2, .int 0), (3, .int 2)] → W p l e ({ frames := 2, cells := 0, slots := 0, locals := 61 }) s m args below meth c H locs 0 0 (MQ below (va_Qi (fun (r9 : Int32) (u9 : SU) => (iR r9 (-1) 20) ∧ (iR (u9.1 0) 0 20)) (fun u => k_B (dC, dI) vwCl (tyy cI cJ cZ cM) A ((fun (u9 : SU) => [(h, .inr (7, oM r (upd (upd i 1 0) 77 (u9.1 0)) j)), ((r 0), .inl (cI, 1800, .inl f0)), ((r 48), .inl (cI, 6, .inl (u9.2.2.1 0))), ((r 78), .inl (cI, 20, .inl (u9.2.2.1 1))), ((r 79), .inl (cI, 20, .inl (u9.2.2.1 2)))]) u)) A) args s 0 0 A) (F0 m 34 ls []) := by
      intro n_34p30
      induction n_34p30 with
      | zero => intro   hm_34p30; exact absurd hm_34p30 (Nat.not_lt_zero _)
      | succ n_34p30 ih_34p30 =>
        intro   hm_34p30 H locs ls hP hD hS hl
        refine lv_iload_n hx hb dX7_falls_34 rfl (lv_at hl 3 rfl) ?_
        refine lv_iload_n hx hb dX7_falls_35 rfl (lv_at hl 1 rfl) ?_
        have J_65p30 : ∀   (H : Heap) (locs : List Loc) (ls : Array Slot), va_P (dC, dI) vwCl [(h, .inr (7, oM r (upd i 1 0) j)), ((r 0), .inl (cI, 1800, .inl f0)), ((r 48), .inl (cI, 6, .inl f48)), ((r 78), .inl (cI, 20, .inl f78)), ((r 79), .inl (cI, 20, .inl f79))] H → va_D A [(h, .inr (7, oM r (upd i 1 0) j)), ((r 0), .inl (cI, 1800, .inl f0)), ((r 48), .inl (cI, 6, .inl f48)), ((r 78), .inl (cI, 20, .inl f78)), ((r 79), .inl (cI, 20, .inl f79))] → va_S A s.heap H locs → lv_has ls 4 [(0, .ref h), (1, .int (i 1)), (2, .int 0)] → W p l e ({ frames := 2, cells := 0, slots := 0, locals := 61 }) s m args below meth c H locs 0 0 (MQ below (va_Qi (fun (r9 : Int32) (u9 : SU) => (iR r9 (-1) 20) ∧ (iR (u9.1 0) 0 20)) (fun u => k_B (dC, dI) vwCl (tyy cI cJ cZ cM) A ((fun (u9 : SU) => [(h, .inr (7, oM r (upd (upd i 1 0) 77 (u9.1 0)) j)), ((r 0), .inl (cI, 1800, .inl f0)), ((r 48), .inl (cI, 6, .inl (u9.2.2.1 0))), ((r 78), .inl (cI, 20, .inl (u9.2.2.1 1))), ((r 79), .inl (cI, 20, .inl (u9.2.2.1 2)))]) u)) A) args s 0 0 A) (F0 m 65 ls []) := by
          intro   H locs ls hP hD hS hl
          refine lv_iload_n hx hb dX7_falls_65 rfl (lv_at hl 2 rfl) ?_
          refine lv_if_ne (tgt := 75) hx hb dX7_falls_66 (by decide) (fun q9 => absurd q9 (by decide +kernel)) (fun _ => ?_)
          refine lv_aload_n hx hb dX7_falls_69 rfl (lv_at hl 0 rfl) ?_
          refine lv_iconst (v := 5) hx hb dX7_falls_70 (by decide +kernel) ?_
          refine k_ci (wc := [(h, .inr (7, oM r (upd i 1 0) j)), ((r 48), .inl (cI, 6, .inl f48))]) (wr := [((r 0), .inl (cI, 1800, .inl f0)), ((r 78), .inl (cI, 20, .inl f78)), ((r 79), .inl (cI, 20, .inl f79))]) (fun hPc hDc hFc => va_runV (As := [.int 5]) (rest := []) ⟨hx, hb, hml, hown, hts⟩ (s_X7_refuses_v5 l dC dI cI cJ cZ cM h r (upd i 1 0) j 5 f48 (iR_c (n := 5) (a := 0) (b := 5) (by decide +kernel) (by decide +kernel)) (mR_upd 1 hI (show iR _ (loI 1) (hiI 1) from (iR_c (n := 0) (a := 0) (b := 1600) (by decide +kernel) (by decide +kernel)))) H.size) (cwV 1 hts gX7_falls_X7_refuses rfl rfl rfl (by decide +kernel) ⟨(Nat.le_of_ble_eq_true rfl), (Nat.le_of_ble_eq_true rfl)⟩) (k_pV hPc hDc hK hN hC hS hFc hP (q0 := 0) (ci := 7) rfl rfl) rfl rfl hl.1 rfl (lv_room (Nat.le_of_ble_eq_true rfl)) dX7_falls_71 ⟨(Nat.le_of_ble_eq_true rfl), (Nat.le_of_ble_eq_true rfl)⟩) hP hD hS hA [0, 2] [1, 3, 4] rfl rfl rfl rfl (by decide) (fun _ => rfl) 0 0 rfl rfl (fun r_71p30 u_71p30 H locs hw hP hD hS => ?_)
          have g_71p30_0 := hw
          obtain rfl : r_71p30 = (-1) := g_71p30_0
          have hP : va_P (dC, dI) vwCl [((r 0), .inl (cI, 1800, .inl f0)), ((r 78), .inl (cI, 20, .inl f78)), ((r 79), .inl (cI, 20, .inl f79)), (h, .inr (7, oM r (upd i 1 0) j)), ((r 48), .inl (cI, 6, .inl (u_71p30.2.2.1 0)))] H := hP
          have hD : va_D A [((r 0), .inl (cI, 1800, .inl f0)), ((r 78), .inl (cI, 20, .inl f78)), ((r 79), .inl (cI, 20, .inl f79)), (h, .inr (7, oM r (upd i 1 0) j)), ((r 48), .inl (cI, 6, .inl (u_71p30.2.2.1 0)))] := hD
          exact k_ri B hP hD hS dX7_falls_74 ((fun k9 => match k9 with | 0 => (i 77) | _ => 0), (fun _ => 0), (fun k9 => match k9 with | 0 => (u_71p30.2.2.1 0) | 1 => f78 | 2 => f79 | _ => (fun _ => 0)), (fun _ => (fun _ => 0)), (fun _ => 0)) [3, 0, 4, 1, 2] rfl rfl rfl (Nat.le_of_ble_eq_true rfl) (Nat.le_of_ble_eq_true rfl) ⟨(show iR (-1) (-1) 20 from (iR_c (n := (-1)) (a := (-1)) (b := 20) (by decide +kernel) (by decide +kernel))), (show iR (i 77) 0 20 from (hI 77))⟩
        refine lv_icmp_ge (tgt := 65) hx hb dX7_falls_36 (by decide) (fun c_36p30 => ?_) (fun c_36p30 => ?_)
        · have c_36p30 : (i 1) ≤ 2 := c_36p30
          have f_65p30_1 : iR (i 1) 0 2 := iR_leL c_36p30 f_1_1 (iR_c (n := 2) (a := 2) (b := 2) (by decide +kernel) (by decide +kernel)) (by decide +kernel)
          exact J_65p30   H locs ls hP hD hS (lv_sub hl [0, 1, 2] rfl)
        · have c_36p30 : 2 < (i 1) := i_nle c_36p30
          have f_39p30_1 : iR (i 1) 3 1600 := iR_ltR c_36p30 (iR_c (n := 2) (a := 2) (b := 2) (by decide +kernel) (by decide +kernel)) f_1_1 (by decide +kernel)
          refine lv_iload_n hx hb dX7_falls_39 rfl (lv_at hl 2 rfl) ?_
          refine lv_if_eq (tgt := 65) hx hb dX7_falls_40 (by decide) (fun _ => ?_) (fun q9 => absurd q9 (by decide +kernel))
          exact J_65p30   H locs ls hP hD hS (lv_sub hl [0, 1, 2] rfl)
    refine lv_istore_n (lv' := [(3, .int 2), (2, .int 0), (0, .ref h), (1, .int (i 1))]) hx hb dX7_falls_33 rfl hl (by decide) rfl (fun ls hl => ?_)
    exact J_34p30 _   (Nat.lt_succ_self _) H locs ls hP hD hS (lv_sub hl [2, 3, 1, 0] rfl)
  refine lv_if_le (tgt := 30) hx hb dX7_falls_11 (by decide) (fun c_11 => ?_) (fun c_11 => ?_)
  · have c_11 : (i 1) ≤ 0 := c_11
    have f_30_2 : iR (i 1) 0 0 := iR_leL c_11 f_1_1 (iR_c (n := 0) (a := 0) (b := 0) (by decide +kernel) (by decide +kernel)) (by decide +kernel)
    exact J_30   H locs ls hP hD hS (lv_sub hl [1, 0] rfl)
  · have c_11 : 0 < (i 1) := i_nle c_11
    have f_14_2 : iR (i 1) 1 1600 := iR_ltR c_11 (iR_c (n := 0) (a := 0) (b := 0) (by decide +kernel) (by decide +kernel)) f_1_1 (by decide +kernel)
    refine lv_iload_n hx hb dX7_falls_14 rfl (lv_at hl 0 rfl) ?_
    refine lv_iconst (v := 3) hx hb dX7_falls_15 (by decide +kernel) ?_
    refine lv_irem hx hb dX7_falls_16 (i_nz (iR_c (n := 3) (a := 3) (b := 3) (by decide +kernel) (by decide +kernel)) (by decide +kernel)) ?_
    refine lv_topi (fun y_16 ey_16 => ?_)
    have f_16_3 : iR y_16 0 2 := iR_rem ey_16 f_14_2 (iR_c (n := 3) (a := 3) (b := 3) (by decide +kernel) (by decide +kernel)) (by decide +kernel)
    refine lv_if_ne (tgt := 30) hx hb dX7_falls_17 (by decide) (fun c_17 => ?_) (fun c_17 => ?_)
    · have c_17 : ¬ y_16 = 0 := c_17
      have f_30_4 : iR y_16 1 2 := iR_neL c_17 f_16_3 (iR_c (n := 0) (a := 0) (b := 0) (by decide +kernel) (by decide +kernel)) (by decide +kernel)
      exact J_30   H locs ls hP hD hS (lv_sub hl [1, 0] rfl)
    · have c_17 : y_16 = 0 := c_17
      have f_20_4 : iR y_16 0 0 := iR_eqL c_17 f_16_3 (iR_c (n := 0) (a := 0) (b := 0) (by decide +kernel) (by decide +kernel)) (by decide +kernel)
      refine lv_iload_n hx hb dX7_falls_20 rfl (lv_at hl 0 rfl) ?_
      refine lv_bipush (v := 60) hx hb dX7_falls_21 (by decide +kernel) ?_
      refine lv_icmp_gt (tgt := 30) hx hb dX7_falls_23 (by decide) (fun c_23 => ?_) (fun c_23 => ?_)
      · have c_23 : 60 < (i 1) := c_23
        have f_30_5 : iR (i 1) 61 1600 := iR_ltR c_23 (iR_c (n := 60) (a := 60) (b := 60) (by decide +kernel) (by decide +kernel)) f_14_2 (by decide +kernel)
        exact J_30   H locs ls hP hD hS (lv_sub hl [1, 0] rfl)
      · have c_23 : (i 1) ≤ 60 := i_nlt c_23
        have f_26_5 : iR (i 1) 1 60 := iR_leL c_23 f_14_2 (iR_c (n := 60) (a := 60) (b := 60) (by decide +kernel) (by decide +kernel)) (by decide +kernel)
        refine lv_iconst (v := 1) hx hb dX7_falls_26 (by decide +kernel) ?_
        refine lv_goto (tgt := 31) hx hb dX7_falls_27 (by decide) ?_
        refine lv_istore_n (lv' := [(2, .int 1), (1, .int (i 1)), (0, .ref h)]) hx hb dX7_falls_31 rfl hl (by decide) rfl (fun ls hl => ?_)
        refine lv_iconst (v := 2) hx hb dX7_falls_32 (by decide +kernel) ?_
        have J_34p27 : ∀ (n_34p27 : Nat) (j34p27_L2 : Int32) (j34p27_L3 : Int32) (hj34p27_L2 : iR j34p27_L2 0 1) (hj34p27_L3 : iR j34p27_L3 2 80) (hm_34p27 : (80 - j34p27_L3.toInt).toNat < n_34p27) (H : Heap) (locs : List Loc) (ls : Array Slot), va_P (dC, dI) vwCl [(h, .inr (7, oM r (upd i 1 0) j)), ((r 0), .inl (cI, 1800, .inl f0)), ((r 48), .inl (cI, 6, .inl f48)), ((r 78), .inl (cI, 20, .inl f78)), ((r 79), .inl (cI, 20, .inl f79))] H → va_D A [(h, .inr (7, oM r (upd i 1 0) j)), ((r 0), .inl (cI, 1800, .inl f0)), ((r 48), .inl (cI, 6, .inl f48)), ((r 78), .inl (cI, 20, .inl f78)), ((r 79), .inl (cI, 20, .inl f79))] → va_S A s.heap H locs → lv_has ls 4 [(0, .ref h), (1, .int (i 1)), (2, .int j34p27_L2), (3, .int j34p27_L3)] → W p l e ({ frames := 2, cells := 0, slots := 0, locals := 61 }) s m args below meth c H locs 0 0 (MQ below (va_Qi (fun (r9 : Int32) (u9 : SU) => (iR r9 (-1) 20) ∧ (iR (u9.1 0) 0 20)) (fun u => k_B (dC, dI) vwCl (tyy cI cJ cZ cM) A ((fun (u9 : SU) => [(h, .inr (7, oM r (upd (upd i 1 0) 77 (u9.1 0)) j)), ((r 0), .inl (cI, 1800, .inl f0)), ((r 48), .inl (cI, 6, .inl (u9.2.2.1 0))), ((r 78), .inl (cI, 20, .inl (u9.2.2.1 1))), ((r 79), .inl (cI, 20, .inl (u9.2.2.1 2)))]) u)) A) args s 0 0 A) (F0 m 34 ls []) := by
          intro n_34p27
          induction n_34p27 with
          | zero => intro j34p27_L2 j34p27_L3 hj34p27_L2 hj34p27_L3 hm_34p27; exact absurd hm_34p27 (Nat.not_lt_zero _)
          | succ n_34p27 ih_34p27 =>
            intro j34p27_L2 j34p27_L3 hj34p27_L2 hj34p27_L3 hm_34p27 H locs ls hP hD hS hl
            refine lv_iload_n hx hb dX7_falls_34 rfl (lv_at hl 3 rfl) ?_
            refine lv_iload_n hx hb dX7_falls_35 rfl (lv_at hl 1 rfl) ?_
            have J_65p27 : ∀   (H : Heap) (locs : List Loc) (ls : Array Slot), va_P (dC, dI) vwCl [(h, .inr (7, oM r (upd i 1 0) j)), ((r 0), .inl (cI, 1800, .inl f0)), ((r 48), .inl (cI, 6, .inl f48)), ((r 78), .inl (cI, 20, .inl f78)), ((r 79), .inl (cI, 20, .inl f79))] H → va_D A [(h, .inr (7, oM r (upd i 1 0) j)), ((r 0), .inl (cI, 1800, .inl f0)), ((r 48), .inl (cI, 6, .inl f48)), ((r 78), .inl (cI, 20, .inl f78)), ((r 79), .inl (cI, 20, .inl f79))] → va_S A s.heap H locs → lv_has ls 4 [(0, .ref h), (1, .int (i 1)), (2, .int j34p27_L2)] → W p l e ({ frames := 2, cells := 0, slots := 0, locals := 61 }) s m args below meth c H locs 0 0 (MQ below (va_Qi (fun (r9 : Int32) (u9 : SU) => (iR r9 (-1) 20) ∧ (iR (u9.1 0) 0 20)) (fun u => k_B (dC, dI) vwCl (tyy cI cJ cZ cM) A ((fun (u9 : SU) => [(h, .inr (7, oM r (upd (upd i 1 0) 77 (u9.1 0)) j)), ((r 0), .inl (cI, 1800, .inl f0)), ((r 48), .inl (cI, 6, .inl (u9.2.2.1 0))), ((r 78), .inl (cI, 20, .inl (u9.2.2.1 1))), ((r 79), .inl (cI, 20, .inl (u9.2.2.1 2)))]) u)) A) args s 0 0 A) (F0 m 65 ls []) := by
              intro   H locs ls hP hD hS hl
              refine lv_iload_n hx hb dX7_falls_65 rfl (lv_at hl 2 rfl) ?_
              refine lv_if_ne (tgt := 75) hx hb dX7_falls_66 (by decide) (fun c_66p27 => ?_) (fun c_66p27 => ?_)
              · have c_66p27 : ¬ j34p27_L2 = 0 := c_66p27
                have f_75p27_1 : iR j34p27_L2 1 1 := iR_neL c_66p27 hj34p27_L2 (iR_c (n := 0) (a := 0) (b := 0) (by decide +kernel) (by decide +kernel)) (by decide +kernel)
                refine lv_aload_n hx hb dX7_falls_75 rfl (lv_at hl 0 rfl) ?_
                refine lv_iload_n hx hb dX7_falls_76 rfl (lv_at hl 1 rfl) ?_
                refine lv_iconst (v := 3) hx hb dX7_falls_77 (by decide +kernel) ?_
                refine lv_idiv hx hb dX7_falls_78 (i_nz (iR_c (n := 3) (a := 3) (b := 3) (by decide +kernel) (by decide +kernel)) (by decide +kernel)) ?_
                refine lv_topi (fun y_78p27 ey_78p27 => ?_)
                have f_78p27_2 : iR y_78p27 0 20 := iR_div ey_78p27 f_26_5 (iR_c (n := 3) (a := 3) (b := 3) (by decide +kernel) (by decide +kernel)) (by decide +kernel)
                refine k_put (D := (dC, dI)) (ci := 7) (v := .int y_78p27) (C := RX7) (T := TX7) (N := 92) (ws' := [(h, .inr (7, oM r (upd (upd i 1 0) 77 y_78p27) j)), ((r 0), .inl (cI, 1800, .inl f0)), ((r 48), .inl (cI, 6, .inl f48)), ((r 78), .inl (cI, 20, .inl f78)), ((r 79), .inl (cI, 20, .inl f79))]) hx hb hts hinX7 tyX7 tyX7_ok nmX7 hown hK hP hD hS 0 rfl rfl 77 (by decide) w_1 rfl rfl rfl rfl (Nat.le_of_ble_eq_true rfl) rfl dX7_falls_79 (fun H locs hP hD hS => ?_)
                refine lv_iconst (v := 0) hx hb dX7_falls_82 (by decide +kernel) ?_
                have J_84p27 : ∀ (n_84p27 : Nat) (j84p27_A3 : Nat → Int32) (j84p27_A4 : Nat → Int32) (j84p27_L3 : Int32) (hj84p27_L3 : iR j84p27_L3 0 20) (hm_84p27 : (20 - j84p27_L3.toInt).toNat < n_84p27) (H : Heap) (locs : List Loc) (ls : Array Slot), va_P (dC, dI) vwCl [(h, .inr (7, oM r (upd (upd i 1 0) 77 y_78p27) j)), ((r 0), .inl (cI, 1800, .inl f0)), ((r 48), .inl (cI, 6, .inl f48)), ((r 78), .inl (cI, 20, .inl j84p27_A3)), ((r 79), .inl (cI, 20, .inl j84p27_A4))] H → va_D A [(h, .inr (7, oM r (upd (upd i 1 0) 77 y_78p27) j)), ((r 0), .inl (cI, 1800, .inl f0)), ((r 48), .inl (cI, 6, .inl f48)), ((r 78), .inl (cI, 20, .inl j84p27_A3)), ((r 79), .inl (cI, 20, .inl j84p27_A4))] → va_S A s.heap H locs → lv_has ls 4 [(0, .ref h), (3, .int j84p27_L3)] → W p l e ({ frames := 2, cells := 0, slots := 0, locals := 61 }) s m args below meth c H locs 0 0 (MQ below (va_Qi (fun (r9 : Int32) (u9 : SU) => (iR r9 (-1) 20) ∧ (iR (u9.1 0) 0 20)) (fun u => k_B (dC, dI) vwCl (tyy cI cJ cZ cM) A ((fun (u9 : SU) => [(h, .inr (7, oM r (upd (upd i 1 0) 77 (u9.1 0)) j)), ((r 0), .inl (cI, 1800, .inl f0)), ((r 48), .inl (cI, 6, .inl (u9.2.2.1 0))), ((r 78), .inl (cI, 20, .inl (u9.2.2.1 1))), ((r 79), .inl (cI, 20, .inl (u9.2.2.1 2)))]) u)) A) args s 0 0 A) (F0 m 84 ls []) := by
                  intro n_84p27
                  induction n_84p27 with
                  | zero => intro j84p27_A3 j84p27_A4 j84p27_L3 hj84p27_L3 hm_84p27; exact absurd hm_84p27 (Nat.not_lt_zero _)
                  | succ n_84p27 ih_84p27 =>
                    intro j84p27_A3 j84p27_A4 j84p27_L3 hj84p27_L3 hm_84p27 H locs ls hP hD hS hl
                    refine lv_iload_n hx hb dX7_falls_84 rfl (lv_at hl 1 rfl) ?_
                    refine lv_aload_n hx hb dX7_falls_85 rfl (lv_at hl 0 rfl) ?_
                    refine k_get (D := (dC, dI)) (ci := 7) (v := .int y_78p27) (C := RX7) (T := TX7) (N := 92) hx hb hts hinX7 hown hK hP 0 rfl rfl 77 (by decide) w_1 rfl rfl dX7_falls_86 ?_
                    refine lv_icmp_ge (tgt := 142) hx hb dX7_falls_89 (by decide) (fun c_89p27 => ?_) (fun c_89p27 => ?_)
                    · have c_89p27 : y_78p27 ≤ j84p27_L3 := c_89p27
                      refine lv_aload_n hx hb dX7_falls_142 rfl (lv_at hl 0 rfl) ?_
                      refine k_get (D := (dC, dI)) (ci := 7) (v := .int y_78p27) (C := RX7) (T := TX7) (N := 92) hx hb hts hinX7 hown hK hP 0 rfl rfl 77 (by decide) w_1 rfl rfl dX7_falls_143 ?_
                      exact k_ri B hP hD hS dX7_falls_146 ((fun k9 => match k9 with | 0 => y_78p27 | _ => 0), (fun _ => 0), (fun k9 => match k9 with | 0 => f48 | 1 => j84p27_A3 | 2 => j84p27_A4 | _ => (fun _ => 0)), (fun _ => (fun _ => 0)), (fun _ => 0)) [0, 1, 2, 3, 4] rfl rfl rfl (Nat.le_of_ble_eq_true rfl) (Nat.le_of_ble_eq_true rfl) ⟨(show iR y_78p27 (-1) 20 from (iR_w f_78p27_2 (by decide +kernel))), (show iR y_78p27 0 20 from f_78p27_2)⟩
                    · have c_89p27 : j84p27_L3 < y_78p27 := i_nle c_89p27
                      have f_92p27_1 : iR j84p27_L3 0 19 := iR_ltL c_89p27 hj84p27_L3 f_78p27_2 (by decide +kernel)
                      have f_92p27_2 : iR y_78p27 1 20 := iR_ltR c_89p27 hj84p27_L3 f_78p27_2 (by decide +kernel)
                      refine lv_aload_n hx hb dX7_falls_92 rfl (lv_at hl 0 rfl) ?_
                      refine k_get (D := (dC, dI)) (ci := 7) (v := .ref (r 78)) (C := RX7) (T := TX7) (N := 92) hx hb hts hinX7 hown hK hP 0 rfl rfl 78 (by decide) w_2 rfl rfl dX7_falls_93 ?_
                      refine lv_iload_n hx hb dX7_falls_96 rfl (lv_at hl 1 rfl) ?_
                      refine lv_aload_n hx hb dX7_falls_97 rfl (lv_at hl 0 rfl) ?_
                      refine k_get (D := (dC, dI)) (ci := 7) (v := .ref (r 0)) (C := RX7) (T := TX7) (N := 92) hx hb hts hinX7 hown hK hP 0 rfl rfl 0 (by decide) w_3 rfl rfl dX7_falls_98 ?_
                      refine lv_iconst (v := 3) hx hb dX7_falls_101 (by decide +kernel) ?_
                      refine lv_iload_n hx hb dX7_falls_102 rfl (lv_at hl 1 rfl) ?_
                      refine lv_imul hx hb dX7_falls_103 ?_
                      refine lv_topi (fun y_103p27 ey_103p27 => ?_)
                      have f_103p27_3 : iR y_103p27 0 57 := iR_mul ey_103p27 (iR_c (n := 3) (a := 3) (b := 3) (by decide +kernel) (by decide +kernel)) f_92p27_1 (by decide +kernel)
                      refine va_iald hx hb hK hP 1 0 rfl rfl (iR_vp f_103p27_3 (by decide +kernel)) dX7_falls_104 ?_
                      have f_104p27_4 : iR (f0 y_103p27.toNatClampNeg) 0 255 := hf0 _
                      refine lv_bipush (v := 8) hx hb dX7_falls_105 (by decide +kernel) ?_
                      refine lv_ishl hx hb dX7_falls_107 ?_
                      refine lv_topi (fun y_107p27 ey_107p27 => ?_)
                      have f_107p27_5 : iR y_107p27 0 65280 := iR_shl 8 ey_107p27 f_104p27_4 (iR_c (n := 8) (a := 8) (b := 8) (by decide +kernel) (by decide +kernel)) (by decide +kernel)
                      refine lv_aload_n hx hb dX7_falls_108 rfl (lv_at hl 0 rfl) ?_
                      refine k_get (D := (dC, dI)) (ci := 7) (v := .ref (r 0)) (C := RX7) (T := TX7) (N := 92) hx hb hts hinX7 hown hK hP 0 rfl rfl 0 (by decide) w_3 rfl rfl dX7_falls_109 ?_
                      refine lv_iconst (v := 3) hx hb dX7_falls_112 (by decide +kernel) ?_
                      refine lv_iload_n hx hb dX7_falls_113 rfl (lv_at hl 1 rfl) ?_
                      refine lv_imul hx hb dX7_falls_114 ?_
                      refine lv_topi (fun y_114p27 ey_114p27 => ?_)
                      have f_114p27_6 : iR y_114p27 0 57 := iR_mul ey_114p27 (iR_c (n := 3) (a := 3) (b := 3) (by decide +kernel) (by decide +kernel)) f_92p27_1 (by decide +kernel)
                      refine lv_iconst (v := 1) hx hb dX7_falls_115 (by decide +kernel) ?_
                      refine lv_iadd hx hb dX7_falls_116 ?_
                      refine lv_topi (fun y_116p27 ey_116p27 => ?_)
                      have f_116p27_7 : iR y_116p27 1 58 := iR_add ey_116p27 f_114p27_6 (iR_c (n := 1) (a := 1) (b := 1) (by decide +kernel) (by decide +kernel)) (by decide +kernel)
                      refine va_iald hx hb hK hP 1 0 rfl rfl (iR_vp f_116p27_7 (by decide +kernel)) dX7_falls_117 ?_
                      have f_117p27_8 : iR (f0 y_116p27.toNatClampNeg) 0 255 := hf0 _
                      refine lv_ior hx hb dX7_falls_118 ?_
                      refine lv_topi (fun y_118p27 ey_118p27 => ?_)
                      have f_118p27_9 : iR y_118p27 0 65535 := iR_or 16 ey_118p27 f_107p27_5 f_117p27_8 (by decide +kernel)
                      refine s_iast (g := (upd j84p27_A3 j84p27_L3.toNatClampNeg y_118p27)) (ws' := [(h, .inr (7, oM r (upd (upd i 1 0) 77 y_78p27) j)), ((r 0), .inl (cI, 1800, .inl f0)), ((r 48), .inl (cI, 6, .inl f48)), ((r 78), .inl (cI, 20, .inl (upd j84p27_A3 j84p27_L3.toNatClampNeg y_118p27))), ((r 79), .inl (cI, 20, .inl j84p27_A4))]) hx hb hK hP hD hS 3 0 rfl rfl (iR_vp f_92p27_1 (by decide +kernel)) rfl rfl dX7_falls_119 (fun H locs hP hD hS => ?_)
                      refine lv_aload_n hx hb dX7_falls_120 rfl (lv_at hl 0 rfl) ?_
                      refine k_get (D := (dC, dI)) (ci := 7) (v := .ref (r 79)) (C := RX7) (T := TX7) (N := 92) hx hb hts hinX7 hown hK hP 0 rfl rfl 79 (by decide) w_4 rfl rfl dX7_falls_121 ?_
                      refine lv_iload_n hx hb dX7_falls_124 rfl (lv_at hl 1 rfl) ?_
                      refine lv_aload_n hx hb dX7_falls_125 rfl (lv_at hl 0 rfl) ?_
                      refine k_get (D := (dC, dI)) (ci := 7) (v := .ref (r 0)) (C := RX7) (T := TX7) (N := 92) hx hb hts hinX7 hown hK hP 0 rfl rfl 0 (by decide) w_3 rfl rfl dX7_falls_126 ?_
                      refine lv_iconst (v := 3) hx hb dX7_falls_129 (by decide +kernel) ?_
                      refine lv_iload_n hx hb dX7_falls_130 rfl (lv_at hl 1 rfl) ?_
                      refine lv_imul hx hb dX7_falls_131 ?_
                      refine lv_topi (fun y_131p27 ey_131p27 => ?_)
                      have f_131p27_10 : iR y_131p27 0 57 := iR_mul ey_131p27 (iR_c (n := 3) (a := 3) (b := 3) (by decide +kernel) (by decide +kernel)) f_92p27_1 (by decide +kernel)
                      refine lv_iconst (v := 2) hx hb dX7_falls_132 (by decide +kernel) ?_
                      refine lv_iadd hx hb dX7_falls_133 ?_
                      refine lv_topi (fun y_133p27 ey_133p27 => ?_)
                      have f_133p27_11 : iR y_133p27 2 59 := iR_add ey_133p27 f_131p27_10 (iR_c (n := 2) (a := 2) (b := 2) (by decide +kernel) (by decide +kernel)) (by decide +kernel)
                      refine va_iald hx hb hK hP 1 0 rfl rfl (iR_vp f_133p27_11 (by decide +kernel)) dX7_falls_134 ?_
                      have f_134p27_12 : iR (f0 y_133p27.toNatClampNeg) 0 255 := hf0 _
                      refine s_iast (g := (upd j84p27_A4 j84p27_L3.toNatClampNeg (f0 y_133p27.toNatClampNeg))) (ws' := [(h, .inr (7, oM r (upd (upd i 1 0) 77 y_78p27) j)), ((r 0), .inl (cI, 1800, .inl f0)), ((r 48), .inl (cI, 6, .inl f48)), ((r 78), .inl (cI, 20, .inl (upd j84p27_A3 j84p27_L3.toNatClampNeg y_118p27))), ((r 79), .inl (cI, 20, .inl (upd j84p27_A4 j84p27_L3.toNatClampNeg (f0 y_133p27.toNatClampNeg))))]) hx hb hK hP hD hS 4 0 rfl rfl (iR_vp f_92p27_1 (by decide +kernel)) rfl rfl dX7_falls_135 (fun H locs hP hD hS => ?_)
                      obtain ⟨y_136p27, ey_136p27⟩ : ∃ y : Int32, y = j84p27_L3 + 1 := ⟨_, rfl⟩
                      refine lv_iinc (v := y_136p27) (lv' := [(3, .int y_136p27), (0, .ref h)]) hx hb dX7_falls_136 hl (k := 1) rfl ey_136p27.symm (by decide) rfl (fun ls hl => ?_)
                      have f_136p27_13 : iR y_136p27 1 20 := iR_add ey_136p27 f_92p27_1 (iR_c (n := 1) (a := 1) (b := 1) (by decide +kernel) (by decide +kernel)) (by decide +kernel)
                      refine lv_goto (tgt := 84) hx hb dX7_falls_139 (by decide) ?_
                      exact ih_84p27 (upd j84p27_A3 j84p27_L3.toNatClampNeg y_118p27) (upd j84p27_A4 j84p27_L3.toNatClampNeg (f0 y_133p27.toNatClampNeg)) y_136p27 (iR_w f_136p27_13 (by decide +kernel)) (m_up (B := 20) hm_84p27 ey_136p27 f_92p27_1 (by decide +kernel)) H locs ls hP hD hS (lv_sub hl [1, 0] rfl)
                refine lv_istore_n (lv' := [(3, .int 0), (0, .ref h), (1, .int (i 1)), (2, .int j34p27_L2)]) hx hb dX7_falls_83 rfl hl (by decide) rfl (fun ls hl => ?_)
                exact J_84p27 _ f78 f79 0 (iR_c (n := 0) (a := 0) (b := 20) (by decide +kernel) (by decide +kernel)) (Nat.lt_succ_self _) H locs ls hP hD hS (lv_sub hl [1, 0] rfl)
              · have c_66p27 : j34p27_L2 = 0 := c_66p27
                have f_69p27_1 : iR j34p27_L2 0 0 := iR_eqL c_66p27 hj34p27_L2 (iR_c (n := 0) (a := 0) (b := 0) (by decide +kernel) (by decide +kernel)) (by decide +kernel)
                refine lv_aload_n hx hb dX7_falls_69 rfl (lv_at hl 0 rfl) ?_
                refine lv_iconst (v := 5) hx hb dX7_falls_70 (by decide +kernel) ?_
                refine k_ci (wc := [(h, .inr (7, oM r (upd i 1 0) j)), ((r 48), .inl (cI, 6, .inl f48))]) (wr := [((r 0), .inl (cI, 1800, .inl f0)), ((r 78), .inl (cI, 20, .inl f78)), ((r 79), .inl (cI, 20, .inl f79))]) (fun hPc hDc hFc => va_runV (As := [.int 5]) (rest := []) ⟨hx, hb, hml, hown, hts⟩ (s_X7_refuses_v5 l dC dI cI cJ cZ cM h r (upd i 1 0) j 5 f48 (iR_c (n := 5) (a := 0) (b := 5) (by decide +kernel) (by decide +kernel)) (mR_upd 1 hI (show iR _ (loI 1) (hiI 1) from (iR_c (n := 0) (a := 0) (b := 1600) (by decide +kernel) (by decide +kernel)))) H.size) (cwV 1 hts gX7_falls_X7_refuses rfl rfl rfl (by decide +kernel) ⟨(Nat.le_of_ble_eq_true rfl), (Nat.le_of_ble_eq_true rfl)⟩) (k_pV hPc hDc hK hN hC hS hFc hP (q0 := 0) (ci := 7) rfl rfl) rfl rfl hl.1 rfl (lv_room (Nat.le_of_ble_eq_true rfl)) dX7_falls_71 ⟨(Nat.le_of_ble_eq_true rfl), (Nat.le_of_ble_eq_true rfl)⟩) hP hD hS hA [0, 2] [1, 3, 4] rfl rfl rfl rfl (by decide) (fun _ => rfl) 0 0 rfl rfl (fun r_71p27 u_71p27 H locs hw hP hD hS => ?_)
                have g_71p27_0 := hw
                obtain rfl : r_71p27 = (-1) := g_71p27_0
                have hP : va_P (dC, dI) vwCl [((r 0), .inl (cI, 1800, .inl f0)), ((r 78), .inl (cI, 20, .inl f78)), ((r 79), .inl (cI, 20, .inl f79)), (h, .inr (7, oM r (upd i 1 0) j)), ((r 48), .inl (cI, 6, .inl (u_71p27.2.2.1 0)))] H := hP
                have hD : va_D A [((r 0), .inl (cI, 1800, .inl f0)), ((r 78), .inl (cI, 20, .inl f78)), ((r 79), .inl (cI, 20, .inl f79)), (h, .inr (7, oM r (upd i 1 0) j)), ((r 48), .inl (cI, 6, .inl (u_71p27.2.2.1 0)))] := hD
                exact k_ri B hP hD hS dX7_falls_74 ((fun k9 => match k9 with | 0 => (i 77) | _ => 0), (fun _ => 0), (fun k9 => match k9 with | 0 => (u_71p27.2.2.1 0) | 1 => f78 | 2 => f79 | _ => (fun _ => 0)), (fun _ => (fun _ => 0)), (fun _ => 0)) [3, 0, 4, 1, 2] rfl rfl rfl (Nat.le_of_ble_eq_true rfl) (Nat.le_of_ble_eq_true rfl) ⟨(show iR (-1) (-1) 20 from (iR_c (n := (-1)) (a := (-1)) (b := 20) (by decide +kernel) (by decide +kernel))), (show iR (i 77) 0 20 from (hI 77))⟩
            refine lv_icmp_ge (tgt := 65) hx hb dX7_falls_36 (by decide) (fun c_36p27 => ?_) (fun c_36p27 => ?_)
            · have c_36p27 : (i 1) ≤ j34p27_L3 := c_36p27
              exact J_65p27   H locs ls hP hD hS (lv_sub hl [0, 1, 2] rfl)
            · have c_36p27 : j34p27_L3 < (i 1) := i_nle c_36p27
              have f_39p27_1 : iR j34p27_L3 2 59 := iR_ltL c_36p27 hj34p27_L3 f_26_5 (by decide +kernel)
              have f_39p27_2 : iR (i 1) 3 60 := iR_ltR c_36p27 hj34p27_L3 f_26_5 (by decide +kernel)
              refine lv_iload_n hx hb dX7_falls_39 rfl (lv_at hl 2 rfl) ?_
              refine lv_if_eq (tgt := 65) hx hb dX7_falls_40 (by decide) (fun c_40p27 => ?_) (fun c_40p27 => ?_)
              · have c_40p27 : j34p27_L2 = 0 := c_40p27
                have f_65p27_3 : iR j34p27_L2 0 0 := iR_eqL c_40p27 hj34p27_L2 (iR_c (n := 0) (a := 0) (b := 0) (by decide +kernel) (by decide +kernel)) (by decide +kernel)
                exact J_65p27   H locs ls hP hD hS (lv_sub hl [0, 1, 2] rfl)
              · have c_40p27 : ¬ j34p27_L2 = 0 := c_40p27
                have f_43p27_3 : iR j34p27_L2 1 1 := iR_neL c_40p27 hj34p27_L2 (iR_c (n := 0) (a := 0) (b := 0) (by decide +kernel) (by decide +kernel)) (by decide +kernel)
                refine lv_aload_n hx hb dX7_falls_43 rfl (lv_at hl 0 rfl) ?_
                refine k_get (D := (dC, dI)) (ci := 7) (v := .ref (r 0)) (C := RX7) (T := TX7) (N := 92) hx hb hts hinX7 hown hK hP 0 rfl rfl 0 (by decide) w_3 rfl rfl dX7_falls_44 ?_
                refine lv_iload_n hx hb dX7_falls_47 rfl (lv_at hl 3 rfl) ?_
                refine va_iald hx hb hK hP 1 0 rfl rfl (iR_vp f_39p27_1 (by decide +kernel)) dX7_falls_48 ?_
                have f_48p27_4 : iR (f0 j34p27_L3.toNatClampNeg) 0 255 := hf0 _
                refine lv_iconst (v := 2) hx hb dX7_falls_49 (by decide +kernel) ?_
                have J_58p27 : ∀ (j58p27_S0 : Int32) (hj58p27_S0 : iR j58p27_S0 0 1) (H : Heap) (locs : List Loc) (ls : Array Slot), va_P (dC, dI) vwCl [(h, .inr (7, oM r (upd i 1 0) j)), ((r 0), .inl (cI, 1800, .inl f0)), ((r 48), .inl (cI, 6, .inl f48)), ((r 78), .inl (cI, 20, .inl f78)), ((r 79), .inl (cI, 20, .inl f79))] H → va_D A [(h, .inr (7, oM r (upd i 1 0) j)), ((r 0), .inl (cI, 1800, .inl f0)), ((r 48), .inl (cI, 6, .inl f48)), ((r 78), .inl (cI, 20, .inl f78)), ((r 79), .inl (cI, 20, .inl f79))] → va_S A s.heap H locs → lv_has ls 4 [(0, .ref h), (1, .int (i 1)), (3, .int j34p27_L3)] → W p l e ({ frames := 2, cells := 0, slots := 0, locals := 61 }) s m args below meth c H locs 0 0 (MQ below (va_Qi (fun (r9 : Int32) (u9 : SU) => (iR r9 (-1) 20) ∧ (iR (u9.1 0) 0 20)) (fun u => k_B (dC, dI) vwCl (tyy cI cJ cZ cM) A ((fun (u9 : SU) => [(h, .inr (7, oM r (upd (upd i 1 0) 77 (u9.1 0)) j)), ((r 0), .inl (cI, 1800, .inl f0)), ((r 48), .inl (cI, 6, .inl (u9.2.2.1 0))), ((r 78), .inl (cI, 20, .inl (u9.2.2.1 1))), ((r 79), .inl (cI, 20, .inl (u9.2.2.1 2)))]) u)) A) args s 0 0 A) (F0 m 58 ls [.int j58p27_S0]) := by
                  intro j58p27_S0 hj58p27_S0 H locs ls hP hD hS hl
                  refine lv_istore_n (lv' := [(2, .int j58p27_S0), (0, .ref h), (1, .int (i 1)), (3, .int j34p27_L3)]) hx hb dX7_falls_58 rfl hl (by decide) rfl (fun ls hl => ?_)
                  obtain ⟨y_59p27, ey_59p27⟩ : ∃ y : Int32, y = j34p27_L3 + 3 := ⟨_, rfl⟩
                  refine lv_iinc (v := y_59p27) (lv' := [(3, .int y_59p27), (2, .int j58p27_S0), (0, .ref h), (1, .int (i 1))]) hx hb dX7_falls_59 hl (k := 3) rfl ey_59p27.symm (by decide) rfl (fun ls hl => ?_)
                  have f_59p27_1 : iR y_59p27 5 62 := iR_add ey_59p27 f_39p27_1 (iR_c (n := 3) (a := 3) (b := 3) (by decide +kernel) (by decide +kernel)) (by decide +kernel)
                  refine lv_goto (tgt := 34) hx hb dX7_falls_62 (by decide) ?_
                  exact ih_34p27 j58p27_S0 y_59p27 hj58p27_S0 (iR_w f_59p27_1 (by decide +kernel)) (m_upk (B := 80) hm_34p27 ey_59p27 f_39p27_1 (iR_c (n := 3) (a := 3) (b := 3) (by decide +kernel) (by decide +kernel)) (by decide +kernel)) H locs ls hP hD hS (lv_sub hl [2, 3, 1, 0] rfl)
                refine lv_icmp_ge (tgt := 57) hx hb dX7_falls_50 (by decide) (fun c_50p27 => ?_) (fun c_50p27 => ?_)
                · have c_50p27 : 2 ≤ (f0 j34p27_L3.toNatClampNeg) := c_50p27
                  have f_57p27_5 : iR (f0 j34p27_L3.toNatClampNeg) 2 255 := iR_leR c_50p27 (iR_c (n := 2) (a := 2) (b := 2) (by decide +kernel) (by decide +kernel)) f_48p27_4 (by decide +kernel)
                  refine lv_iconst (v := 0) hx hb dX7_falls_57 (by decide +kernel) ?_
                  exact J_58p27 0 (iR_c (n := 0) (a := 0) (b := 1) (by decide +kernel) (by decide +kernel)) H locs ls hP hD hS (lv_sub hl [0, 1, 3] rfl)
                · have c_50p27 : (f0 j34p27_L3.toNatClampNeg) < 2 := i_nle c_50p27
                  have f_53p27_5 : iR (f0 j34p27_L3.toNatClampNeg) 0 1 := iR_ltL c_50p27 f_48p27_4 (iR_c (n := 2) (a := 2) (b := 2) (by decide +kernel) (by decide +kernel)) (by decide +kernel)
                  refine lv_iconst (v := 1) hx hb dX7_falls_53 (by decide +kernel) ?_
                  refine lv_goto (tgt := 58) hx hb dX7_falls_54 (by decide) ?_
                  exact J_58p27 1 (iR_c (n := 1) (a := 0) (b := 1) (by decide +kernel) (by decide +kernel)) H locs ls hP hD hS (lv_sub hl [0, 1, 3] rfl)
        refine lv_istore_n (lv' := [(3, .int 2), (2, .int 1), (1, .int (i 1)), (0, .ref h)]) hx hb dX7_falls_33 rfl hl (by decide) rfl (fun ls hl => ?_)
        exact J_34p27 _ 1 2 (iR_c (n := 1) (a := 0) (b := 1) (by decide +kernel) (by decide +kernel)) (iR_c (n := 2) (a := 2) (b := 80) (by decide +kernel) (by decide +kernel)) (Nat.lt_succ_self _) H locs ls hP hD hS (lv_sub hl [3, 2, 1, 0] rfl)
set_option maxHeartbeats 8000000 in
set_option maxRecDepth 100000 in
theorem s_X7_canBear_v0 (l : Launch) (dC : Nat → ClassId) (dI : Nat → Nat → Nat) (cI cJ cZ cM : ClassId) (h : Nat) (r : Nat → Nat) (i : Nat → Int32) (j : Nat → Int64) (x1 : Int32) (f78 : Nat → Int32) (f79 : Nat → Int32) (hI : mR i) : k_Mi l yX7_canBear wsX7_canBear ({ frames := 1, cells := 0, slots := 0, locals := 40 }) (dC, dI) vwCl (tyy cI cJ cZ cM) [(h, .inr (7, oM r i j)), ((r 78), .inl (cI, 20, .inl f78)), ((r 79), .inl (cI, 20, .inl f79))] [.ref h, .int x1] 0 0 (fun (u9 : Unit) => [(h, .inr (7, oM r i j)), ((r 78), .inl (cI, 20, .inl f78)), ((r 79), .inl (cI, 20, .inl f79))]) (fun (r9 : Int32) (u9 : Unit) => (iR r9 0 1)) := by
  refine fun sz => k_enter (cc := cX7_canBear) (maxL := 3) (ret := some (.boolean)) (Qc := fun A => va_Qi (fun (r9 : Int32) (u9 : Unit) => (iR r9 0 1)) (fun u => k_B (dC, dI) vwCl (tyy cI cJ cZ cM) A ((fun (u9 : Unit) => [(h, .inr (7, oM r i j)), ((r 78), .inl (cI, 20, .inl f78)), ((r 79), .inl (cI, 20, .inl f79))]) u)) A) sz (by decide +kernel) rfl (Nat.le_of_ble_eq_true rfl) (fun p e s m args below meth c A ls H locs B hP hD hS hl => ?_)
  obtain ⟨hx, hb, hml, hown, hts, hr, hlk, hnm, hK, hA, hN, hC⟩ := id B
  have hown : s.vm.findClass RX7 = some m.cls := hown
  have hl : lv_has ls 3 [(0, .ref h), (1, .int x1)] := hl
  have w_0 : (Cond.fieldLink RX7 246 "WishSeaModel" "fallMany" "I").before args s = true := hts _ (List.mem_of_getElem? (i := 1) rfl)
  have w_1 : (Cond.fieldLink RX7 249 "WishSeaModel" "fallDark" "[I").before args s = true := hts _ (List.mem_of_getElem? (i := 2) rfl)
  have w_2 : (Cond.fieldLink RX7 252 "WishSeaModel" "fallIs" "[I").before args s = true := hts _ (List.mem_of_getElem? (i := 3) rfl)
  have hinX7 : ∀ w ∈ u_ws RX7 TX7 92, w ∈ wsX7_canBear := fun _ h => List.mem_cons_of_mem _ (List.mem_append_right _ h)
  refine lv_iconst (v := 0) hx hb dX7_canBear_0 (by decide +kernel) ?_
  have J_2 : ∀ (n_2 : Nat) (j2_L2 : Int32) (hj2_L2 : iR j2_L2 0 20) (hm_2 : (20 - j2_L2.toInt).toNat < n_2) (H : Heap) (locs : List Loc) (ls : Array Slot), va_P (dC, dI) vwCl [(h, .inr (7, oM r i j)), ((r 78), .inl (cI, 20, .inl f78)), ((r 79), .inl (cI, 20, .inl f79))] H → va_D A [(h, .inr (7, oM r i j)), ((r 78), .inl (cI, 20, .inl f78)), ((r 79), .inl (cI, 20, .inl f79))] → va_S A s.heap H locs → lv_has ls 3 [(0, .ref h), (1, .int x1), (2, .int j2_L2)] → W p l e ({ frames := 1, cells := 0, slots := 0, locals := 40 }) s m args below meth c H locs 0 0 (MQ below (va_Qi (fun (r9 : Int32) (u9 : Unit) => (iR r9 0 1)) (fun u => k_B (dC, dI) vwCl (tyy cI cJ cZ cM) A ((fun (u9 : Unit) => [(h, .inr (7, oM r i j)), ((r 78), .inl (cI, 20, .inl f78)), ((r 79), .inl (cI, 20, .inl f79))]) u)) A) args s 0 0 A) (F0 m 2 ls []) := by
    intro n_2
    induction n_2 with
    | zero => intro j2_L2 hj2_L2 hm_2; exact absurd hm_2 (Nat.not_lt_zero _)
    | succ n_2 ih_2 =>
      intro j2_L2 hj2_L2 hm_2 H locs ls hP hD hS hl
      refine lv_iload_n hx hb dX7_canBear_2 rfl (lv_at hl 2 rfl) ?_
      refine lv_aload_n hx hb dX7_canBear_3 rfl (lv_at hl 0 rfl) ?_
      have f_4_1 : iR (i 77) 0 20 := hI 77
      refine k_get (D := (dC, dI)) (ci := 7) (v := .int (i 77)) (C := RX7) (T := TX7) (N := 92) hx hb hts hinX7 hown hK hP 0 rfl rfl 77 (by decide) w_0 rfl rfl dX7_canBear_4 ?_
      refine lv_icmp_ge (tgt := 42) hx hb dX7_canBear_7 (by decide) (fun c_7 => ?_) (fun c_7 => ?_)
      · have c_7 : (i 77) ≤ j2_L2 := c_7
        refine lv_iconst (v := 1) hx hb dX7_canBear_42 (by decide +kernel) ?_
        exact k_ri B hP hD hS dX7_canBear_43 () [0, 1, 2] rfl rfl rfl (Nat.le_of_ble_eq_true rfl) (Nat.le_of_ble_eq_true rfl) (show iR 1 0 1 from (iR_c (n := 1) (a := 0) (b := 1) (by decide +kernel) (by decide +kernel)))
      · have c_7 : j2_L2 < (i 77) := i_nle c_7
        have f_10_2 : iR j2_L2 0 19 := iR_ltL c_7 hj2_L2 f_4_1 (by decide +kernel)
        have f_10_3 : iR (i 77) 1 20 := iR_ltR c_7 hj2_L2 f_4_1 (by decide +kernel)
        refine lv_aload_n hx hb dX7_canBear_10 rfl (lv_at hl 0 rfl) ?_
        refine k_get (D := (dC, dI)) (ci := 7) (v := .ref (r 78)) (C := RX7) (T := TX7) (N := 92) hx hb hts hinX7 hown hK hP 0 rfl rfl 78 (by decide) w_1 rfl rfl dX7_canBear_11 ?_
        refine lv_iload_n hx hb dX7_canBear_14 rfl (lv_at hl 2 rfl) ?_
        refine va_iald hx hb hK hP 1 0 rfl rfl (iR_vp f_10_2 (by decide +kernel)) dX7_canBear_15 ?_
        refine lv_iload_n hx hb dX7_canBear_16 rfl (lv_at hl 1 rfl) ?_
        have J_25 : ∀ (j25_S0 : Int32) (hj25_S0 : iR j25_S0 0 1) (H : Heap) (locs : List Loc) (ls : Array Slot), va_P (dC, dI) vwCl [(h, .inr (7, oM r i j)), ((r 78), .inl (cI, 20, .inl f78)), ((r 79), .inl (cI, 20, .inl f79))] H → va_D A [(h, .inr (7, oM r i j)), ((r 78), .inl (cI, 20, .inl f78)), ((r 79), .inl (cI, 20, .inl f79))] → va_S A s.heap H locs → lv_has ls 3 [(0, .ref h), (1, .int x1), (2, .int j2_L2)] → W p l e ({ frames := 1, cells := 0, slots := 0, locals := 40 }) s m args below meth c H locs 0 0 (MQ below (va_Qi (fun (r9 : Int32) (u9 : Unit) => (iR r9 0 1)) (fun u => k_B (dC, dI) vwCl (tyy cI cJ cZ cM) A ((fun (u9 : Unit) => [(h, .inr (7, oM r i j)), ((r 78), .inl (cI, 20, .inl f78)), ((r 79), .inl (cI, 20, .inl f79))]) u)) A) args s 0 0 A) (F0 m 25 ls [.int j25_S0]) := by
          intro j25_S0 hj25_S0 H locs ls hP hD hS hl
          refine lv_aload_n hx hb dX7_canBear_25 rfl (lv_at hl 0 rfl) ?_
          refine k_get (D := (dC, dI)) (ci := 7) (v := .ref (r 79)) (C := RX7) (T := TX7) (N := 92) hx hb hts hinX7 hown hK hP 0 rfl rfl 79 (by decide) w_2 rfl rfl dX7_canBear_26 ?_
          refine lv_iload_n hx hb dX7_canBear_29 rfl (lv_at hl 2 rfl) ?_
          refine va_iald hx hb hK hP 2 0 rfl rfl (iR_vp f_10_2 (by decide +kernel)) dX7_canBear_30 ?_
          refine lv_icmp_eq (tgt := 36) hx hb dX7_canBear_31 (by decide) (fun c_31 => ?_) (fun c_31 => ?_)
          · have c_31 : j25_S0 = (f79 j2_L2.toNatClampNeg) := c_31
            have f_36_1 : iR (f79 j2_L2.toNatClampNeg) 0 1 := iR_eqR c_31 hj25_S0 (iR_top _) (by decide +kernel)
            obtain ⟨y_36, ey_36⟩ : ∃ y : Int32, y = j2_L2 + 1 := ⟨_, rfl⟩
            refine lv_iinc (v := y_36) (lv' := [(2, .int y_36), (0, .ref h), (1, .int x1)]) hx hb dX7_canBear_36 hl (k := 2) rfl ey_36.symm (by decide) rfl (fun ls hl => ?_)
            have f_36_2 : iR y_36 1 20 := iR_add ey_36 f_10_2 (iR_c (n := 1) (a := 1) (b := 1) (by decide +kernel) (by decide +kernel)) (by decide +kernel)
            refine lv_goto (tgt := 2) hx hb dX7_canBear_39 (by decide) ?_
            exact ih_2 y_36 (iR_w f_36_2 (by decide +kernel)) (m_up (B := 20) hm_2 ey_36 f_10_2 (by decide +kernel)) H locs ls hP hD hS (lv_sub hl [1, 2, 0] rfl)
          · have c_31 : ¬ j25_S0 = (f79 j2_L2.toNatClampNeg) := c_31
            refine lv_iconst (v := 0) hx hb dX7_canBear_34 (by decide +kernel) ?_
            exact k_ri B hP hD hS dX7_canBear_35 () [0, 1, 2] rfl rfl rfl (Nat.le_of_ble_eq_true rfl) (Nat.le_of_ble_eq_true rfl) (show iR 0 0 1 from (iR_c (n := 0) (a := 0) (b := 1) (by decide +kernel) (by decide +kernel)))
        refine lv_icmp_le (tgt := 24) hx hb dX7_canBear_17 (by decide) (fun c_17 => ?_) (fun c_17 => ?_)
        · have c_17 : (f78 j2_L2.toNatClampNeg) ≤ x1 := c_17
          refine lv_iconst (v := 0) hx hb dX7_canBear_24 (by decide +kernel) ?_
          exact J_25 0 (iR_c (n := 0) (a := 0) (b := 1) (by decide +kernel) (by decide +kernel)) H locs ls hP hD hS (lv_sub hl [0, 1, 2] rfl)
        · have c_17 : x1 < (f78 j2_L2.toNatClampNeg) := i_nle c_17
          have f_20_4 : iR x1 (-2147483648) 2147483646 := iR_ltL c_17 (iR_top _) (iR_top _) (by decide +kernel)
          have f_20_5 : iR (f78 j2_L2.toNatClampNeg) (-2147483647) 2147483647 := iR_ltR c_17 (iR_top _) (iR_top _) (by decide +kernel)
          refine lv_iconst (v := 1) hx hb dX7_canBear_20 (by decide +kernel) ?_
          refine lv_goto (tgt := 25) hx hb dX7_canBear_21 (by decide) ?_
          exact J_25 1 (iR_c (n := 1) (a := 0) (b := 1) (by decide +kernel) (by decide +kernel)) H locs ls hP hD hS (lv_sub hl [0, 1, 2] rfl)
  refine lv_istore_n (lv' := [(2, .int 0), (0, .ref h), (1, .int x1)]) hx hb dX7_canBear_1 rfl hl (by decide) rfl (fun ls hl => ?_)
  exact J_2 _ 0 (iR_c (n := 0) (a := 0) (b := 20) (by decide +kernel) (by decide +kernel)) (Nat.lt_succ_self _) H locs ls hP hD hS (lv_sub hl [1, 2, 0] rfl)
set_option maxHeartbeats 8000000 in
set_option maxRecDepth 100000 in
theorem s_X7_canBear_v1 (l : Launch) (dC : Nat → ClassId) (dI : Nat → Nat → Nat) (cI cJ cZ cM : ClassId) (h : Nat) (r : Nat → Nat) (i : Nat → Int32) (j : Nat → Int64) (x1 : Int32) (f78 : Nat → Int32) (f79 : Nat → Int32) (hI : mR i) : k_Mi l yX7_canBear wsX7_canBear ({ frames := 1, cells := 0, slots := 0, locals := 40 }) (dC, dI) vwCl (tyy cI cJ cZ cM) [(h, .inr (7, oM r i j)), ((r 78), .inl (cI, 20, .inl f78)), ((r 79), .inl (cI, 20, .inl f79))] [.ref h, .int x1] 0 0 (fun (u9 : Unit) => [(h, .inr (7, oM r i j)), ((r 78), .inl (cI, 20, .inl f78)), ((r 79), .inl (cI, 20, .inl f79))]) (fun (r9 : Int32) (u9 : Unit) => (iR r9 0 1)) := by
  refine fun sz => k_enter (cc := cX7_canBear) (maxL := 3) (ret := some (.boolean)) (Qc := fun A => va_Qi (fun (r9 : Int32) (u9 : Unit) => (iR r9 0 1)) (fun u => k_B (dC, dI) vwCl (tyy cI cJ cZ cM) A ((fun (u9 : Unit) => [(h, .inr (7, oM r i j)), ((r 78), .inl (cI, 20, .inl f78)), ((r 79), .inl (cI, 20, .inl f79))]) u)) A) sz (by decide +kernel) rfl (Nat.le_of_ble_eq_true rfl) (fun p e s m args below meth c A ls H locs B hP hD hS hl => ?_)
  obtain ⟨hx, hb, hml, hown, hts, hr, hlk, hnm, hK, hA, hN, hC⟩ := id B
  have hown : s.vm.findClass RX7 = some m.cls := hown
  have hl : lv_has ls 3 [(0, .ref h), (1, .int x1)] := hl
  have w_0 : (Cond.fieldLink RX7 246 "WishSeaModel" "fallMany" "I").before args s = true := hts _ (List.mem_of_getElem? (i := 1) rfl)
  have w_1 : (Cond.fieldLink RX7 249 "WishSeaModel" "fallDark" "[I").before args s = true := hts _ (List.mem_of_getElem? (i := 2) rfl)
  have w_2 : (Cond.fieldLink RX7 252 "WishSeaModel" "fallIs" "[I").before args s = true := hts _ (List.mem_of_getElem? (i := 3) rfl)
  have hinX7 : ∀ w ∈ u_ws RX7 TX7 92, w ∈ wsX7_canBear := fun _ h => List.mem_cons_of_mem _ (List.mem_append_right _ h)
  refine lv_iconst (v := 0) hx hb dX7_canBear_0 (by decide +kernel) ?_
  have J_2 : ∀ (n_2 : Nat) (j2_L2 : Int32) (hj2_L2 : iR j2_L2 0 20) (hm_2 : (20 - j2_L2.toInt).toNat < n_2) (H : Heap) (locs : List Loc) (ls : Array Slot), va_P (dC, dI) vwCl [(h, .inr (7, oM r i j)), ((r 78), .inl (cI, 20, .inl f78)), ((r 79), .inl (cI, 20, .inl f79))] H → va_D A [(h, .inr (7, oM r i j)), ((r 78), .inl (cI, 20, .inl f78)), ((r 79), .inl (cI, 20, .inl f79))] → va_S A s.heap H locs → lv_has ls 3 [(0, .ref h), (1, .int x1), (2, .int j2_L2)] → W p l e ({ frames := 1, cells := 0, slots := 0, locals := 40 }) s m args below meth c H locs 0 0 (MQ below (va_Qi (fun (r9 : Int32) (u9 : Unit) => (iR r9 0 1)) (fun u => k_B (dC, dI) vwCl (tyy cI cJ cZ cM) A ((fun (u9 : Unit) => [(h, .inr (7, oM r i j)), ((r 78), .inl (cI, 20, .inl f78)), ((r 79), .inl (cI, 20, .inl f79))]) u)) A) args s 0 0 A) (F0 m 2 ls []) := by
    intro n_2
    induction n_2 with
    | zero => intro j2_L2 hj2_L2 hm_2; exact absurd hm_2 (Nat.not_lt_zero _)
    | succ n_2 ih_2 =>
      intro j2_L2 hj2_L2 hm_2 H locs ls hP hD hS hl
      refine lv_iload_n hx hb dX7_canBear_2 rfl (lv_at hl 2 rfl) ?_
      refine lv_aload_n hx hb dX7_canBear_3 rfl (lv_at hl 0 rfl) ?_
      have f_4_1 : iR (i 77) 0 20 := hI 77
      refine k_get (D := (dC, dI)) (ci := 7) (v := .int (i 77)) (C := RX7) (T := TX7) (N := 92) hx hb hts hinX7 hown hK hP 0 rfl rfl 77 (by decide) w_0 rfl rfl dX7_canBear_4 ?_
      refine lv_icmp_ge (tgt := 42) hx hb dX7_canBear_7 (by decide) (fun c_7 => ?_) (fun c_7 => ?_)
      · have c_7 : (i 77) ≤ j2_L2 := c_7
        refine lv_iconst (v := 1) hx hb dX7_canBear_42 (by decide +kernel) ?_
        exact k_ri B hP hD hS dX7_canBear_43 () [0, 1, 2] rfl rfl rfl (Nat.le_of_ble_eq_true rfl) (Nat.le_of_ble_eq_true rfl) (show iR 1 0 1 from (iR_c (n := 1) (a := 0) (b := 1) (by decide +kernel) (by decide +kernel)))
      · have c_7 : j2_L2 < (i 77) := i_nle c_7
        have f_10_2 : iR j2_L2 0 19 := iR_ltL c_7 hj2_L2 f_4_1 (by decide +kernel)
        have f_10_3 : iR (i 77) 1 20 := iR_ltR c_7 hj2_L2 f_4_1 (by decide +kernel)
        refine lv_aload_n hx hb dX7_canBear_10 rfl (lv_at hl 0 rfl) ?_
        refine k_get (D := (dC, dI)) (ci := 7) (v := .ref (r 78)) (C := RX7) (T := TX7) (N := 92) hx hb hts hinX7 hown hK hP 0 rfl rfl 78 (by decide) w_1 rfl rfl dX7_canBear_11 ?_
        refine lv_iload_n hx hb dX7_canBear_14 rfl (lv_at hl 2 rfl) ?_
        refine va_iald hx hb hK hP 1 0 rfl rfl (iR_vp f_10_2 (by decide +kernel)) dX7_canBear_15 ?_
        refine lv_iload_n hx hb dX7_canBear_16 rfl (lv_at hl 1 rfl) ?_
        have J_25 : ∀ (j25_S0 : Int32) (hj25_S0 : iR j25_S0 0 1) (H : Heap) (locs : List Loc) (ls : Array Slot), va_P (dC, dI) vwCl [(h, .inr (7, oM r i j)), ((r 78), .inl (cI, 20, .inl f78)), ((r 79), .inl (cI, 20, .inl f79))] H → va_D A [(h, .inr (7, oM r i j)), ((r 78), .inl (cI, 20, .inl f78)), ((r 79), .inl (cI, 20, .inl f79))] → va_S A s.heap H locs → lv_has ls 3 [(0, .ref h), (1, .int x1), (2, .int j2_L2)] → W p l e ({ frames := 1, cells := 0, slots := 0, locals := 40 }) s m args below meth c H locs 0 0 (MQ below (va_Qi (fun (r9 : Int32) (u9 : Unit) => (iR r9 0 1)) (fun u => k_B (dC, dI) vwCl (tyy cI cJ cZ cM) A ((fun (u9 : Unit) => [(h, .inr (7, oM r i j)), ((r 78), .inl (cI, 20, .inl f78)), ((r 79), .inl (cI, 20, .inl f79))]) u)) A) args s 0 0 A) (F0 m 25 ls [.int j25_S0]) := by
          intro j25_S0 hj25_S0 H locs ls hP hD hS hl
          refine lv_aload_n hx hb dX7_canBear_25 rfl (lv_at hl 0 rfl) ?_
          refine k_get (D := (dC, dI)) (ci := 7) (v := .ref (r 79)) (C := RX7) (T := TX7) (N := 92) hx hb hts hinX7 hown hK hP 0 rfl rfl 79 (by decide) w_2 rfl rfl dX7_canBear_26 ?_
          refine lv_iload_n hx hb dX7_canBear_29 rfl (lv_at hl 2 rfl) ?_
          refine va_iald hx hb hK hP 2 0 rfl rfl (iR_vp f_10_2 (by decide +kernel)) dX7_canBear_30 ?_
          refine lv_icmp_eq (tgt := 36) hx hb dX7_canBear_31 (by decide) (fun c_31 => ?_) (fun c_31 => ?_)
          · have c_31 : j25_S0 = (f79 j2_L2.toNatClampNeg) := c_31
            have f_36_1 : iR (f79 j2_L2.toNatClampNeg) 0 1 := iR_eqR c_31 hj25_S0 (iR_top _) (by decide +kernel)
            obtain ⟨y_36, ey_36⟩ : ∃ y : Int32, y = j2_L2 + 1 := ⟨_, rfl⟩
            refine lv_iinc (v := y_36) (lv' := [(2, .int y_36), (0, .ref h), (1, .int x1)]) hx hb dX7_canBear_36 hl (k := 2) rfl ey_36.symm (by decide) rfl (fun ls hl => ?_)
            have f_36_2 : iR y_36 1 20 := iR_add ey_36 f_10_2 (iR_c (n := 1) (a := 1) (b := 1) (by decide +kernel) (by decide +kernel)) (by decide +kernel)
            refine lv_goto (tgt := 2) hx hb dX7_canBear_39 (by decide) ?_
            exact ih_2 y_36 (iR_w f_36_2 (by decide +kernel)) (m_up (B := 20) hm_2 ey_36 f_10_2 (by decide +kernel)) H locs ls hP hD hS (lv_sub hl [1, 2, 0] rfl)
          · have c_31 : ¬ j25_S0 = (f79 j2_L2.toNatClampNeg) := c_31
            refine lv_iconst (v := 0) hx hb dX7_canBear_34 (by decide +kernel) ?_
            exact k_ri B hP hD hS dX7_canBear_35 () [0, 1, 2] rfl rfl rfl (Nat.le_of_ble_eq_true rfl) (Nat.le_of_ble_eq_true rfl) (show iR 0 0 1 from (iR_c (n := 0) (a := 0) (b := 1) (by decide +kernel) (by decide +kernel)))
        refine lv_icmp_le (tgt := 24) hx hb dX7_canBear_17 (by decide) (fun c_17 => ?_) (fun c_17 => ?_)
        · have c_17 : (f78 j2_L2.toNatClampNeg) ≤ x1 := c_17
          refine lv_iconst (v := 0) hx hb dX7_canBear_24 (by decide +kernel) ?_
          exact J_25 0 (iR_c (n := 0) (a := 0) (b := 1) (by decide +kernel) (by decide +kernel)) H locs ls hP hD hS (lv_sub hl [0, 1, 2] rfl)
        · have c_17 : x1 < (f78 j2_L2.toNatClampNeg) := i_nle c_17
          have f_20_4 : iR x1 (-2147483648) 2147483646 := iR_ltL c_17 (iR_top _) (iR_top _) (by decide +kernel)
          have f_20_5 : iR (f78 j2_L2.toNatClampNeg) (-2147483647) 2147483647 := iR_ltR c_17 (iR_top _) (iR_top _) (by decide +kernel)
          refine lv_iconst (v := 1) hx hb dX7_canBear_20 (by decide +kernel) ?_
          refine lv_goto (tgt := 25) hx hb dX7_canBear_21 (by decide) ?_
          exact J_25 1 (iR_c (n := 1) (a := 0) (b := 1) (by decide +kernel) (by decide +kernel)) H locs ls hP hD hS (lv_sub hl [0, 1, 2] rfl)
  refine lv_istore_n (lv' := [(2, .int 0), (0, .ref h), (1, .int x1)]) hx hb dX7_canBear_1 rfl hl (by decide) rfl (fun ls hl => ?_)
  exact J_2 _ 0 (iR_c (n := 0) (a := 0) (b := 20) (by decide +kernel) (by decide +kernel)) (Nat.lt_succ_self _) H locs ls hP hD hS (lv_sub hl [1, 2, 0] rfl)
set_option maxHeartbeats 8000000 in
set_option maxRecDepth 100000 in
theorem s_X7_bears_v0 (l : Launch) (dC : Nat → ClassId) (dI : Nat → Nat → Nat) (cI cJ cZ cM : ClassId) (h : Nat) (r : Nat → Nat) (i : Nat → Int32) (j : Nat → Int64) (x1 : Int32) (f78 : Nat → Int32) (f79 : Nat → Int32) (hI : mR i) : k_Mi l yX7_bears wsX7_bears ({ frames := 2, cells := 0, slots := 0, locals := 62 }) (dC, dI) vwCl (tyy cI cJ cZ cM) [(h, .inr (7, oM r i j)), ((r 78), .inl (cI, 20, .inl f78)), ((r 79), .inl (cI, 20, .inl f79))] [.ref h, .int x1] 0 0 (fun (u9 : Unit) => [(h, .inr (7, oM r i j)), ((r 78), .inl (cI, 20, .inl f78)), ((r 79), .inl (cI, 20, .inl f79))]) (fun (r9 : Int32) (u9 : Unit) => True) := by
  refine fun sz => k_enter (cc := cX7_bears) (maxL := 6) (ret := some (.int)) (Qc := fun A => va_Qi (fun (r9 : Int32) (u9 : Unit) => True) (fun u => k_B (dC, dI) vwCl (tyy cI cJ cZ cM) A ((fun (u9 : Unit) => [(h, .inr (7, oM r i j)), ((r 78), .inl (cI, 20, .inl f78)), ((r 79), .inl (cI, 20, .inl f79))]) u)) A) sz (by decide +kernel) rfl (Nat.le_of_ble_eq_true rfl) (fun p e s m args below meth c A ls H locs B hP hD hS hl => ?_)
  obtain ⟨hx, hb, hml, hown, hts, hr, hlk, hnm, hK, hA, hN, hC⟩ := id B
  have hown : s.vm.findClass RX7 = some m.cls := hown
  have hl : lv_has ls 6 [(0, .ref h), (1, .int x1)] := hl
  refine lv_iload_n hx hb dX7_bears_0 rfl (lv_at hl 1 rfl) ?_
  refine lv_iconst (v := 0) hx hb dX7_bears_1 (by decide +kernel) ?_
  refine lv_iconst (v := 2) hx hb dX7_bears_2 (by decide +kernel) ?_
  refine k_ci (wc := []) (wr := [(h, .inr (7, oM r i j)), ((r 78), .inl (cI, 20, .inl f78)), ((r 79), .inl (cI, 20, .inl f79))]) (fun hPc hDc hFc => va_runS (As := [.int x1, .int 0, .int 2]) (rest := []) ⟨hx, hb, hml, hown, hts⟩ (s_X7_is_v0 l dC dI cI cJ cZ cM x1 0 2 H.size) (va_cwS 3 hts gX7_bears_X7_is rfl rfl rfl (by decide +kernel) ⟨(Nat.le_of_ble_eq_true rfl), (Nat.le_of_ble_eq_true rfl)⟩) (k_pS hPc hDc hK hN hC hS hFc) rfl rfl hl.1 rfl (lv_room (Nat.le_of_ble_eq_true rfl)) dX7_bears_3 ⟨(Nat.le_of_ble_eq_true rfl), (Nat.le_of_ble_eq_true rfl)⟩) hP hD hS hA [] [0, 1, 2] rfl rfl rfl rfl (by decide) (fun _ => rfl) 0 0 rfl rfl (fun r_3 u_3 H locs hw hP hD hS => ?_)
  obtain ⟨g_3_0, g_3_1⟩ := hw
  have hP : va_P (dC, dI) vwCl [(h, .inr (7, oM r i j)), ((r 78), .inl (cI, 20, .inl f78)), ((r 79), .inl (cI, 20, .inl f79))] H := hP
  have hD : va_D A [(h, .inr (7, oM r i j)), ((r 78), .inl (cI, 20, .inl f78)), ((r 79), .inl (cI, 20, .inl f79))] := hD
  have g_3_1 : (r_3 = 0) ∨ ((0 ≤ x1) ∧ (x1 ≤ 2)) := g_3_1
  refine lv_if_ne (tgt := 11) hx hb dX7_bears_6 (by decide) (fun c_6 => ?_) (fun c_6 => ?_)
  · have c_6 : ¬ r_3 = 0 := c_6
    have f_11_1 : iR r_3 1 1 := iR_neL c_6 g_3_0 (iR_c (n := 0) (a := 0) (b := 0) (by decide +kernel) (by decide +kernel)) (by decide +kernel)
    obtain ⟨d_6_1_0, d_6_1_1⟩ := g_3_1.resolve_left c_6
    have f_11_2 : iR x1 0 2147483647 := iR_leR d_6_1_0 (iR_c (n := 0) (a := 0) (b := 0) (by decide +kernel) (by decide +kernel)) (iR_top _) (by decide +kernel)
    have f_11_3 : iR x1 0 2 := iR_leL d_6_1_1 f_11_2 (iR_c (n := 2) (a := 2) (b := 2) (by decide +kernel) (by decide +kernel)) (by decide +kernel)
    refine lv_iconst (v := 0) hx hb dX7_bears_11 (by decide +kernel) ?_
    refine lv_istore_n (lv' := [(2, .int 0), (0, .ref h), (1, .int x1)]) hx hb dX7_bears_12 rfl hl (by decide) rfl (fun ls hl => ?_)
    refine lv_iconst (v := (-1)) hx hb dX7_bears_13 (by decide +kernel) ?_
    refine lv_istore_n (lv' := [(3, .int (-1)), (2, .int 0), (0, .ref h), (1, .int x1)]) hx hb dX7_bears_14 rfl hl (by decide) rfl (fun ls hl => ?_)
    refine lv_iconst (v := (-1)) hx hb dX7_bears_15 (by decide +kernel) ?_
    refine lv_istore (lv' := [(4, .int (-1)), (3, .int (-1)), (2, .int 0), (0, .ref h), (1, .int x1)]) hx hb dX7_bears_16 hl (by decide) rfl (fun ls hl => ?_)
    refine lv_iconst (v := 1) hx hb dX7_bears_18 (by decide +kernel) ?_
    have J_21 : ∀ (n_21 : Nat) (j21_L2 : Int32) (j21_L3 : Int32) (j21_L4 : Int32) (j21_L5 : Int32) (hj21_L3 : iR j21_L3 (-1) 999) (hj21_L4 : iR j21_L4 (-1) 999) (hj21_L5 : iR j21_L5 1 1000) (hm_21 : (1000 - j21_L5.toInt).toNat < n_21) (H : Heap) (locs : List Loc) (ls : Array Slot), va_P (dC, dI) vwCl [(h, .inr (7, oM r i j)), ((r 78), .inl (cI, 20, .inl f78)), ((r 79), .inl (cI, 20, .inl f79))] H → va_D A [(h, .inr (7, oM r i j)), ((r 78), .inl (cI, 20, .inl f78)), ((r 79), .inl (cI, 20, .inl f79))] → va_S A s.heap H locs → lv_has ls 6 [(0, .ref h), (1, .int x1), (2, .int j21_L2), (3, .int j21_L3), (4, .int j21_L4), (5, .int j21_L5)] → W p l e ({ frames := 2, cells := 0, slots := 0, locals := 62 }) s m args below meth c H locs 0 0 (MQ below (va_Qi (fun (r9 : Int32) (u9 : Unit) => True) (fun u => k_B (dC, dI) vwCl (tyy cI cJ cZ cM) A ((fun (u9 : Unit) => [(h, .inr (7, oM r i j)), ((r 78), .inl (cI, 20, .inl f78)), ((r 79), .inl (cI, 20, .inl f79))]) u)) A) args s 0 0 A) (F0 m 21 ls []) := by
      intro n_21
      induction n_21 with
      | zero => intro j21_L2 j21_L3 j21_L4 j21_L5 hj21_L3 hj21_L4 hj21_L5 hm_21; exact absurd hm_21 (Nat.not_lt_zero _)
      | succ n_21 ih_21 =>
        intro j21_L2 j21_L3 j21_L4 j21_L5 hj21_L3 hj21_L4 hj21_L5 hm_21 H locs ls hP hD hS hl
        refine lv_iload hx hb dX7_bears_21 (lv_at hl 5 rfl) ?_
        refine lv_sipush (v := 999) hx hb dX7_bears_23 (by decide +kernel) ?_
        refine lv_icmp_gt (tgt := 66) hx hb dX7_bears_26 (by decide) (fun c_26 => ?_) (fun c_26 => ?_)
        · have c_26 : 999 < j21_L5 := c_26
          have f_66_1 : iR j21_L5 1000 1000 := iR_ltR c_26 (iR_c (n := 999) (a := 999) (b := 999) (by decide +kernel) (by decide +kernel)) hj21_L5 (by decide +kernel)
          refine lv_iload_n hx hb dX7_bears_66 rfl (lv_at hl 1 rfl) ?_
          refine lv_if_ne (tgt := 74) hx hb dX7_bears_67 (by decide) (fun c_67 => ?_) (fun c_67 => ?_)
          · have c_67 : ¬ x1 = 0 := c_67
            have f_74_2 : iR x1 1 2 := iR_ltR (i_ltne d_6_1_0 (fun q => c_67 q.symm)) (iR_c (n := 0) (a := 0) (b := 0) (by decide +kernel) (by decide +kernel)) f_11_3 (by decide +kernel)
            refine lv_iload_n hx hb dX7_bears_74 rfl (lv_at hl 1 rfl) ?_
            refine lv_iconst (v := 1) hx hb dX7_bears_75 (by decide +kernel) ?_
            refine lv_icmp_ne (tgt := 83) hx hb dX7_bears_76 (by decide) (fun c_76 => ?_) (fun c_76 => ?_)
            · have c_76 : ¬ x1 = 1 := c_76
              have f_83_3 : iR x1 2 2 := iR_neL c_76 f_74_2 (iR_c (n := 1) (a := 1) (b := 1) (by decide +kernel) (by decide +kernel)) (by decide +kernel)
              refine lv_iload hx hb dX7_bears_83 (lv_at hl 4 rfl) ?_
              exact k_ri B hP hD hS dX7_bears_85 () [0, 1, 2] rfl rfl rfl (Nat.le_of_ble_eq_true rfl) (Nat.le_of_ble_eq_true rfl) trivial
            · have c_76 : x1 = 1 := c_76
              have f_79_3 : iR x1 1 1 := iR_eqL c_76 f_74_2 (iR_c (n := 1) (a := 1) (b := 1) (by decide +kernel) (by decide +kernel)) (by decide +kernel)
              refine lv_iload_n hx hb dX7_bears_79 rfl (lv_at hl 3 rfl) ?_
              refine lv_goto (tgt := 85) hx hb dX7_bears_80 (by decide) ?_
              exact k_ri B hP hD hS dX7_bears_85 () [0, 1, 2] rfl rfl rfl (Nat.le_of_ble_eq_true rfl) (Nat.le_of_ble_eq_true rfl) trivial
          · have c_67 : x1 = 0 := c_67
            have f_70_2 : iR x1 0 0 := iR_eqL c_67 f_11_3 (iR_c (n := 0) (a := 0) (b := 0) (by decide +kernel) (by decide +kernel)) (by decide +kernel)
            refine lv_iload_n hx hb dX7_bears_70 rfl (lv_at hl 2 rfl) ?_
            refine lv_goto (tgt := 85) hx hb dX7_bears_71 (by decide) ?_
            exact k_ri B hP hD hS dX7_bears_85 () [0, 1, 2] rfl rfl rfl (Nat.le_of_ble_eq_true rfl) (Nat.le_of_ble_eq_true rfl) trivial
        · have c_26 : j21_L5 ≤ 999 := i_nlt c_26
          have f_29_1 : iR j21_L5 1 999 := iR_leL c_26 hj21_L5 (iR_c (n := 999) (a := 999) (b := 999) (by decide +kernel) (by decide +kernel)) (by decide +kernel)
          refine lv_aload_n hx hb dX7_bears_29 rfl (lv_at hl 0 rfl) ?_
          refine lv_iload hx hb dX7_bears_30 (lv_at hl 5 rfl) ?_
          refine k_ci (wc := [(h, .inr (7, oM r i j)), ((r 78), .inl (cI, 20, .inl f78)), ((r 79), .inl (cI, 20, .inl f79))]) (wr := []) (fun hPc hDc hFc => va_runV (As := [.int j21_L5]) (rest := []) ⟨hx, hb, hml, hown, hts⟩ (s_X7_canBear_v1 l dC dI cI cJ cZ cM h r i j j21_L5 f78 f79 hI H.size) (cwV 1 hts gX7_bears_X7_canBear rfl rfl rfl (by decide +kernel) ⟨(Nat.le_of_ble_eq_true rfl), (Nat.le_of_ble_eq_true rfl)⟩) (k_pV hPc hDc hK hN hC hS hFc hP (q0 := 0) (ci := 7) rfl rfl) rfl rfl hl.1 rfl (lv_room (Nat.le_of_ble_eq_true rfl)) dX7_bears_32 ⟨(Nat.le_of_ble_eq_true rfl), (Nat.le_of_ble_eq_true rfl)⟩) hP hD hS hA [0, 1, 2] [] rfl rfl rfl rfl (by decide) (fun _ => rfl) 0 0 rfl rfl (fun r_32 u_32 H locs hw hP hD hS => ?_)
          have g_32_0 := hw
          have hP : va_P (dC, dI) vwCl [(h, .inr (7, oM r i j)), ((r 78), .inl (cI, 20, .inl f78)), ((r 79), .inl (cI, 20, .inl f79))] H := hP
          have hD : va_D A [(h, .inr (7, oM r i j)), ((r 78), .inl (cI, 20, .inl f78)), ((r 79), .inl (cI, 20, .inl f79))] := hD
          have J_60 : ∀ (j60_L2 : Int32) (j60_L3 : Int32) (j60_L4 : Int32) (hj60_L3 : iR j60_L3 (-1) 999) (hj60_L4 : iR j60_L4 (-1) 999) (H : Heap) (locs : List Loc) (ls : Array Slot), va_P (dC, dI) vwCl [(h, .inr (7, oM r i j)), ((r 78), .inl (cI, 20, .inl f78)), ((r 79), .inl (cI, 20, .inl f79))] H → va_D A [(h, .inr (7, oM r i j)), ((r 78), .inl (cI, 20, .inl f78)), ((r 79), .inl (cI, 20, .inl f79))] → va_S A s.heap H locs → lv_has ls 6 [(0, .ref h), (1, .int x1), (2, .int j60_L2), (3, .int j60_L3), (4, .int j60_L4), (5, .int j21_L5)] → W p l e ({ frames := 2, cells := 0, slots := 0, locals := 62 }) s m args below meth c H locs 0 0 (MQ below (va_Qi (fun (r9 : Int32) (u9 : Unit) => True) (fun u => k_B (dC, dI) vwCl (tyy cI cJ cZ cM) A ((fun (u9 : Unit) => [(h, .inr (7, oM r i j)), ((r 78), .inl (cI, 20, .inl f78)), ((r 79), .inl (cI, 20, .inl f79))]) u)) A) args s 0 0 A) (F0 m 60 ls []) := by
            intro j60_L2 j60_L3 j60_L4 hj60_L3 hj60_L4 H locs ls hP hD hS hl
            obtain ⟨y_60, ey_60⟩ : ∃ y : Int32, y = j21_L5 + 1 := ⟨_, rfl⟩
            refine lv_iinc (v := y_60) (lv' := [(5, .int y_60), (0, .ref h), (1, .int x1), (2, .int j60_L2), (3, .int j60_L3), (4, .int j60_L4)]) hx hb dX7_bears_60 hl (k := 5) rfl ey_60.symm (by decide) rfl (fun ls hl => ?_)
            have f_60_1 : iR y_60 2 1000 := iR_add ey_60 f_29_1 (iR_c (n := 1) (a := 1) (b := 1) (by decide +kernel) (by decide +kernel)) (by decide +kernel)
            refine lv_goto (tgt := 21) hx hb dX7_bears_63 (by decide) ?_
            exact ih_21 j60_L2 j60_L3 j60_L4 y_60 hj60_L3 hj60_L4 (iR_w f_60_1 (by decide +kernel)) (m_up (B := 1000) hm_21 ey_60 f_29_1 (by decide +kernel)) H locs ls hP hD hS (lv_sub hl [1, 2, 3, 4, 5, 0] rfl)
          refine lv_if_ne (tgt := 41) hx hb dX7_bears_35 (by decide) (fun c_35 => ?_) (fun c_35 => ?_)
          · have c_35 : ¬ r_32 = 0 := c_35
            have f_41_2 : iR r_32 1 1 := iR_neL c_35 g_32_0 (iR_c (n := 0) (a := 0) (b := 0) (by decide +kernel) (by decide +kernel)) (by decide +kernel)
            obtain ⟨y_41, ey_41⟩ : ∃ y : Int32, y = j21_L2 + 1 := ⟨_, rfl⟩
            refine lv_iinc (v := y_41) (lv' := [(2, .int y_41), (0, .ref h), (1, .int x1), (3, .int j21_L3), (4, .int j21_L4), (5, .int j21_L5)]) hx hb dX7_bears_41 hl (k := 2) rfl ey_41.symm (by decide) rfl (fun ls hl => ?_)
            refine lv_iload_n hx hb dX7_bears_44 rfl (lv_at hl 3 rfl) ?_
            refine lv_iconst (v := (-1)) hx hb dX7_bears_45 (by decide +kernel) ?_
            have J_55 : ∀ (j55_S0 : Int32) (hj55_S0 : iR j55_S0 0 999) (H : Heap) (locs : List Loc) (ls : Array Slot), va_P (dC, dI) vwCl [(h, .inr (7, oM r i j)), ((r 78), .inl (cI, 20, .inl f78)), ((r 79), .inl (cI, 20, .inl f79))] H → va_D A [(h, .inr (7, oM r i j)), ((r 78), .inl (cI, 20, .inl f78)), ((r 79), .inl (cI, 20, .inl f79))] → va_S A s.heap H locs → lv_has ls 6 [(0, .ref h), (1, .int x1), (2, .int y_41), (5, .int j21_L5)] → W p l e ({ frames := 2, cells := 0, slots := 0, locals := 62 }) s m args below meth c H locs 0 0 (MQ below (va_Qi (fun (r9 : Int32) (u9 : Unit) => True) (fun u => k_B (dC, dI) vwCl (tyy cI cJ cZ cM) A ((fun (u9 : Unit) => [(h, .inr (7, oM r i j)), ((r 78), .inl (cI, 20, .inl f78)), ((r 79), .inl (cI, 20, .inl f79))]) u)) A) args s 0 0 A) (F0 m 55 ls [.int j55_S0]) := by
              intro j55_S0 hj55_S0 H locs ls hP hD hS hl
              refine lv_istore_n (lv' := [(3, .int j55_S0), (0, .ref h), (1, .int x1), (2, .int y_41), (5, .int j21_L5)]) hx hb dX7_bears_55 rfl hl (by decide) rfl (fun ls hl => ?_)
              refine lv_iload hx hb dX7_bears_56 (lv_at hl 4 rfl) ?_
              refine lv_istore (lv' := [(4, .int j21_L5), (3, .int j55_S0), (0, .ref h), (1, .int x1), (2, .int y_41), (5, .int j21_L5)]) hx hb dX7_bears_58 hl (by decide) rfl (fun ls hl => ?_)
              exact J_60 y_41 j55_S0 j21_L5 (iR_w hj55_S0 (by decide +kernel)) (iR_w f_29_1 (by decide +kernel)) H locs ls hP hD hS (lv_sub hl [2, 3, 4, 1, 0, 5] rfl)
            refine lv_icmp_ne (tgt := 54) hx hb dX7_bears_46 (by decide) (fun c_46 => ?_) (fun c_46 => ?_)
            · have c_46 : ¬ j21_L3 = (-1) := c_46
              have f_54_3 : iR j21_L3 0 999 := iR_neL c_46 hj21_L3 (iR_c (n := (-1)) (a := (-1)) (b := (-1)) (by decide +kernel) (by decide +kernel)) (by decide +kernel)
              refine lv_iload_n hx hb dX7_bears_54 rfl (lv_at hl 3 rfl) ?_
              exact J_55 j21_L3 f_54_3 H locs ls hP hD hS (lv_sub hl [1, 2, 0, 5] rfl)
            · have c_46 : j21_L3 = (-1) := c_46
              have f_49_3 : iR j21_L3 (-1) (-1) := iR_eqL c_46 hj21_L3 (iR_c (n := (-1)) (a := (-1)) (b := (-1)) (by decide +kernel) (by decide +kernel)) (by decide +kernel)
              refine lv_iload hx hb dX7_bears_49 (lv_at hl 5 rfl) ?_
              refine lv_goto (tgt := 55) hx hb dX7_bears_51 (by decide) ?_
              exact J_55 j21_L5 (iR_w f_29_1 (by decide +kernel)) H locs ls hP hD hS (lv_sub hl [1, 2, 0, 5] rfl)
          · have c_35 : r_32 = 0 := c_35
            have f_38_2 : iR r_32 0 0 := iR_eqL c_35 g_32_0 (iR_c (n := 0) (a := 0) (b := 0) (by decide +kernel) (by decide +kernel)) (by decide +kernel)
            refine lv_goto (tgt := 60) hx hb dX7_bears_38 (by decide) ?_
            exact J_60 j21_L2 j21_L3 j21_L4 hj21_L3 hj21_L4 H locs ls hP hD hS (lv_sub hl [0, 1, 2, 3, 4, 5] rfl)
    refine lv_istore (lv' := [(5, .int 1), (4, .int (-1)), (3, .int (-1)), (2, .int 0), (0, .ref h), (1, .int x1)]) hx hb dX7_bears_19 hl (by decide) rfl (fun ls hl => ?_)
    exact J_21 _ 0 (-1) (-1) 1 (iR_c (n := (-1)) (a := (-1)) (b := 999) (by decide +kernel) (by decide +kernel)) (iR_c (n := (-1)) (a := (-1)) (b := 999) (by decide +kernel) (by decide +kernel)) (iR_c (n := 1) (a := 1) (b := 1000) (by decide +kernel) (by decide +kernel)) (Nat.lt_succ_self _) H locs ls hP hD hS (lv_sub hl [4, 5, 3, 2, 1, 0] rfl)
  · have c_6 : r_3 = 0 := c_6
    have f_9_1 : iR r_3 0 0 := iR_eqL c_6 g_3_0 (iR_c (n := 0) (a := 0) (b := 0) (by decide +kernel) (by decide +kernel)) (by decide +kernel)
    refine lv_iconst (v := (-1)) hx hb dX7_bears_9 (by decide +kernel) ?_
    exact k_ri B hP hD hS dX7_bears_10 () [0, 1, 2] rfl rfl rfl (Nat.le_of_ble_eq_true rfl) (Nat.le_of_ble_eq_true rfl) trivial
set_option maxHeartbeats 8000000 in
set_option maxRecDepth 100000 in
theorem s_X7_areWishes_v1 (l : Launch) (dC : Nat → ClassId) (dI : Nat → Nat → Nat) (cI cJ cZ cM : ClassId) (h : Nat) (r : Nat → Nat) (i : Nat → Int32) (j : Nat → Int64) (x1 : Int32) (f0 : Nat → Int32) (f18 : Nat → Int32) (hx1 : iR x1 0 1600) (hI : mR i) (hf0 : aR f0 0 255) (hf18 : aR f18 0 12) : k_Mi l yX7_areWishes wsX7_areWishes ({ frames := 2, cells := 0, slots := 0, locals := 61 }) (dC, dI) vwCl (tyy cI cJ cZ cM) [(h, .inr (7, oM r i j)), ((r 0), .inl (cI, 1800, .inl f0)), ((r 18), .inl (cI, 2, .inl f18))] [.ref h, .int x1, .int 0] 0 0 (fun (u9 : Unit) => [(h, .inr (7, oM r i j)), ((r 0), .inl (cI, 1800, .inl f0)), ((r 18), .inl (cI, 2, .inl f18))]) (fun (r9 : Int32) (u9 : Unit) => (iR r9 0 1) ∧ ((r9 = 0) ∨ ((AW f0 (f18 (i 13).toNatClampNeg) x1 0)))) := by
  refine fun sz => k_enter (cc := cX7_areWishes) (maxL := 4) (ret := some (.boolean)) (Qc := fun A => va_Qi (fun (r9 : Int32) (u9 : Unit) => (iR r9 0 1) ∧ ((r9 = 0) ∨ ((AW f0 (f18 (i 13).toNatClampNeg) x1 0)))) (fun u => k_B (dC, dI) vwCl (tyy cI cJ cZ cM) A ((fun (u9 : Unit) => [(h, .inr (7, oM r i j)), ((r 0), .inl (cI, 1800, .inl f0)), ((r 18), .inl (cI, 2, .inl f18))]) u)) A) sz (by decide +kernel) rfl (Nat.le_of_ble_eq_true rfl) (fun p e s m args below meth c A ls H locs B hP hD hS hl => ?_)
  obtain ⟨hx, hb, hml, hown, hts, hr, hlk, hnm, hK, hA, hN, hC⟩ := id B
  have hown : s.vm.findClass RX7 = some m.cls := hown
  have hl : lv_has ls 4 [(0, .ref h), (1, .int x1), (2, .int 0)] := hl
  have w_0 : (Cond.fieldLink RX7 7 "WishSeaModel" "tape" "[I").before args s = true := hts _ (List.mem_of_getElem? (i := 1) rfl)
  have hinX7 : ∀ w ∈ u_ws RX7 TX7 92, w ∈ wsX7_areWishes := fun _ h => List.mem_cons_of_mem _ (List.mem_append_right _ h)
  refine lv_iconst (v := 0) hx hb dX7_areWishes_0 (by decide +kernel) ?_
  have J_2 : ∀ (n_2 : Nat) (j2_L3 : Int32) (hj2_L3 : iR j2_L3 0 1600) (p2_0 : AW f0 (f18 (i 13).toNatClampNeg) j2_L3 0) (hm_2 : (1600 - j2_L3.toInt).toNat < n_2) (H : Heap) (locs : List Loc) (ls : Array Slot), va_P (dC, dI) vwCl [(h, .inr (7, oM r i j)), ((r 0), .inl (cI, 1800, .inl f0)), ((r 18), .inl (cI, 2, .inl f18))] H → va_D A [(h, .inr (7, oM r i j)), ((r 0), .inl (cI, 1800, .inl f0)), ((r 18), .inl (cI, 2, .inl f18))] → va_S A s.heap H locs → lv_has ls 4 [(0, .ref h), (1, .int x1), (2, .int 0), (3, .int j2_L3)] → W p l e ({ frames := 2, cells := 0, slots := 0, locals := 61 }) s m args below meth c H locs 0 0 (MQ below (va_Qi (fun (r9 : Int32) (u9 : Unit) => (iR r9 0 1) ∧ ((r9 = 0) ∨ ((AW f0 (f18 (i 13).toNatClampNeg) x1 0)))) (fun u => k_B (dC, dI) vwCl (tyy cI cJ cZ cM) A ((fun (u9 : Unit) => [(h, .inr (7, oM r i j)), ((r 0), .inl (cI, 1800, .inl f0)), ((r 18), .inl (cI, 2, .inl f18))]) u)) A) args s 0 0 A) (F0 m 2 ls []) := by
    intro n_2
    induction n_2 with
    | zero => intro j2_L3 hj2_L3 p2_0 hm_2; exact absurd hm_2 (Nat.not_lt_zero _)
    | succ n_2 ih_2 =>
      intro j2_L3 hj2_L3 p2_0 hm_2 H locs ls hP hD hS hl
      refine lv_iload_n hx hb dX7_areWishes_2 rfl (lv_at hl 3 rfl) ?_
      refine lv_iload_n hx hb dX7_areWishes_3 rfl (lv_at hl 1 rfl) ?_
      refine lv_icmp_ge (tgt := 44) hx hb dX7_areWishes_4 (by decide) (fun c_4 => ?_) (fun c_4 => ?_)
      · have c_4 : x1 ≤ j2_L3 := c_4
        refine lv_iconst (v := 1) hx hb dX7_areWishes_44 (by decide +kernel) ?_
        exact k_ri B hP hD hS dX7_areWishes_45 () [0, 1, 2] rfl rfl rfl (Nat.le_of_ble_eq_true rfl) (Nat.le_of_ble_eq_true rfl) ⟨(show iR 1 0 1 from (iR_c (n := 1) (a := 0) (b := 1) (by decide +kernel) (by decide +kernel))), (show (1 = 0) ∨ ((AW f0 (f18 (i 13).toNatClampNeg) x1 0)) from (Or.inr (AW_le p2_0 c_4)))⟩
      · have c_4 : j2_L3 < x1 := i_nle c_4
        have f_7_1 : iR j2_L3 0 1599 := iR_ltL c_4 hj2_L3 hx1 (by decide +kernel)
        have f_7_2 : iR x1 1 1600 := iR_ltR c_4 hj2_L3 hx1 (by decide +kernel)
        refine lv_aload_n hx hb dX7_areWishes_7 rfl (lv_at hl 0 rfl) ?_
        refine lv_aload_n hx hb dX7_areWishes_8 rfl (lv_at hl 0 rfl) ?_
        refine k_get (D := (dC, dI)) (ci := 7) (v := .ref (r 0)) (C := RX7) (T := TX7) (N := 92) hx hb hts hinX7 hown hK hP 0 rfl rfl 0 (by decide) w_0 rfl rfl dX7_areWishes_9 ?_
        refine lv_iload_n hx hb dX7_areWishes_12 rfl (lv_at hl 3 rfl) ?_
        refine va_iald hx hb hK hP 1 0 rfl rfl (iR_vp f_7_1 (by decide +kernel)) dX7_areWishes_13 ?_
        have f_13_3 : iR (f0 j2_L3.toNatClampNeg) 0 255 := hf0 _
        refine k_ci (wc := [(h, .inr (7, oM r i j)), ((r 18), .inl (cI, 2, .inl f18))]) (wr := [((r 0), .inl (cI, 1800, .inl f0))]) (fun hPc hDc hFc => va_runV (As := [.int (f0 j2_L3.toNatClampNeg)]) (rest := []) ⟨hx, hb, hml, hown, hts⟩ (s_X7_isWish_v1 l dC dI cI cJ cZ cM h r i j (f0 j2_L3.toNatClampNeg) f18 hI hf18 H.size) (cwV 1 hts gX7_areWishes_X7_isWish rfl rfl rfl (by decide +kernel) ⟨(Nat.le_of_ble_eq_true rfl), (Nat.le_of_ble_eq_true rfl)⟩) (k_pV hPc hDc hK hN hC hS hFc hP (q0 := 0) (ci := 7) rfl rfl) rfl rfl hl.1 rfl (lv_room (Nat.le_of_ble_eq_true rfl)) dX7_areWishes_14 ⟨(Nat.le_of_ble_eq_true rfl), (Nat.le_of_ble_eq_true rfl)⟩) hP hD hS hA [0, 2] [1] rfl rfl rfl rfl (by decide) (fun _ => rfl) 0 0 rfl rfl (fun r_14 u_14 H locs hw hP hD hS => ?_)
        obtain ⟨g_14_0, g_14_1⟩ := hw
        have hP : va_P (dC, dI) vwCl [((r 0), .inl (cI, 1800, .inl f0)), (h, .inr (7, oM r i j)), ((r 18), .inl (cI, 2, .inl f18))] H := hP
        have hD : va_D A [((r 0), .inl (cI, 1800, .inl f0)), (h, .inr (7, oM r i j)), ((r 18), .inl (cI, 2, .inl f18))] := hD
        have g_14_1 : (r_14 = 0) ∨ ((0 ≤ (f0 j2_L3.toNatClampNeg)) ∧ ((f0 j2_L3.toNatClampNeg) < (f18 (i 13).toNatClampNeg))) := g_14_1
        refine lv_if_ne (tgt := 38) hx hb dX7_areWishes_17 (by decide) (fun c_17 => ?_) (fun c_17 => ?_)
        · have c_17 : ¬ r_14 = 0 := c_17
          have f_38_4 : iR r_14 1 1 := iR_neL c_17 g_14_0 (iR_c (n := 0) (a := 0) (b := 0) (by decide +kernel) (by decide +kernel)) (by decide +kernel)
          obtain ⟨d_17_1_0, d_17_1_1⟩ := g_14_1.resolve_left c_17
          have f_38_5 : iR (f0 j2_L3.toNatClampNeg) 0 11 := iR_ltL d_17_1_1 f_13_3 (show iR (f18 (i 13).toNatClampNeg) 0 12 from hf18 _) (by decide +kernel)
          have f_38_6 : iR (f18 (i 13).toNatClampNeg) 1 12 := iR_ltR d_17_1_1 f_13_3 (show iR (f18 (i 13).toNatClampNeg) 0 12 from hf18 _) (by decide +kernel)
          obtain ⟨y_38p17, ey_38p17⟩ : ∃ y : Int32, y = j2_L3 + 1 := ⟨_, rfl⟩
          refine lv_iinc (v := y_38p17) (lv' := [(3, .int y_38p17), (0, .ref h), (1, .int x1), (2, .int 0)]) hx hb dX7_areWishes_38 hl (k := 3) rfl ey_38p17.symm (by decide) rfl (fun ls hl => ?_)
          have f_38p17_7 : iR y_38p17 1 1600 := iR_add ey_38p17 f_7_1 (iR_c (n := 1) (a := 1) (b := 1) (by decide +kernel) (by decide +kernel)) (by decide +kernel)
          refine lv_goto (tgt := 2) hx hb dX7_areWishes_41 (by decide) ?_
          exact ih_2 y_38p17 (iR_w f_38p17_7 (by decide +kernel)) (show AW f0 (f18 (i 13).toNatClampNeg) y_38p17 0 from (AW_step p2_0 ey_38p17 f_7_1 (by decide +kernel) (Or.inl ⟨d_17_1_0, d_17_1_1⟩))) (m_up (B := 1600) hm_2 ey_38p17 f_7_1 (by decide +kernel)) H locs ls (hP.sub [1, 0, 2] rfl) (hD.sub [1, 0, 2] (by decide +kernel) rfl) hS (lv_sub hl [1, 2, 3, 0] rfl)
        · have c_17 : r_14 = 0 := c_17
          have f_20_4 : iR r_14 0 0 := iR_eqL c_17 g_14_0 (iR_c (n := 0) (a := 0) (b := 0) (by decide +kernel) (by decide +kernel)) (by decide +kernel)
          refine lv_iload_n hx hb dX7_areWishes_20 rfl (lv_at hl 2 rfl) ?_
          have J_36 : ∀   (H : Heap) (locs : List Loc) (ls : Array Slot), va_P (dC, dI) vwCl [(h, .inr (7, oM r i j)), ((r 0), .inl (cI, 1800, .inl f0)), ((r 18), .inl (cI, 2, .inl f18))] H → va_D A [(h, .inr (7, oM r i j)), ((r 0), .inl (cI, 1800, .inl f0)), ((r 18), .inl (cI, 2, .inl f18))] → va_S A s.heap H locs → lv_has ls 4 [] → W p l e ({ frames := 2, cells := 0, slots := 0, locals := 61 }) s m args below meth c H locs 0 0 (MQ below (va_Qi (fun (r9 : Int32) (u9 : Unit) => (iR r9 0 1) ∧ ((r9 = 0) ∨ ((AW f0 (f18 (i 13).toNatClampNeg) x1 0)))) (fun u => k_B (dC, dI) vwCl (tyy cI cJ cZ cM) A ((fun (u9 : Unit) => [(h, .inr (7, oM r i j)), ((r 0), .inl (cI, 1800, .inl f0)), ((r 18), .inl (cI, 2, .inl f18))]) u)) A) args s 0 0 A) (F0 m 36 ls []) := by
            intro   H locs ls hP hD hS hl
            refine lv_iconst (v := 0) hx hb dX7_areWishes_36 (by decide +kernel) ?_
            exact k_ri B hP hD hS dX7_areWishes_37 () [0, 1, 2] rfl rfl rfl (Nat.le_of_ble_eq_true rfl) (Nat.le_of_ble_eq_true rfl) ⟨(show iR 0 0 1 from (iR_c (n := 0) (a := 0) (b := 1) (by decide +kernel) (by decide +kernel))), (show (0 = 0) ∨ ((AW f0 (f18 (i 13).toNatClampNeg) x1 0)) from (Or.inl rfl))⟩
          refine lv_if_eq (tgt := 36) hx hb dX7_areWishes_21 (by decide) (fun _ => ?_) (fun q9 => absurd q9 (by decide +kernel))
          exact J_36   H locs ls (hP.sub [1, 0, 2] rfl) (hD.sub [1, 0, 2] (by decide +kernel) rfl) hS (lv_sub hl [] rfl)
  refine lv_istore_n (lv' := [(3, .int 0), (0, .ref h), (1, .int x1), (2, .int 0)]) hx hb dX7_areWishes_1 rfl hl (by decide) rfl (fun ls hl => ?_)
  exact J_2 _ 0 (iR_c (n := 0) (a := 0) (b := 1600) (by decide +kernel) (by decide +kernel)) (show AW f0 (f18 (i 13).toNatClampNeg) 0 0 from AW_0) (Nat.lt_succ_self _) H locs ls hP hD hS (lv_sub hl [1, 2, 3, 0] rfl)
