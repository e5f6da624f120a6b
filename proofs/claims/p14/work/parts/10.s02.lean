set_option maxHeartbeats 8000000 in
set_option maxRecDepth 100000 in
theorem s_X7_blame_v2 (l : Launch) (dC : Nat → ClassId) (dI : Nat → Nat → Nat) (cI cJ cZ cM : ClassId) (h : Nat) (r : Nat → Nat) (i : Nat → Int32) (j : Nat → Int64) (x1 : Int32) (x2 : Int32) (hx1 : iR x1 1 6) (hI : mR i) : k_Mv l yX7_blame wsX7_blame ({ frames := 1, cells := 0, slots := 0, locals := 40 }) (dC, dI) vwCl (tyy cI cJ cZ cM) [(h, .inr (7, oM r i j))] [.ref h, .int x1, .int x2] 0 0 (fun (u9 : SU) => [(h, .inr (7, oM r (upd (upd i 8 (u9.1 0)) 9 (u9.1 1)) j))]) (fun (u9 : SU) => (iR (u9.1 0) 1 6)) := by
  refine fun sz => k_enter (cc := cX7_blame) (maxL := 3) (ret := none) (Qc := fun A => va_Qv (fun (u9 : SU) => (iR (u9.1 0) 1 6)) (fun u => k_B (dC, dI) vwCl (tyy cI cJ cZ cM) A ((fun (u9 : SU) => [(h, .inr (7, oM r (upd (upd i 8 (u9.1 0)) 9 (u9.1 1)) j))]) u)) A) sz (by decide +kernel) rfl (Nat.le_of_ble_eq_true rfl) (fun p e s m args below meth c A ls H locs B hP hD hS hl => ?_)
  obtain ⟨hx, hb, hml, hown, hts, hr, hlk, hnm, hK, hA, hN, hC⟩ := id B
  have hown : s.vm.findClass RX7 = some m.cls := hown
  have hl : lv_has ls 3 [(0, .ref h), (1, .int x1), (2, .int x2)] := hl
  have w_0 : (Cond.fieldLink RX7 36 "WishSeaModel" "faultKind" "I").before args s = true := hts _ (List.mem_of_getElem? (i := 1) rfl)
  have w_1 : (Cond.fieldLink RX7 39 "WishSeaModel" "faultPlace" "I").before args s = true := hts _ (List.mem_of_getElem? (i := 2) rfl)
  have hinX7 : ∀ w ∈ u_ws RX7 TX7 92, w ∈ wsX7_blame := fun _ h => List.mem_cons_of_mem _ (List.mem_append_right _ h)
  refine lv_aload_n hx hb dX7_blame_0 rfl (lv_at hl 0 rfl) ?_
  have f_1_1 : iR (i 8) 0 6 := hI 8
  refine k_get (D := (dC, dI)) (ci := 7) (v := .int (i 8)) (C := RX7) (T := TX7) (N := 92) hx hb hts hinX7 hown hK hP 0 rfl rfl 8 (by decide) w_0 rfl rfl dX7_blame_1 ?_
  refine lv_if_le (tgt := 8) hx hb dX7_blame_4 (by decide) (fun c_4 => ?_) (fun c_4 => ?_)
  · have c_4 : (i 8) ≤ 0 := c_4
    have f_8_2 : iR (i 8) 0 0 := iR_leL c_4 f_1_1 (iR_c (n := 0) (by decide +kernel) (by decide +kernel)) (by decide +kernel)
    refine lv_aload_n hx hb dX7_blame_8 rfl (lv_at hl 0 rfl) ?_
    refine lv_iload_n hx hb dX7_blame_9 rfl (lv_at hl 1 rfl) ?_
    refine k_put (D := (dC, dI)) (ci := 7) (v := .int x1) (C := RX7) (T := TX7) (N := 92) (ws' := [(h, .inr (7, oM r (upd i 8 x1) j))]) hx hb hts hinX7 tyX7 tyX7_ok nmX7 hown hK hP hD hS 0 rfl rfl 8 (by decide) w_0 rfl rfl rfl rfl (Nat.le_of_ble_eq_true rfl) rfl dX7_blame_10 (fun H locs hP hD hS => ?_)
    refine lv_aload_n hx hb dX7_blame_13 rfl (lv_at hl 0 rfl) ?_
    refine lv_iload_n hx hb dX7_blame_14 rfl (lv_at hl 2 rfl) ?_
    refine k_put (D := (dC, dI)) (ci := 7) (v := .int x2) (C := RX7) (T := TX7) (N := 92) (ws' := [(h, .inr (7, oM r (upd (upd i 8 x1) 9 x2) j))]) hx hb hts hinX7 tyX7 tyX7_ok nmX7 hown hK hP hD hS 0 rfl rfl 9 (by decide) w_1 rfl rfl rfl rfl (Nat.le_of_ble_eq_true rfl) rfl dX7_blame_15 (fun H locs hP hD hS => ?_)
    exact k_rv B hP hD hS dX7_blame_18 ((fun k9 => match k9 with | 0 => x1 | 1 => x2 | _ => 0), (fun _ => 0), (fun _ => (fun _ => 0)), (fun _ => (fun _ => 0)), (fun _ => 0)) [0] rfl rfl (Nat.le_of_ble_eq_true rfl) (Nat.le_of_ble_eq_true rfl) hx1
  · have c_4 : 0 < (i 8) := i_nle c_4
    have f_7_2 : iR (i 8) 1 6 := iR_ltR c_4 (iR_c (n := 0) (by decide +kernel) (by decide +kernel)) f_1_1 (by decide +kernel)
    exact k_rv B hP hD hS dX7_blame_7 ((fun k9 => match k9 with | 0 => (i 8) | 1 => (i 9) | _ => 0), (fun _ => 0), (fun _ => (fun _ => 0)), (fun _ => (fun _ => 0)), (fun _ => 0)) [0] rfl rfl (Nat.le_of_ble_eq_true rfl) (Nat.le_of_ble_eq_true rfl) f_7_2
set_option maxHeartbeats 8000000 in
set_option maxRecDepth 100000 in
theorem s_X7_lex_v1 (l : Launch) (dC : Nat → ClassId) (dI : Nat → Nat → Nat) (cI cJ cZ cM : ClassId) (h : Nat) (r : Nat → Nat) (i : Nat → Int32) (j : Nat → Int64) (hI : mR i) : k_Mv l yX7_lex wsX7_lex ({ frames := 2, cells := 0, slots := 0, locals := 62 }) (dC, dI) vwCl (tyy cI cJ cZ cM) [(h, .inr (7, oM r i j))] [.ref h] 0 0 (fun (u9 : SU) => [(h, .inr (7, oM r (upd (upd i 8 (u9.1 0)) 9 (u9.1 1)) j))]) (fun (u9 : SU) => (iR (u9.1 0) 0 6)) := by
  refine fun sz => k_enter (cc := cX7_lex) (maxL := 1) (ret := none) (Qc := fun A => va_Qv (fun (u9 : SU) => (iR (u9.1 0) 0 6)) (fun u => k_B (dC, dI) vwCl (tyy cI cJ cZ cM) A ((fun (u9 : SU) => [(h, .inr (7, oM r (upd (upd i 8 (u9.1 0)) 9 (u9.1 1)) j))]) u)) A) sz (by decide +kernel) rfl (Nat.le_of_ble_eq_true rfl) (fun p e s m args below meth c A ls H locs B hP hD hS hl => ?_)
  obtain ⟨hx, hb, hml, hown, hts, hr, hlk, hnm, hK, hA, hN, hC⟩ := id B
  have hown : s.vm.findClass RX7 = some m.cls := hown
  have hl : lv_has ls 1 [(0, .ref h)] := hl
  have w_0 : (Cond.fieldLink RX7 48 "WishSeaModel" "lexAt" "I").before args s = true := hts _ (List.mem_of_getElem? (i := 1) rfl)
  have hinX7 : ∀ w ∈ u_ws RX7 TX7 92, w ∈ wsX7_lex := fun _ h => List.mem_cons_of_mem _ (List.mem_append_right _ h)
  refine lv_aload_n hx hb dX7_lex_0 rfl (lv_at hl 0 rfl) ?_
  refine k_get (D := (dC, dI)) (ci := 7) (v := .int (i 12)) (C := RX7) (T := TX7) (N := 92) hx hb hts hinX7 hown hK hP 0 rfl rfl 12 (by decide) w_0 rfl rfl dX7_lex_1 ?_
  refine lv_iconst (v := (-1)) hx hb dX7_lex_4 (by decide +kernel) ?_
  have J_17 : ∀ (j17_M0_8 : Int32) (j17_M0_9 : Int32) (hj17_M0_8 : iR j17_M0_8 0 6) (H : Heap) (locs : List Loc) (ls : Array Slot), va_P (dC, dI) vwCl [(h, .inr (7, oM r (upd (upd i 8 j17_M0_8) 9 j17_M0_9) j))] H → va_D A [(h, .inr (7, oM r (upd (upd i 8 j17_M0_8) 9 j17_M0_9) j))] → va_S A s.heap H locs → lv_has ls 1 [] → W p l e ({ frames := 2, cells := 0, slots := 0, locals := 62 }) s m args below meth c H locs 0 0 (MQ below (va_Qv (fun (u9 : SU) => (iR (u9.1 0) 0 6)) (fun u => k_B (dC, dI) vwCl (tyy cI cJ cZ cM) A ((fun (u9 : SU) => [(h, .inr (7, oM r (upd (upd i 8 (u9.1 0)) 9 (u9.1 1)) j))]) u)) A) args s 0 0 A) (F0 m 17 ls []) := by
    intro j17_M0_8 j17_M0_9 hj17_M0_8 H locs ls hP hD hS hl
    exact k_rv B hP hD hS dX7_lex_17 ((fun k9 => match k9 with | 0 => j17_M0_8 | 1 => j17_M0_9 | _ => 0), (fun _ => 0), (fun _ => (fun _ => 0)), (fun _ => (fun _ => 0)), (fun _ => 0)) [0] rfl rfl (Nat.le_of_ble_eq_true rfl) (Nat.le_of_ble_eq_true rfl) hj17_M0_8
  refine lv_icmp_eq (tgt := 17) hx hb dX7_lex_5 (by decide) (fun c_5 => ?_) (fun c_5 => ?_)
  · have c_5 : (i 12) = (-1) := c_5
    have f_17_1 : iR (i 12) (-1) (-1) := iR_eqL c_5 (iR_top _) (iR_c (n := (-1)) (by decide +kernel) (by decide +kernel)) (by decide +kernel)
    exact J_17 (i 8) (i 9) (show iR (i 8) 0 6 from hI 8) H locs ls hP hD hS (lv_sub hl [] rfl)
  · have c_5 : ¬ (i 12) = (-1) := c_5
    refine lv_aload_n hx hb dX7_lex_8 rfl (lv_at hl 0 rfl) ?_
    refine lv_iconst (v := 1) hx hb dX7_lex_9 (by decide +kernel) ?_
    refine lv_aload_n hx hb dX7_lex_10 rfl (lv_at hl 0 rfl) ?_
    refine k_get (D := (dC, dI)) (ci := 7) (v := .int (i 12)) (C := RX7) (T := TX7) (N := 92) hx hb hts hinX7 hown hK hP 0 rfl rfl 12 (by decide) w_0 rfl rfl dX7_lex_11 ?_
    refine k_cv (wc := [(h, .inr (7, oM r i j))]) (wr := []) (fun hPc hDc hFc => va_runV (As := [.int 1, .int (i 12)]) (rest := []) ⟨hx, hb, hml, hown, hts⟩ (s_X7_blame_v1 l dC dI cI cJ cZ cM h r i j 1 (i 12) (iR_c (n := 1) (by decide +kernel) (by decide +kernel)) hI H.size) (cwV 2 hts gX7_lex_X7_blame rfl rfl rfl (by decide +kernel) ⟨(Nat.le_of_ble_eq_true rfl), (Nat.le_of_ble_eq_true rfl)⟩) (k_pV hPc hDc hK hN hC hS hFc hP (q0 := 0) (ci := 7) rfl rfl) rfl rfl hl.1 rfl (lv_room (Nat.le_of_ble_eq_true rfl)) dX7_lex_14 ⟨(Nat.le_of_ble_eq_true rfl), (Nat.le_of_ble_eq_true rfl)⟩) hP hD hS hA [0] [] rfl rfl rfl rfl (by decide) (fun _ => rfl) 0 0 rfl rfl (fun u_14 H locs hw hP hD hS => ?_)
    obtain g_14_0 := hw
    have hP : va_P (dC, dI) vwCl [(h, .inr (7, oM r (upd (upd i 8 (u_14.1 0)) 9 (u_14.1 1)) j))] H := hP
    have hD : va_D A [(h, .inr (7, oM r (upd (upd i 8 (u_14.1 0)) 9 (u_14.1 1)) j))] := hD
    exact J_17 (u_14.1 0) (u_14.1 1) (iR_w g_14_0 (by decide +kernel)) H locs ls hP hD hS (lv_sub hl [] rfl)
set_option maxHeartbeats 8000000 in
set_option maxRecDepth 100000 in
theorem s_X7_isSign_v1 (l : Launch) (dC : Nat → ClassId) (dI : Nat → Nat → Nat) (cI cJ cZ cM : ClassId) (h : Nat) (r : Nat → Nat) (i : Nat → Int32) (j : Nat → Int64) (x1 : Int32) (hI : mR i) : k_Mi l yX7_isSign wsX7_isSign ({ frames := 1, cells := 0, slots := 0, locals := 40 }) (dC, dI) vwCl (tyy cI cJ cZ cM) [(h, .inr (7, oM r i j))] [.ref h, .int x1] 0 0 (fun (u9 : Unit) => [(h, .inr (7, oM r i j))]) (fun (r9 : Int32) (u9 : Unit) => (iR r9 0 1)) := by
  refine fun sz => k_enter (cc := cX7_isSign) (maxL := 2) (ret := some (.boolean)) (Qc := fun A => va_Qi (fun (r9 : Int32) (u9 : Unit) => (iR r9 0 1)) (fun u => k_B (dC, dI) vwCl (tyy cI cJ cZ cM) A ((fun (u9 : Unit) => [(h, .inr (7, oM r i j))]) u)) A) sz (by decide +kernel) rfl (Nat.le_of_ble_eq_true rfl) (fun p e s m args below meth c A ls H locs B hP hD hS hl => ?_)
  obtain ⟨hx, hb, hml, hown, hts, hr, hlk, hnm, hK, hA, hN, hC⟩ := id B
  have hown : s.vm.findClass RX7 = some m.cls := hown
  have hl : lv_has ls 2 [(0, .ref h), (1, .int x1)] := hl
  have w_0 : (Cond.fieldLink RX7 20 "WishSeaModel" "sign" "I").before args s = true := hts _ (List.mem_of_getElem? (i := 1) rfl)
  have w_1 : (Cond.fieldLink RX7 29 "WishSeaModel" "value" "I").before args s = true := hts _ (List.mem_of_getElem? (i := 2) rfl)
  have hinX7 : ∀ w ∈ u_ws RX7 TX7 92, w ∈ wsX7_isSign := fun _ h => List.mem_cons_of_mem _ (List.mem_append_right _ h)
  refine lv_aload_n hx hb dX7_isSign_0 rfl (lv_at hl 0 rfl) ?_
  have f_1_1 : iR (i 3) 0 3 := hI 3
  refine k_get (D := (dC, dI)) (ci := 7) (v := .int (i 3)) (C := RX7) (T := TX7) (N := 92) hx hb hts hinX7 hown hK hP 0 rfl rfl 3 (by decide) w_0 rfl rfl dX7_isSign_1 ?_
  refine lv_iconst (v := 3) hx hb dX7_isSign_4 (by decide +kernel) ?_
  have J_20 : ∀   (H : Heap) (locs : List Loc) (ls : Array Slot), va_P (dC, dI) vwCl [(h, .inr (7, oM r i j))] H → va_D A [(h, .inr (7, oM r i j))] → va_S A s.heap H locs → lv_has ls 2 [] → W p l e ({ frames := 1, cells := 0, slots := 0, locals := 40 }) s m args below meth c H locs 0 0 (MQ below (va_Qi (fun (r9 : Int32) (u9 : Unit) => (iR r9 0 1)) (fun u => k_B (dC, dI) vwCl (tyy cI cJ cZ cM) A ((fun (u9 : Unit) => [(h, .inr (7, oM r i j))]) u)) A) args s 0 0 A) (F0 m 20 ls []) := by
    intro   H locs ls hP hD hS hl
    refine lv_iconst (v := 0) hx hb dX7_isSign_20 (by decide +kernel) ?_
    exact k_ri B hP hD hS dX7_isSign_21 () [0] rfl rfl rfl (Nat.le_of_ble_eq_true rfl) (Nat.le_of_ble_eq_true rfl) (iR_c (n := 0) (by decide +kernel) (by decide +kernel))
  refine lv_icmp_ne (tgt := 20) hx hb dX7_isSign_5 (by decide) (fun c_5 => ?_) (fun c_5 => ?_)
  · have c_5 : ¬ (i 3) = 3 := c_5
    have f_20_2 : iR (i 3) 0 2 := iR_neL c_5 f_1_1 (iR_c (n := 3) (by decide +kernel) (by decide +kernel)) (by decide +kernel)
    exact J_20   H locs ls hP hD hS (lv_sub hl [] rfl)
  · have c_5 : (i 3) = 3 := c_5
    have f_8_2 : iR (i 3) 3 3 := iR_eqL c_5 f_1_1 (iR_c (n := 3) (by decide +kernel) (by decide +kernel)) (by decide +kernel)
    refine lv_aload_n hx hb dX7_isSign_8 rfl (lv_at hl 0 rfl) ?_
    refine k_get (D := (dC, dI)) (ci := 7) (v := .int (i 6)) (C := RX7) (T := TX7) (N := 92) hx hb hts hinX7 hown hK hP 0 rfl rfl 6 (by decide) w_1 rfl rfl dX7_isSign_9 ?_
    refine lv_iload_n hx hb dX7_isSign_12 rfl (lv_at hl 1 rfl) ?_
    refine lv_icmp_ne (tgt := 20) hx hb dX7_isSign_13 (by decide) (fun c_13 => ?_) (fun c_13 => ?_)
    · have c_13 : ¬ (i 6) = x1 := c_13
      exact J_20   H locs ls hP hD hS (lv_sub hl [] rfl)
    · have c_13 : (i 6) = x1 := c_13
      refine lv_iconst (v := 1) hx hb dX7_isSign_16 (by decide +kernel) ?_
      refine lv_goto (tgt := 21) hx hb dX7_isSign_17 (by decide) ?_
      exact k_ri B hP hD hS dX7_isSign_21 () [0] rfl rfl rfl (Nat.le_of_ble_eq_true rfl) (Nat.le_of_ble_eq_true rfl) (iR_c (n := 1) (by decide +kernel) (by decide +kernel))
set_option maxHeartbeats 8000000 in
set_option maxRecDepth 100000 in
theorem s_X7_ahead_v1 (l : Launch) (dC : Nat → ClassId) (dI : Nat → Nat → Nat) (cI cJ cZ cM : ClassId) (h : Nat) (r : Nat → Nat) (i : Nat → Int32) (j : Nat → Int64) (f0 : Nat → Int32) (hI : mR i) (hf0 : aR f0 0 255) : k_Mv l yX7_ahead wsX7_ahead ({ frames := 2, cells := 0, slots := 0, locals := 62 }) (dC, dI) vwCl (tyy cI cJ cZ cM) [(h, .inr (7, oM r i j)), ((r 0), .inl (cI, 1800, .inl f0))] [.ref h] 0 0 (fun (u9 : SU) => [(h, .inr (7, oM r (upd (upd (upd (upd (upd i 3 (u9.1 0)) 4 (u9.1 1)) 5 (u9.1 2)) 6 (u9.1 3)) 12 (u9.1 4)) (vp_updL j 7 (u9.2.1 0)))), ((r 0), .inl (cI, 1800, .inl f0))]) (fun (u9 : SU) => (iR (u9.1 0) 0 3) ∧ (iR (u9.1 1) 0 1600) ∧ (iR (u9.1 2) 0 1600) ∧ (iR (u9.1 4) (-1) 1599)) := by
  refine fun sz => k_enter (cc := cX7_ahead) (maxL := 6) (ret := none) (Qc := fun A => va_Qv (fun (u9 : SU) => (iR (u9.1 0) 0 3) ∧ (iR (u9.1 1) 0 1600) ∧ (iR (u9.1 2) 0 1600) ∧ (iR (u9.1 4) (-1) 1599)) (fun u => k_B (dC, dI) vwCl (tyy cI cJ cZ cM) A ((fun (u9 : SU) => [(h, .inr (7, oM r (upd (upd (upd (upd (upd i 3 (u9.1 0)) 4 (u9.1 1)) 5 (u9.1 2)) 6 (u9.1 3)) 12 (u9.1 4)) (vp_updL j 7 (u9.2.1 0)))), ((r 0), .inl (cI, 1800, .inl f0))]) u)) A) sz (by decide +kernel) rfl (Nat.le_of_ble_eq_true rfl) (fun p e s m args below meth c A ls H locs B hP hD hS hl => ?_)
  obtain ⟨hx, hb, hml, hown, hts, hr, hlk, hnm, hK, hA, hN, hC⟩ := id B
  have hown : s.vm.findClass RX7 = some m.cls := hown
  have hl : lv_has ls 6 [(0, .ref h)] := hl
  have w_0 : (Cond.fieldLink RX7 26 "WishSeaModel" "signEnd" "I").before args s = true := hts _ (List.mem_of_getElem? (i := 1) rfl)
  have w_1 : (Cond.fieldLink RX7 17 "WishSeaModel" "size" "I").before args s = true := hts _ (List.mem_of_getElem? (i := 2) rfl)
  have w_2 : (Cond.fieldLink RX7 23 "WishSeaModel" "signAt" "I").before args s = true := hts _ (List.mem_of_getElem? (i := 4) rfl)
  have w_3 : (Cond.fieldLink RX7 20 "WishSeaModel" "sign" "I").before args s = true := hts _ (List.mem_of_getElem? (i := 5) rfl)
  have w_4 : (Cond.fieldLink RX7 48 "WishSeaModel" "lexAt" "I").before args s = true := hts _ (List.mem_of_getElem? (i := 6) rfl)
  have w_5 : (Cond.fieldLink RX7 7 "WishSeaModel" "tape" "[I").before args s = true := hts _ (List.mem_of_getElem? (i := 3) rfl)
  have w_6 : (Cond.fieldLink RX7 29 "WishSeaModel" "value" "I").before args s = true := hts _ (List.mem_of_getElem? (i := 7) rfl)
  have w_7 : (Cond.fieldLink RX7 32 "WishSeaModel" "word" "J").before args s = true := hts _ (List.mem_of_getElem? (i := 8) rfl)
  have hinX7 : ∀ w ∈ u_ws RX7 TX7 92, w ∈ wsX7_ahead := fun _ h => List.mem_cons_of_mem _ (List.mem_append_right _ h)
  refine lv_aload_n hx hb dX7_ahead_0 rfl (lv_at hl 0 rfl) ?_
  have f_1_1 : iR (i 5) 0 1600 := hI 5
  refine k_get (D := (dC, dI)) (ci := 7) (v := .int (i 5)) (C := RX7) (T := TX7) (N := 92) hx hb hts hinX7 hown hK hP 0 rfl rfl 5 (by decide) w_0 rfl rfl dX7_ahead_1 ?_
  have J_5 : ∀ (n_5 : Nat) (j5_L1 : Int32) (hj5_L1 : iR j5_L1 0 1600) (hm_5 : (1600 - j5_L1.toInt).toNat < n_5) (H : Heap) (locs : List Loc) (ls : Array Slot), va_P (dC, dI) vwCl [(h, .inr (7, oM r i j)), ((r 0), .inl (cI, 1800, .inl f0))] H → va_D A [(h, .inr (7, oM r i j)), ((r 0), .inl (cI, 1800, .inl f0))] → va_S A s.heap H locs → lv_has ls 6 [(0, .ref h), (1, .int j5_L1)] → W p l e ({ frames := 2, cells := 0, slots := 0, locals := 62 }) s m args below meth c H locs 0 0 (MQ below (va_Qv (fun (u9 : SU) => (iR (u9.1 0) 0 3) ∧ (iR (u9.1 1) 0 1600) ∧ (iR (u9.1 2) 0 1600) ∧ (iR (u9.1 4) (-1) 1599)) (fun u => k_B (dC, dI) vwCl (tyy cI cJ cZ cM) A ((fun (u9 : SU) => [(h, .inr (7, oM r (upd (upd (upd (upd (upd i 3 (u9.1 0)) 4 (u9.1 1)) 5 (u9.1 2)) 6 (u9.1 3)) 12 (u9.1 4)) (vp_updL j 7 (u9.2.1 0)))), ((r 0), .inl (cI, 1800, .inl f0))]) u)) A) args s 0 0 A) (F0 m 5 ls []) := by
    intro n_5
    induction n_5 with
    | zero => intro j5_L1 hj5_L1 hm_5; exact absurd hm_5 (Nat.not_lt_zero _)
    | succ n_5 ih_5 =>
      intro j5_L1 hj5_L1 hm_5 H locs ls hP hD hS hl
      refine lv_iload_n hx hb dX7_ahead_5 rfl (lv_at hl 1 rfl) ?_
      refine lv_aload_n hx hb dX7_ahead_6 rfl (lv_at hl 0 rfl) ?_
      have f_7_1 : iR (i 2) 0 1600 := hI 2
      refine k_get (D := (dC, dI)) (ci := 7) (v := .int (i 2)) (C := RX7) (T := TX7) (N := 92) hx hb hts hinX7 hown hK hP 0 rfl rfl 2 (by decide) w_1 rfl rfl dX7_ahead_7 ?_
      have J_41 : ∀   (H : Heap) (locs : List Loc) (ls : Array Slot), va_P (dC, dI) vwCl [(h, .inr (7, oM r i j)), ((r 0), .inl (cI, 1800, .inl f0))] H → va_D A [(h, .inr (7, oM r i j)), ((r 0), .inl (cI, 1800, .inl f0))] → va_S A s.heap H locs → lv_has ls 6 [(0, .ref h), (1, .int j5_L1)] → W p l e ({ frames := 2, cells := 0, slots := 0, locals := 62 }) s m args below meth c H locs 0 0 (MQ below (va_Qv (fun (u9 : SU) => (iR (u9.1 0) 0 3) ∧ (iR (u9.1 1) 0 1600) ∧ (iR (u9.1 2) 0 1600) ∧ (iR (u9.1 4) (-1) 1599)) (fun u => k_B (dC, dI) vwCl (tyy cI cJ cZ cM) A ((fun (u9 : SU) => [(h, .inr (7, oM r (upd (upd (upd (upd (upd i 3 (u9.1 0)) 4 (u9.1 1)) 5 (u9.1 2)) 6 (u9.1 3)) 12 (u9.1 4)) (vp_updL j 7 (u9.2.1 0)))), ((r 0), .inl (cI, 1800, .inl f0))]) u)) A) args s 0 0 A) (F0 m 41 ls []) := by
        intro   H locs ls hP hD hS hl
        refine lv_aload_n hx hb dX7_ahead_41 rfl (lv_at hl 0 rfl) ?_
        refine lv_iload_n hx hb dX7_ahead_42 rfl (lv_at hl 1 rfl) ?_
        refine k_put (D := (dC, dI)) (ci := 7) (v := .int j5_L1) (C := RX7) (T := TX7) (N := 92) (ws' := [(h, .inr (7, oM r (upd i 4 j5_L1) j)), ((r 0), .inl (cI, 1800, .inl f0))]) hx hb hts hinX7 tyX7 tyX7_ok nmX7 hown hK hP hD hS 0 rfl rfl 4 (by decide) w_2 rfl rfl rfl rfl (Nat.le_of_ble_eq_true rfl) rfl dX7_ahead_43 (fun H locs hP hD hS => ?_)
        refine lv_aload_n hx hb dX7_ahead_46 rfl (lv_at hl 0 rfl) ?_
        refine lv_iload_n hx hb dX7_ahead_47 rfl (lv_at hl 1 rfl) ?_
        refine k_put (D := (dC, dI)) (ci := 7) (v := .int j5_L1) (C := RX7) (T := TX7) (N := 92) (ws' := [(h, .inr (7, oM r (upd (upd i 4 j5_L1) 5 j5_L1) j)), ((r 0), .inl (cI, 1800, .inl f0))]) hx hb hts hinX7 tyX7 tyX7_ok nmX7 hown hK hP hD hS 0 rfl rfl 5 (by decide) w_0 rfl rfl rfl rfl (Nat.le_of_ble_eq_true rfl) rfl dX7_ahead_48 (fun H locs hP hD hS => ?_)
        refine lv_aload_n hx hb dX7_ahead_51 rfl (lv_at hl 0 rfl) ?_
        refine lv_iconst (v := 0) hx hb dX7_ahead_52 (by decide +kernel) ?_
        refine k_put (D := (dC, dI)) (ci := 7) (v := .int 0) (C := RX7) (T := TX7) (N := 92) (ws' := [(h, .inr (7, oM r (upd (upd (upd i 3 0) 4 j5_L1) 5 j5_L1) j)), ((r 0), .inl (cI, 1800, .inl f0))]) hx hb hts hinX7 tyX7 tyX7_ok nmX7 hown hK hP hD hS 0 rfl rfl 3 (by decide) w_3 rfl rfl rfl rfl (Nat.le_of_ble_eq_true rfl) rfl dX7_ahead_53 (fun H locs hP hD hS => ?_)
        refine lv_aload_n hx hb dX7_ahead_56 rfl (lv_at hl 0 rfl) ?_
        refine lv_iconst (v := (-1)) hx hb dX7_ahead_57 (by decide +kernel) ?_
        refine k_put (D := (dC, dI)) (ci := 7) (v := .int (-1)) (C := RX7) (T := TX7) (N := 92) (ws' := [(h, .inr (7, oM r (upd (upd (upd (upd i 3 0) 4 j5_L1) 5 j5_L1) 12 (-1)) j)), ((r 0), .inl (cI, 1800, .inl f0))]) hx hb hts hinX7 tyX7 tyX7_ok nmX7 hown hK hP hD hS 0 rfl rfl 12 (by decide) w_4 rfl rfl rfl rfl (Nat.le_of_ble_eq_true rfl) rfl dX7_ahead_58 (fun H locs hP hD hS => ?_)
        refine lv_iload_n hx hb dX7_ahead_61 rfl (lv_at hl 1 rfl) ?_
        refine lv_aload_n hx hb dX7_ahead_62 rfl (lv_at hl 0 rfl) ?_
        refine k_get (D := (dC, dI)) (ci := 7) (v := .int (i 2)) (C := RX7) (T := TX7) (N := 92) hx hb hts hinX7 hown hK hP 0 rfl rfl 2 (by decide) w_1 rfl rfl dX7_ahead_63 ?_
        refine lv_icmp_lt (tgt := 70) hx hb dX7_ahead_66 (by decide) (fun c_66 => ?_) (fun c_66 => ?_)
        · have c_66 : j5_L1 < (i 2) := c_66
          have f_70_1 : iR j5_L1 0 1599 := iR_ltL c_66 hj5_L1 f_7_1 (by decide +kernel)
          have f_70_2 : iR (i 2) 1 1600 := iR_ltR c_66 hj5_L1 f_7_1 (by decide +kernel)
          refine lv_aload_n hx hb dX7_ahead_70 rfl (lv_at hl 0 rfl) ?_
          refine k_get (D := (dC, dI)) (ci := 7) (v := .ref (r 0)) (C := RX7) (T := TX7) (N := 92) hx hb hts hinX7 hown hK hP 0 rfl rfl 0 (by decide) w_5 rfl rfl dX7_ahead_71 ?_
          refine lv_iload_n hx hb dX7_ahead_74 rfl (lv_at hl 1 rfl) ?_
          refine va_iald hx hb hK hP 1 0 rfl rfl (iR_vp f_70_1 (by decide +kernel)) dX7_ahead_75 ?_
          have f_75_3 : iR (f0 j5_L1.toNatClampNeg) 0 255 := hf0 _
          refine k_ci (wc := []) (wr := [(h, .inr (7, oM r (upd (upd (upd (upd i 3 0) 4 j5_L1) 5 j5_L1) 12 (-1)) j)), ((r 0), .inl (cI, 1800, .inl f0))]) (fun hPc hDc hFc => va_runS (As := [.int (f0 j5_L1.toNatClampNeg)]) (rest := []) ⟨hx, hb, hml, hown, hts⟩ (s_X7_isLetter_v0 l dC dI cI cJ cZ cM (f0 j5_L1.toNatClampNeg) H.size) (va_cwS 1 hts gX7_ahead_X7_isLetter rfl rfl rfl (by decide +kernel) ⟨(Nat.le_of_ble_eq_true rfl), (Nat.le_of_ble_eq_true rfl)⟩) (k_pS hPc hDc hK hN hC hS hFc) rfl rfl hl.1 rfl (lv_room (Nat.le_of_ble_eq_true rfl)) dX7_ahead_76 ⟨(Nat.le_of_ble_eq_true rfl), (Nat.le_of_ble_eq_true rfl)⟩) hP hD hS hA [] [0, 1] rfl rfl rfl rfl (by decide) (fun _ => rfl) 0 0 rfl rfl (fun r_76 u_76 H locs hw hP hD hS => ?_)
          obtain g_76_0 := hw
          have hP : va_P (dC, dI) vwCl [(h, .inr (7, oM r (upd (upd (upd (upd i 3 0) 4 j5_L1) 5 j5_L1) 12 (-1)) j)), ((r 0), .inl (cI, 1800, .inl f0))] H := hP
          have hD : va_D A [(h, .inr (7, oM r (upd (upd (upd (upd i 3 0) 4 j5_L1) 5 j5_L1) 12 (-1)) j)), ((r 0), .inl (cI, 1800, .inl f0))] := hD
          refine lv_istore_n (lv' := [(2, .int r_76), (0, .ref h), (1, .int j5_L1)]) hx hb dX7_ahead_79 rfl hl (by decide) rfl (fun ls hl => ?_)
          refine lv_aload_n hx hb dX7_ahead_80 rfl (lv_at hl 1 rfl) ?_
          refine k_get (D := (dC, dI)) (ci := 7) (v := .ref (r 0)) (C := RX7) (T := TX7) (N := 92) hx hb hts hinX7 hown hK hP 0 rfl rfl 0 (by decide) w_5 rfl rfl dX7_ahead_81 ?_
          refine lv_iload_n hx hb dX7_ahead_84 rfl (lv_at hl 2 rfl) ?_
          refine va_iald hx hb hK hP 1 0 rfl rfl (iR_vp f_70_1 (by decide +kernel)) dX7_ahead_85 ?_
          refine k_ci (wc := []) (wr := [(h, .inr (7, oM r (upd (upd (upd (upd i 3 0) 4 j5_L1) 5 j5_L1) 12 (-1)) j)), ((r 0), .inl (cI, 1800, .inl f0))]) (fun hPc hDc hFc => va_runS (As := [.int (f0 j5_L1.toNatClampNeg)]) (rest := []) ⟨hx, hb, hml, hown, hts⟩ (s_X7_isDigit_v0 l dC dI cI cJ cZ cM (f0 j5_L1.toNatClampNeg) H.size) (va_cwS 1 hts gX7_ahead_X7_isDigit rfl rfl rfl (by decide +kernel) ⟨(Nat.le_of_ble_eq_true rfl), (Nat.le_of_ble_eq_true rfl)⟩) (k_pS hPc hDc hK hN hC hS hFc) rfl rfl hl.1 rfl (lv_room (Nat.le_of_ble_eq_true rfl)) dX7_ahead_86 ⟨(Nat.le_of_ble_eq_true rfl), (Nat.le_of_ble_eq_true rfl)⟩) hP hD hS hA [] [0, 1] rfl rfl rfl rfl (by decide) (fun _ => rfl) 0 0 rfl rfl (fun r_86 u_86 H locs hw hP hD hS => ?_)
          obtain g_86_0 := hw
          have hP : va_P (dC, dI) vwCl [(h, .inr (7, oM r (upd (upd (upd (upd i 3 0) 4 j5_L1) 5 j5_L1) 12 (-1)) j)), ((r 0), .inl (cI, 1800, .inl f0))] H := hP
          have hD : va_D A [(h, .inr (7, oM r (upd (upd (upd (upd i 3 0) 4 j5_L1) 5 j5_L1) 12 (-1)) j)), ((r 0), .inl (cI, 1800, .inl f0))] := hD
          refine lv_istore_n (lv' := [(3, .int r_86), (2, .int r_76), (0, .ref h), (1, .int j5_L1)]) hx hb dX7_ahead_89 rfl hl (by decide) rfl (fun ls hl => ?_)
          refine lv_iload_n hx hb dX7_ahead_90 rfl (lv_at hl 1 rfl) ?_
          have J_135 : ∀ (j135_M0_12 : Int32) (hj135_M0_12 : iR j135_M0_12 (-1) 1599) (H : Heap) (locs : List Loc) (ls : Array Slot), va_P (dC, dI) vwCl [(h, .inr (7, oM r (upd (upd (upd (upd i 3 0) 4 j5_L1) 5 j5_L1) 12 j135_M0_12) j)), ((r 0), .inl (cI, 1800, .inl f0))] H → va_D A [(h, .inr (7, oM r (upd (upd (upd (upd i 3 0) 4 j5_L1) 5 j5_L1) 12 j135_M0_12) j)), ((r 0), .inl (cI, 1800, .inl f0))] → va_S A s.heap H locs → lv_has ls 6 [(0, .ref h), (1, .int j5_L1), (2, .int r_76), (3, .int r_86)] → W p l e ({ frames := 2, cells := 0, slots := 0, locals := 62 }) s m args below meth c H locs 0 0 (MQ below (va_Qv (fun (u9 : SU) => (iR (u9.1 0) 0 3) ∧ (iR (u9.1 1) 0 1600) ∧ (iR (u9.1 2) 0 1600) ∧ (iR (u9.1 4) (-1) 1599)) (fun u => k_B (dC, dI) vwCl (tyy cI cJ cZ cM) A ((fun (u9 : SU) => [(h, .inr (7, oM r (upd (upd (upd (upd (upd i 3 (u9.1 0)) 4 (u9.1 1)) 5 (u9.1 2)) 6 (u9.1 3)) 12 (u9.1 4)) (vp_updL j 7 (u9.2.1 0)))), ((r 0), .inl (cI, 1800, .inl f0))]) u)) A) args s 0 0 A) (F0 m 135 ls []) := by
            intro j135_M0_12 hj135_M0_12 H locs ls hP hD hS hl
            refine lv_aload_n hx hb dX7_ahead_135 rfl (lv_at hl 0 rfl) ?_
            refine lv_iconst (v := 0) hx hb dX7_ahead_136 (by decide +kernel) ?_
            refine k_put (D := (dC, dI)) (ci := 7) (v := .int 0) (C := RX7) (T := TX7) (N := 92) (ws' := [(h, .inr (7, oM r (upd (upd (upd (upd (upd i 3 0) 4 j5_L1) 5 j5_L1) 6 0) 12 j135_M0_12) j)), ((r 0), .inl (cI, 1800, .inl f0))]) hx hb hts hinX7 tyX7 tyX7_ok nmX7 hown hK hP hD hS 0 rfl rfl 6 (by decide) w_6 rfl rfl rfl rfl (Nat.le_of_ble_eq_true rfl) rfl dX7_ahead_137 (fun H locs hP hD hS => ?_)
            refine lv_aload_n hx hb dX7_ahead_140 rfl (lv_at hl 0 rfl) ?_
            refine lv_lconst (v := 0) hx hb dX7_ahead_141 (by decide +kernel) ?_
            refine k_put (D := (dC, dI)) (ci := 7) (v := .long 0) (C := RX7) (T := TX7) (N := 92) (ws' := [(h, .inr (7, oM r (upd (upd (upd (upd (upd i 3 0) 4 j5_L1) 5 j5_L1) 6 0) 12 j135_M0_12) (vp_updL j 7 0))), ((r 0), .inl (cI, 1800, .inl f0))]) hx hb hts hinX7 tyX7 tyX7_ok nmX7 hown hK hP hD hS 0 rfl rfl 7 (by decide) w_7 rfl rfl rfl rfl (Nat.le_of_ble_eq_true rfl) rfl dX7_ahead_142 (fun H locs hP hD hS => ?_)
            refine lv_aload_n hx hb dX7_ahead_145 rfl (lv_at hl 0 rfl) ?_
            refine lv_iconst (v := 3) hx hb dX7_ahead_146 (by decide +kernel) ?_
            refine k_put (D := (dC, dI)) (ci := 7) (v := .int 3) (C := RX7) (T := TX7) (N := 92) (ws' := [(h, .inr (7, oM r (upd (upd (upd (upd (upd i 3 3) 4 j5_L1) 5 j5_L1) 6 0) 12 j135_M0_12) (vp_updL j 7 0))), ((r 0), .inl (cI, 1800, .inl f0))]) hx hb hts hinX7 tyX7 tyX7_ok nmX7 hown hK hP hD hS 0 rfl rfl 3 (by decide) w_3 rfl rfl rfl rfl (Nat.le_of_ble_eq_true rfl) rfl dX7_ahead_147 (fun H locs hP hD hS => ?_)
            refine lv_aload_n hx hb dX7_ahead_150 rfl (lv_at hl 0 rfl) ?_
            refine lv_iload_n hx hb dX7_ahead_151 rfl (lv_at hl 1 rfl) ?_
            refine lv_iconst (v := 1) hx hb dX7_ahead_152 (by decide +kernel) ?_
            refine lv_iadd hx hb dX7_ahead_153 ?_
            refine lv_topi (fun y_153 ey_153 => ?_)
            have f_153_1 : iR y_153 1 1600 := iR_add ey_153 f_70_1 (iR_c (n := 1) (by decide +kernel) (by decide +kernel)) (by decide +kernel)
            refine k_put (D := (dC, dI)) (ci := 7) (v := .int y_153) (C := RX7) (T := TX7) (N := 92) (ws' := [(h, .inr (7, oM r (upd (upd (upd (upd (upd i 3 3) 4 j5_L1) 5 y_153) 6 0) 12 j135_M0_12) (vp_updL j 7 0))), ((r 0), .inl (cI, 1800, .inl f0))]) hx hb hts hinX7 tyX7 tyX7_ok nmX7 hown hK hP hD hS 0 rfl rfl 5 (by decide) w_0 rfl rfl rfl rfl (Nat.le_of_ble_eq_true rfl) rfl dX7_ahead_154 (fun H locs hP hD hS => ?_)
            refine lv_iload_n hx hb dX7_ahead_157 rfl (lv_at hl 2 rfl) ?_
            have J_176 : ∀   (H : Heap) (locs : List Loc) (ls : Array Slot), va_P (dC, dI) vwCl [(h, .inr (7, oM r (upd (upd (upd (upd (upd i 3 3) 4 j5_L1) 5 y_153) 6 0) 12 j135_M0_12) (vp_updL j 7 0))), ((r 0), .inl (cI, 1800, .inl f0))] H → va_D A [(h, .inr (7, oM r (upd (upd (upd (upd (upd i 3 3) 4 j5_L1) 5 y_153) 6 0) 12 j135_M0_12) (vp_updL j 7 0))), ((r 0), .inl (cI, 1800, .inl f0))] → va_S A s.heap H locs → lv_has ls 6 [(0, .ref h), (1, .int j5_L1), (2, .int r_76), (3, .int r_86)] → W p l e ({ frames := 2, cells := 0, slots := 0, locals := 62 }) s m args below meth c H locs 0 0 (MQ below (va_Qv (fun (u9 : SU) => (iR (u9.1 0) 0 3) ∧ (iR (u9.1 1) 0 1600) ∧ (iR (u9.1 2) 0 1600) ∧ (iR (u9.1 4) (-1) 1599)) (fun u => k_B (dC, dI) vwCl (tyy cI cJ cZ cM) A ((fun (u9 : SU) => [(h, .inr (7, oM r (upd (upd (upd (upd (upd i 3 (u9.1 0)) 4 (u9.1 1)) 5 (u9.1 2)) 6 (u9.1 3)) 12 (u9.1 4)) (vp_updL j 7 (u9.2.1 0)))), ((r 0), .inl (cI, 1800, .inl f0))]) u)) A) args s 0 0 A) (F0 m 176 ls []) := by
              intro   H locs ls hP hD hS hl
              refine lv_aload_n hx hb dX7_ahead_176 rfl (lv_at hl 0 rfl) ?_
              refine lv_iload_n hx hb dX7_ahead_177 rfl (lv_at hl 2 rfl) ?_
              have J_186 : ∀ (j186_S0 : Int32) (hj186_S0 : iR j186_S0 1 2) (H : Heap) (locs : List Loc) (ls : Array Slot), va_P (dC, dI) vwCl [(h, .inr (7, oM r (upd (upd (upd (upd (upd i 3 3) 4 j5_L1) 5 y_153) 6 0) 12 j135_M0_12) (vp_updL j 7 0))), ((r 0), .inl (cI, 1800, .inl f0))] H → va_D A [(h, .inr (7, oM r (upd (upd (upd (upd (upd i 3 3) 4 j5_L1) 5 y_153) 6 0) 12 j135_M0_12) (vp_updL j 7 0))), ((r 0), .inl (cI, 1800, .inl f0))] → va_S A s.heap H locs → lv_has ls 6 [(0, .ref h), (1, .int j5_L1), (2, .int r_76), (3, .int r_86)] → W p l e ({ frames := 2, cells := 0, slots := 0, locals := 62 }) s m args below meth c H locs 0 0 (MQ below (va_Qv (fun (u9 : SU) => (iR (u9.1 0) 0 3) ∧ (iR (u9.1 1) 0 1600) ∧ (iR (u9.1 2) 0 1600) ∧ (iR (u9.1 4) (-1) 1599)) (fun u => k_B (dC, dI) vwCl (tyy cI cJ cZ cM) A ((fun (u9 : SU) => [(h, .inr (7, oM r (upd (upd (upd (upd (upd i 3 (u9.1 0)) 4 (u9.1 1)) 5 (u9.1 2)) 6 (u9.1 3)) 12 (u9.1 4)) (vp_updL j 7 (u9.2.1 0)))), ((r 0), .inl (cI, 1800, .inl f0))]) u)) A) args s 0 0 A) (F0 m 186 ls [.int j186_S0, .ref h]) := by
                intro j186_S0 hj186_S0 H locs ls hP hD hS hl
                refine k_put (D := (dC, dI)) (ci := 7) (v := .int j186_S0) (C := RX7) (T := TX7) (N := 92) (ws' := [(h, .inr (7, oM r (upd (upd (upd (upd (upd i 3 j186_S0) 4 j5_L1) 5 y_153) 6 0) 12 j135_M0_12) (vp_updL j 7 0))), ((r 0), .inl (cI, 1800, .inl f0))]) hx hb hts hinX7 tyX7 tyX7_ok nmX7 hown hK hP hD hS 0 rfl rfl 3 (by decide) w_3 rfl rfl rfl rfl (Nat.le_of_ble_eq_true rfl) rfl dX7_ahead_186 (fun H locs hP hD hS => ?_)
                refine lv_iload_n hx hb dX7_ahead_189 rfl (lv_at hl 2 rfl) ?_
                have J_199 : ∀ (j199_S0 : Int32) (hj199_S0 : iR j199_S0 4 6) (H : Heap) (locs : List Loc) (ls : Array Slot), va_P (dC, dI) vwCl [(h, .inr (7, oM r (upd (upd (upd (upd (upd i 3 j186_S0) 4 j5_L1) 5 y_153) 6 0) 12 j135_M0_12) (vp_updL j 7 0))), ((r 0), .inl (cI, 1800, .inl f0))] H → va_D A [(h, .inr (7, oM r (upd (upd (upd (upd (upd i 3 j186_S0) 4 j5_L1) 5 y_153) 6 0) 12 j135_M0_12) (vp_updL j 7 0))), ((r 0), .inl (cI, 1800, .inl f0))] → va_S A s.heap H locs → lv_has ls 6 [(0, .ref h), (1, .int j5_L1), (2, .int r_76), (3, .int r_86)] → W p l e ({ frames := 2, cells := 0, slots := 0, locals := 62 }) s m args below meth c H locs 0 0 (MQ below (va_Qv (fun (u9 : SU) => (iR (u9.1 0) 0 3) ∧ (iR (u9.1 1) 0 1600) ∧ (iR (u9.1 2) 0 1600) ∧ (iR (u9.1 4) (-1) 1599)) (fun u => k_B (dC, dI) vwCl (tyy cI cJ cZ cM) A ((fun (u9 : SU) => [(h, .inr (7, oM r (upd (upd (upd (upd (upd i 3 (u9.1 0)) 4 (u9.1 1)) 5 (u9.1 2)) 6 (u9.1 3)) 12 (u9.1 4)) (vp_updL j 7 (u9.2.1 0)))), ((r 0), .inl (cI, 1800, .inl f0))]) u)) A) args s 0 0 A) (F0 m 199 ls [.int j199_S0]) := by
                  intro j199_S0 hj199_S0 H locs ls hP hD hS hl
                  refine lv_istore (lv' := [(4, .int j199_S0), (0, .ref h), (1, .int j5_L1), (2, .int r_76), (3, .int r_86)]) hx hb dX7_ahead_199 hl (by decide) rfl (fun ls hl => ?_)
                  refine lv_iconst (v := 0) hx hb dX7_ahead_201 (by decide +kernel) ?_
                  have J_204 : ∀ (n_204 : Nat) (j204_L1 : Int32) (j204_L5 : Int32) (j204_M0_6 : Int32) (j204_M0_7 : Int64) (j204_M0_12 : Int32) (hj204_L1 : iR j204_L1 0 1600) (hj204_M0_12 : iR j204_M0_12 (-1) 1599) (hm_204 : (1600 - j204_L1.toInt).toNat < n_204) (H : Heap) (locs : List Loc) (ls : Array Slot), va_P (dC, dI) vwCl [(h, .inr (7, oM r (upd (upd (upd (upd (upd i 3 j186_S0) 4 j5_L1) 5 y_153) 6 j204_M0_6) 12 j204_M0_12) (vp_updL j 7 j204_M0_7))), ((r 0), .inl (cI, 1800, .inl f0))] H → va_D A [(h, .inr (7, oM r (upd (upd (upd (upd (upd i 3 j186_S0) 4 j5_L1) 5 y_153) 6 j204_M0_6) 12 j204_M0_12) (vp_updL j 7 j204_M0_7))), ((r 0), .inl (cI, 1800, .inl f0))] → va_S A s.heap H locs → lv_has ls 6 [(0, .ref h), (1, .int j204_L1), (2, .int r_76), (3, .int r_86), (4, .int j199_S0), (5, .int j204_L5)] → W p l e ({ frames := 2, cells := 0, slots := 0, locals := 62 }) s m args below meth c H locs 0 0 (MQ below (va_Qv (fun (u9 : SU) => (iR (u9.1 0) 0 3) ∧ (iR (u9.1 1) 0 1600) ∧ (iR (u9.1 2) 0 1600) ∧ (iR (u9.1 4) (-1) 1599)) (fun u => k_B (dC, dI) vwCl (tyy cI cJ cZ cM) A ((fun (u9 : SU) => [(h, .inr (7, oM r (upd (upd (upd (upd (upd i 3 (u9.1 0)) 4 (u9.1 1)) 5 (u9.1 2)) 6 (u9.1 3)) 12 (u9.1 4)) (vp_updL j 7 (u9.2.1 0)))), ((r 0), .inl (cI, 1800, .inl f0))]) u)) A) args s 0 0 A) (F0 m 204 ls []) := by
                    intro n_204
                    induction n_204 with
                    | zero => intro j204_L1 j204_L5 j204_M0_6 j204_M0_7 j204_M0_12 hj204_L1 hj204_M0_12 hm_204; exact absurd hm_204 (Nat.not_lt_zero _)
                    | succ n_204 ih_204 =>
                      intro j204_L1 j204_L5 j204_M0_6 j204_M0_7 j204_M0_12 hj204_L1 hj204_M0_12 hm_204 H locs ls hP hD hS hl
                      refine lv_iload_n hx hb dX7_ahead_204 rfl (lv_at hl 1 rfl) ?_
                      refine lv_aload_n hx hb dX7_ahead_205 rfl (lv_at hl 0 rfl) ?_
                      refine k_get (D := (dC, dI)) (ci := 7) (v := .int (i 2)) (C := RX7) (T := TX7) (N := 92) hx hb hts hinX7 hown hK hP 0 rfl rfl 2 (by decide) w_1 rfl rfl dX7_ahead_206 ?_
                      have J_334 : ∀   (H : Heap) (locs : List Loc) (ls : Array Slot), va_P (dC, dI) vwCl [(h, .inr (7, oM r (upd (upd (upd (upd (upd i 3 j186_S0) 4 j5_L1) 5 y_153) 6 j204_M0_6) 12 j204_M0_12) (vp_updL j 7 j204_M0_7))), ((r 0), .inl (cI, 1800, .inl f0))] H → va_D A [(h, .inr (7, oM r (upd (upd (upd (upd (upd i 3 j186_S0) 4 j5_L1) 5 y_153) 6 j204_M0_6) 12 j204_M0_12) (vp_updL j 7 j204_M0_7))), ((r 0), .inl (cI, 1800, .inl f0))] → va_S A s.heap H locs → lv_has ls 6 [(0, .ref h), (1, .int j204_L1), (2, .int r_76), (4, .int j199_S0), (5, .int j204_L5)] → W p l e ({ frames := 2, cells := 0, slots := 0, locals := 62 }) s m args below meth c H locs 0 0 (MQ below (va_Qv (fun (u9 : SU) => (iR (u9.1 0) 0 3) ∧ (iR (u9.1 1) 0 1600) ∧ (iR (u9.1 2) 0 1600) ∧ (iR (u9.1 4) (-1) 1599)) (fun u => k_B (dC, dI) vwCl (tyy cI cJ cZ cM) A ((fun (u9 : SU) => [(h, .inr (7, oM r (upd (upd (upd (upd (upd i 3 (u9.1 0)) 4 (u9.1 1)) 5 (u9.1 2)) 6 (u9.1 3)) 12 (u9.1 4)) (vp_updL j 7 (u9.2.1 0)))), ((r 0), .inl (cI, 1800, .inl f0))]) u)) A) args s 0 0 A) (F0 m 334 ls []) := by
                        intro   H locs ls hP hD hS hl
                        refine lv_aload_n hx hb dX7_ahead_334 rfl (lv_at hl 0 rfl) ?_
                        refine lv_iload_n hx hb dX7_ahead_335 rfl (lv_at hl 1 rfl) ?_
                        refine k_put (D := (dC, dI)) (ci := 7) (v := .int j204_L1) (C := RX7) (T := TX7) (N := 92) (ws' := [(h, .inr (7, oM r (upd (upd (upd (upd (upd i 3 j186_S0) 4 j5_L1) 5 j204_L1) 6 j204_M0_6) 12 j204_M0_12) (vp_updL j 7 j204_M0_7))), ((r 0), .inl (cI, 1800, .inl f0))]) hx hb hts hinX7 tyX7 tyX7_ok nmX7 hown hK hP hD hS 0 rfl rfl 5 (by decide) w_0 rfl rfl rfl rfl (Nat.le_of_ble_eq_true rfl) rfl dX7_ahead_336 (fun H locs hP hD hS => ?_)
                        refine lv_iload_n hx hb dX7_ahead_339 rfl (lv_at hl 2 rfl) ?_
                        have J_380 : ∀ (j380_M0_12 : Int32) (hj380_M0_12 : iR j380_M0_12 (-1) 1599) (H : Heap) (locs : List Loc) (ls : Array Slot), va_P (dC, dI) vwCl [(h, .inr (7, oM r (upd (upd (upd (upd (upd i 3 j186_S0) 4 j5_L1) 5 j204_L1) 6 j204_M0_6) 12 j380_M0_12) (vp_updL j 7 j204_M0_7))), ((r 0), .inl (cI, 1800, .inl f0))] H → va_D A [(h, .inr (7, oM r (upd (upd (upd (upd (upd i 3 j186_S0) 4 j5_L1) 5 j204_L1) 6 j204_M0_6) 12 j380_M0_12) (vp_updL j 7 j204_M0_7))), ((r 0), .inl (cI, 1800, .inl f0))] → va_S A s.heap H locs → lv_has ls 6 [] → W p l e ({ frames := 2, cells := 0, slots := 0, locals := 62 }) s m args below meth c H locs 0 0 (MQ below (va_Qv (fun (u9 : SU) => (iR (u9.1 0) 0 3) ∧ (iR (u9.1 1) 0 1600) ∧ (iR (u9.1 2) 0 1600) ∧ (iR (u9.1 4) (-1) 1599)) (fun u => k_B (dC, dI) vwCl (tyy cI cJ cZ cM) A ((fun (u9 : SU) => [(h, .inr (7, oM r (upd (upd (upd (upd (upd i 3 (u9.1 0)) 4 (u9.1 1)) 5 (u9.1 2)) 6 (u9.1 3)) 12 (u9.1 4)) (vp_updL j 7 (u9.2.1 0)))), ((r 0), .inl (cI, 1800, .inl f0))]) u)) A) args s 0 0 A) (F0 m 380 ls []) := by
                          intro j380_M0_12 hj380_M0_12 H locs ls hP hD hS hl
                          exact k_rv B hP hD hS dX7_ahead_380 ((fun k9 => match k9 with | 0 => j186_S0 | 1 => j5_L1 | 2 => j204_L1 | 3 => j204_M0_6 | 4 => j380_M0_12 | _ => 0), (fun k9 => match k9 with | 0 => j204_M0_7 | _ => 0), (fun _ => (fun _ => 0)), (fun _ => (fun _ => 0)), (fun _ => 0)) [0, 1] rfl rfl (Nat.le_of_ble_eq_true rfl) (Nat.le_of_ble_eq_true rfl) ⟨(iR_w hj186_S0 (by decide +kernel)), (iR_w f_70_1 (by decide +kernel)), hj204_L1, hj380_M0_12⟩
                        refine lv_if_eq (tgt := 380) hx hb dX7_ahead_340 (by decide) (fun c_340 => ?_) (fun c_340 => ?_)
                        · have c_340 : r_76 = 0 := c_340
                          have f_380_1 : iR r_76 0 0 := iR_eqL c_340 g_76_0 (iR_c (n := 0) (by decide +kernel) (by decide +kernel)) (by decide +kernel)
                          exact J_380 j204_M0_12 hj204_M0_12 H locs ls hP hD hS (lv_sub hl [] rfl)
                        · have c_340 : ¬ r_76 = 0 := c_340
                          have f_343_1 : iR r_76 1 1 := iR_neL c_340 g_76_0 (iR_c (n := 0) (by decide +kernel) (by decide +kernel)) (by decide +kernel)
                          refine lv_iload hx hb dX7_ahead_343 (lv_at hl 4 rfl) ?_
                          refine lv_bipush (v := 8) hx hb dX7_ahead_345 (by decide +kernel) ?_
                          refine lv_icmp_gt (tgt := 380) hx hb dX7_ahead_347 (by decide) (fun c_347 => ?_) (fun c_347 => ?_)
                          · have c_347 : 8 < j204_L5 := c_347
                            have f_380_2 : iR j204_L5 9 2147483647 := iR_ltR c_347 (iR_c (n := 8) (by decide +kernel) (by decide +kernel)) (iR_top _) (by decide +kernel)
                            exact J_380 j204_M0_12 hj204_M0_12 H locs ls hP hD hS (lv_sub hl [] rfl)
                          · have c_347 : j204_L5 ≤ 8 := i_nlt c_347
                            have f_350_2 : iR j204_L5 (-2147483648) 8 := iR_leL c_347 (iR_top _) (iR_c (n := 8) (by decide +kernel) (by decide +kernel)) (by decide +kernel)
                            refine lv_aload_n hx hb dX7_ahead_350 rfl (lv_at hl 0 rfl) ?_
                            refine k_get (D := (dC, dI)) (ci := 7) (v := .int j204_M0_12) (C := RX7) (T := TX7) (N := 92) hx hb hts hinX7 hown hK hP 0 rfl rfl 12 (by decide) w_4 rfl rfl dX7_ahead_351 ?_
                            refine lv_aload_n hx hb dX7_ahead_354 rfl (lv_at hl 0 rfl) ?_
                            refine k_get (D := (dC, dI)) (ci := 7) (v := .int j5_L1) (C := RX7) (T := TX7) (N := 92) hx hb hts hinX7 hown hK hP 0 rfl rfl 4 (by decide) w_2 rfl rfl dX7_ahead_355 ?_
                            refine lv_iload hx hb dX7_ahead_358 (lv_at hl 3 rfl) ?_
                            refine lv_iadd hx hb dX7_ahead_360 ?_
                            refine lv_topi (fun y_360 ey_360 => ?_)
                            have f_360_3 : iR y_360 4 1605 := iR_add ey_360 f_70_1 hj199_S0 (by decide +kernel)
                            refine lv_icmp_ne (tgt := 380) hx hb dX7_ahead_361 (by decide) (fun c_361 => ?_) (fun c_361 => ?_)
                            · have c_361 : ¬ j204_M0_12 = y_360 := c_361
                              exact J_380 j204_M0_12 hj204_M0_12 H locs ls hP hD hS (lv_sub hl [] rfl)
                            · have c_361 : j204_M0_12 = y_360 := c_361
                              have f_364_4 : iR j204_M0_12 4 1599 := iR_eqL c_361 hj204_M0_12 f_360_3 (by decide +kernel)
                              have f_364_5 : iR y_360 4 1599 := iR_eqR c_361 hj204_M0_12 f_360_3 (by decide +kernel)
                              refine lv_aload_n hx hb dX7_ahead_364 rfl (lv_at hl 0 rfl) ?_
                              refine lv_aload_n hx hb dX7_ahead_365 rfl (lv_at hl 0 rfl) ?_
                              refine k_get (D := (dC, dI)) (ci := 7) (v := .long j204_M0_7) (C := RX7) (T := TX7) (N := 92) hx hb hts hinX7 hown hK hP 0 rfl rfl 7 (by decide) w_7 rfl rfl dX7_ahead_366 ?_
                              refine k_ci (wc := []) (wr := [(h, .inr (7, oM r (upd (upd (upd (upd (upd i 3 j186_S0) 4 j5_L1) 5 j204_L1) 6 j204_M0_6) 12 j204_M0_12) (vp_updL j 7 j204_M0_7))), ((r 0), .inl (cI, 1800, .inl f0))]) (fun hPc hDc hFc => va_runV (As := [.long j204_M0_7]) (rest := []) ⟨hx, hb, hml, hown, hts⟩ (s_X7_isOwn_v1 l dC dI cI cJ cZ cM h j204_M0_7 H.size) (cwV 1 hts gX7_ahead_X7_isOwn rfl rfl rfl (by decide +kernel) ⟨(Nat.le_of_ble_eq_true rfl), (Nat.le_of_ble_eq_true rfl)⟩) (k_pV hPc hDc hK hN hC hS hFc hP (q0 := 0) (ci := 7) rfl rfl) rfl rfl hl.1 rfl (lv_room (Nat.le_of_ble_eq_true rfl)) dX7_ahead_369 ⟨(Nat.le_of_ble_eq_true rfl), (Nat.le_of_ble_eq_true rfl)⟩) hP hD hS hA [] [0, 1] rfl rfl rfl rfl (by decide) (fun _ => rfl) 0 0 rfl rfl (fun r_369 u_369 H locs hw hP hD hS => ?_)
                              obtain g_369_0 := hw
                              have hP : va_P (dC, dI) vwCl [(h, .inr (7, oM r (upd (upd (upd (upd (upd i 3 j186_S0) 4 j5_L1) 5 j204_L1) 6 j204_M0_6) 12 j204_M0_12) (vp_updL j 7 j204_M0_7))), ((r 0), .inl (cI, 1800, .inl f0))] H := hP
                              have hD : va_D A [(h, .inr (7, oM r (upd (upd (upd (upd (upd i 3 j186_S0) 4 j5_L1) 5 j204_L1) 6 j204_M0_6) 12 j204_M0_12) (vp_updL j 7 j204_M0_7))), ((r 0), .inl (cI, 1800, .inl f0))] := hD
                              refine lv_if_eq (tgt := 380) hx hb dX7_ahead_372 (by decide) (fun c_372 => ?_) (fun c_372 => ?_)
                              · have c_372 : r_369 = 0 := c_372
                                have f_380_6 : iR r_369 0 0 := iR_eqL c_372 g_369_0 (iR_c (n := 0) (by decide +kernel) (by decide +kernel)) (by decide +kernel)
                                exact J_380 j204_M0_12 (iR_w f_364_4 (by decide +kernel)) H locs ls hP hD hS (lv_sub hl [] rfl)
                              · have c_372 : ¬ r_369 = 0 := c_372
                                have f_375_6 : iR r_369 1 1 := iR_neL c_372 g_369_0 (iR_c (n := 0) (by decide +kernel) (by decide +kernel)) (by decide +kernel)
                                refine lv_aload_n hx hb dX7_ahead_375 rfl (lv_at hl 0 rfl) ?_
                                refine lv_iconst (v := (-1)) hx hb dX7_ahead_376 (by decide +kernel) ?_
                                refine k_put (D := (dC, dI)) (ci := 7) (v := .int (-1)) (C := RX7) (T := TX7) (N := 92) (ws' := [(h, .inr (7, oM r (upd (upd (upd (upd (upd i 3 j186_S0) 4 j5_L1) 5 j204_L1) 6 j204_M0_6) 12 (-1)) (vp_updL j 7 j204_M0_7))), ((r 0), .inl (cI, 1800, .inl f0))]) hx hb hts hinX7 tyX7 tyX7_ok nmX7 hown hK hP hD hS 0 rfl rfl 12 (by decide) w_4 rfl rfl rfl rfl (Nat.le_of_ble_eq_true rfl) rfl dX7_ahead_377 (fun H locs hP hD hS => ?_)
                                exact J_380 (-1) (iR_c (n := (-1)) (by decide +kernel) (by decide +kernel)) H locs ls hP hD hS (lv_sub hl [] rfl)
                      refine lv_icmp_ge (tgt := 334) hx hb dX7_ahead_209 (by decide) (fun c_209 => ?_) (fun c_209 => ?_)
                      · have c_209 : (i 2) ≤ j204_L1 := c_209
                        have f_334_1 : iR j204_L1 1 1600 := iR_leR c_209 f_70_2 hj204_L1 (by decide +kernel)
                        exact J_334   H locs ls hP hD hS (lv_sub hl [0, 1, 2, 4, 5] rfl)
                      · have c_209 : j204_L1 < (i 2) := i_nle c_209
                        have f_212_1 : iR j204_L1 0 1599 := iR_ltL c_209 hj204_L1 f_70_2 (by decide +kernel)
                        refine lv_iload_n hx hb dX7_ahead_212 rfl (lv_at hl 2 rfl) ?_
                        have J_243 : ∀  (k243_0 : iR (f0 j204_L1.toNatClampNeg) 0 255) (H : Heap) (locs : List Loc) (ls : Array Slot), va_P (dC, dI) vwCl [(h, .inr (7, oM r (upd (upd (upd (upd (upd i 3 j186_S0) 4 j5_L1) 5 y_153) 6 j204_M0_6) 12 j204_M0_12) (vp_updL j 7 j204_M0_7))), ((r 0), .inl (cI, 1800, .inl f0))] H → va_D A [(h, .inr (7, oM r (upd (upd (upd (upd (upd i 3 j186_S0) 4 j5_L1) 5 y_153) 6 j204_M0_6) 12 j204_M0_12) (vp_updL j 7 j204_M0_7))), ((r 0), .inl (cI, 1800, .inl f0))] → va_S A s.heap H locs → lv_has ls 6 [(0, .ref h), (1, .int j204_L1), (2, .int r_76), (3, .int r_86), (4, .int j199_S0), (5, .int j204_L5)] → W p l e ({ frames := 2, cells := 0, slots := 0, locals := 62 }) s m args below meth c H locs 0 0 (MQ below (va_Qv (fun (u9 : SU) => (iR (u9.1 0) 0 3) ∧ (iR (u9.1 1) 0 1600) ∧ (iR (u9.1 2) 0 1600) ∧ (iR (u9.1 4) (-1) 1599)) (fun u => k_B (dC, dI) vwCl (tyy cI cJ cZ cM) A ((fun (u9 : SU) => [(h, .inr (7, oM r (upd (upd (upd (upd (upd i 3 (u9.1 0)) 4 (u9.1 1)) 5 (u9.1 2)) 6 (u9.1 3)) 12 (u9.1 4)) (vp_updL j 7 (u9.2.1 0)))), ((r 0), .inl (cI, 1800, .inl f0))]) u)) A) args s 0 0 A) (F0 m 243 ls []) := by
                          intro  k243_0 H locs ls hP hD hS hl
                          refine lv_iload hx hb dX7_ahead_243 (lv_at hl 5 rfl) ?_
                          refine lv_iload hx hb dX7_ahead_245 (lv_at hl 4 rfl) ?_
                          have J_263 : ∀ (j263_M0_12 : Int32) (hj263_M0_12 : iR j263_M0_12 (-1) 1599) (H : Heap) (locs : List Loc) (ls : Array Slot), va_P (dC, dI) vwCl [(h, .inr (7, oM r (upd (upd (upd (upd (upd i 3 j186_S0) 4 j5_L1) 5 y_153) 6 j204_M0_6) 12 j263_M0_12) (vp_updL j 7 j204_M0_7))), ((r 0), .inl (cI, 1800, .inl f0))] H → va_D A [(h, .inr (7, oM r (upd (upd (upd (upd (upd i 3 j186_S0) 4 j5_L1) 5 y_153) 6 j204_M0_6) 12 j263_M0_12) (vp_updL j 7 j204_M0_7))), ((r 0), .inl (cI, 1800, .inl f0))] → va_S A s.heap H locs → lv_has ls 6 [(0, .ref h), (1, .int j204_L1), (2, .int r_76), (3, .int r_86), (4, .int j199_S0), (5, .int j204_L5)] → W p l e ({ frames := 2, cells := 0, slots := 0, locals := 62 }) s m args below meth c H locs 0 0 (MQ below (va_Qv (fun (u9 : SU) => (iR (u9.1 0) 0 3) ∧ (iR (u9.1 1) 0 1600) ∧ (iR (u9.1 2) 0 1600) ∧ (iR (u9.1 4) (-1) 1599)) (fun u => k_B (dC, dI) vwCl (tyy cI cJ cZ cM) A ((fun (u9 : SU) => [(h, .inr (7, oM r (upd (upd (upd (upd (upd i 3 (u9.1 0)) 4 (u9.1 1)) 5 (u9.1 2)) 6 (u9.1 3)) 12 (u9.1 4)) (vp_updL j 7 (u9.2.1 0)))), ((r 0), .inl (cI, 1800, .inl f0))]) u)) A) args s 0 0 A) (F0 m 263 ls []) := by
                            intro j263_M0_12 hj263_M0_12 H locs ls hP hD hS hl
                            refine lv_iload hx hb dX7_ahead_263 (lv_at hl 5 rfl) ?_
                            refine lv_bipush (v := 8) hx hb dX7_ahead_265 (by decide +kernel) ?_
                            have J_293 : ∀ (j293_M0_7 : Int64)  (H : Heap) (locs : List Loc) (ls : Array Slot), va_P (dC, dI) vwCl [(h, .inr (7, oM r (upd (upd (upd (upd (upd i 3 j186_S0) 4 j5_L1) 5 y_153) 6 j204_M0_6) 12 j263_M0_12) (vp_updL j 7 j293_M0_7))), ((r 0), .inl (cI, 1800, .inl f0))] H → va_D A [(h, .inr (7, oM r (upd (upd (upd (upd (upd i 3 j186_S0) 4 j5_L1) 5 y_153) 6 j204_M0_6) 12 j263_M0_12) (vp_updL j 7 j293_M0_7))), ((r 0), .inl (cI, 1800, .inl f0))] → va_S A s.heap H locs → lv_has ls 6 [(0, .ref h), (1, .int j204_L1), (2, .int r_76), (3, .int r_86), (4, .int j199_S0), (5, .int j204_L5)] → W p l e ({ frames := 2, cells := 0, slots := 0, locals := 62 }) s m args below meth c H locs 0 0 (MQ below (va_Qv (fun (u9 : SU) => (iR (u9.1 0) 0 3) ∧ (iR (u9.1 1) 0 1600) ∧ (iR (u9.1 2) 0 1600) ∧ (iR (u9.1 4) (-1) 1599)) (fun u => k_B (dC, dI) vwCl (tyy cI cJ cZ cM) A ((fun (u9 : SU) => [(h, .inr (7, oM r (upd (upd (upd (upd (upd i 3 (u9.1 0)) 4 (u9.1 1)) 5 (u9.1 2)) 6 (u9.1 3)) 12 (u9.1 4)) (vp_updL j 7 (u9.2.1 0)))), ((r 0), .inl (cI, 1800, .inl f0))]) u)) A) args s 0 0 A) (F0 m 293 ls []) := by
                              intro j293_M0_7  H locs ls hP hD hS hl
                              refine lv_iload hx hb dX7_ahead_293 (lv_at hl 5 rfl) ?_
                              refine lv_iload hx hb dX7_ahead_295 (lv_at hl 4 rfl) ?_
                              have J_325 : ∀ (j325_M0_6 : Int32)  (H : Heap) (locs : List Loc) (ls : Array Slot), va_P (dC, dI) vwCl [(h, .inr (7, oM r (upd (upd (upd (upd (upd i 3 j186_S0) 4 j5_L1) 5 y_153) 6 j325_M0_6) 12 j263_M0_12) (vp_updL j 7 j293_M0_7))), ((r 0), .inl (cI, 1800, .inl f0))] H → va_D A [(h, .inr (7, oM r (upd (upd (upd (upd (upd i 3 j186_S0) 4 j5_L1) 5 y_153) 6 j325_M0_6) 12 j263_M0_12) (vp_updL j 7 j293_M0_7))), ((r 0), .inl (cI, 1800, .inl f0))] → va_S A s.heap H locs → lv_has ls 6 [(0, .ref h), (1, .int j204_L1), (2, .int r_76), (3, .int r_86), (4, .int j199_S0), (5, .int j204_L5)] → W p l e ({ frames := 2, cells := 0, slots := 0, locals := 62 }) s m args below meth c H locs 0 0 (MQ below (va_Qv (fun (u9 : SU) => (iR (u9.1 0) 0 3) ∧ (iR (u9.1 1) 0 1600) ∧ (iR (u9.1 2) 0 1600) ∧ (iR (u9.1 4) (-1) 1599)) (fun u => k_B (dC, dI) vwCl (tyy cI cJ cZ cM) A ((fun (u9 : SU) => [(h, .inr (7, oM r (upd (upd (upd (upd (upd i 3 (u9.1 0)) 4 (u9.1 1)) 5 (u9.1 2)) 6 (u9.1 3)) 12 (u9.1 4)) (vp_updL j 7 (u9.2.1 0)))), ((r 0), .inl (cI, 1800, .inl f0))]) u)) A) args s 0 0 A) (F0 m 325 ls []) := by
                                intro j325_M0_6  H locs ls hP hD hS hl
                                obtain ⟨y_325, ey_325⟩ : ∃ y : Int32, y = j204_L5 + 1 := ⟨_, rfl⟩
                                refine lv_iinc (v := y_325) (lv' := [(5, .int y_325), (0, .ref h), (1, .int j204_L1), (2, .int r_76), (3, .int r_86), (4, .int j199_S0)]) hx hb dX7_ahead_325 hl (k := 5) rfl ey_325.symm (by decide) rfl (fun ls hl => ?_)
                                obtain ⟨y_328, ey_328⟩ : ∃ y : Int32, y = j204_L1 + 1 := ⟨_, rfl⟩
                                refine lv_iinc (v := y_328) (lv' := [(1, .int y_328), (5, .int y_325), (0, .ref h), (2, .int r_76), (3, .int r_86), (4, .int j199_S0)]) hx hb dX7_ahead_328 hl (k := 2) rfl ey_328.symm (by decide) rfl (fun ls hl => ?_)
                                have f_328_1 : iR y_328 1 1600 := iR_add ey_328 f_212_1 (iR_c (n := 1) (by decide +kernel) (by decide +kernel)) (by decide +kernel)
                                refine lv_goto (tgt := 204) hx hb dX7_ahead_331 (by decide) ?_
                                exact ih_204 y_328 y_325 j325_M0_6 j293_M0_7 j263_M0_12 (iR_w f_328_1 (by decide +kernel)) hj263_M0_12 (m_up (B := 1600) hm_204 ey_328 f_212_1 (by decide +kernel)) H locs ls hP hD hS (lv_sub hl [2, 0, 3, 4, 5, 1] rfl)
                              refine lv_icmp_ge (tgt := 325) hx hb dX7_ahead_297 (by decide) (fun c_297 => ?_) (fun c_297 => ?_)
                              · have c_297 : j199_S0 ≤ j204_L5 := c_297
                                have f_325_1 : iR j204_L5 4 2147483647 := iR_leR c_297 hj199_S0 (iR_top _) (by decide +kernel)
                                exact J_325 j204_M0_6  H locs ls hP hD hS (lv_sub hl [0, 1, 2, 3, 4, 5] rfl)
                              · have c_297 : j204_L5 < j199_S0 := i_nle c_297
                                have f_300_1 : iR j204_L5 (-2147483648) 5 := iR_ltL c_297 (iR_top _) hj199_S0 (by decide +kernel)
                                refine lv_iload_n hx hb dX7_ahead_300 rfl (lv_at hl 3 rfl) ?_
                                refine lv_if_eq (tgt := 325) hx hb dX7_ahead_301 (by decide) (fun c_301 => ?_) (fun c_301 => ?_)
                                · have c_301 : r_86 = 0 := c_301
                                  have f_325_2 : iR r_86 0 0 := iR_eqL c_301 g_86_0 (iR_c (n := 0) (by decide +kernel) (by decide +kernel)) (by decide +kernel)
                                  exact J_325 j204_M0_6  H locs ls hP hD hS (lv_sub hl [0, 1, 2, 3, 4, 5] rfl)
                                · have c_301 : ¬ r_86 = 0 := c_301
                                  have f_304_2 : iR r_86 1 1 := iR_neL c_301 g_86_0 (iR_c (n := 0) (by decide +kernel) (by decide +kernel)) (by decide +kernel)
                                  refine lv_aload_n hx hb dX7_ahead_304 rfl (lv_at hl 0 rfl) ?_
                                  refine lv_bipush (v := 10) hx hb dX7_ahead_305 (by decide +kernel) ?_
                                  refine lv_aload_n hx hb dX7_ahead_307 rfl (lv_at hl 0 rfl) ?_
                                  refine k_get (D := (dC, dI)) (ci := 7) (v := .int j204_M0_6) (C := RX7) (T := TX7) (N := 92) hx hb hts hinX7 hown hK hP 0 rfl rfl 6 (by decide) w_6 rfl rfl dX7_ahead_308 ?_
                                  refine lv_imul hx hb dX7_ahead_311 ?_
                                  refine lv_topi (fun y_311 ey_311 => ?_)
                                  refine lv_aload_n hx hb dX7_ahead_312 rfl (lv_at hl 0 rfl) ?_
                                  refine k_get (D := (dC, dI)) (ci := 7) (v := .ref (r 0)) (C := RX7) (T := TX7) (N := 92) hx hb hts hinX7 hown hK hP 0 rfl rfl 0 (by decide) w_5 rfl rfl dX7_ahead_313 ?_
                                  refine lv_iload_n hx hb dX7_ahead_316 rfl (lv_at hl 1 rfl) ?_
                                  refine va_iald hx hb hK hP 1 0 rfl rfl (iR_vp f_212_1 (by decide +kernel)) dX7_ahead_317 ?_
                                  refine lv_iadd hx hb dX7_ahead_318 ?_
                                  refine lv_topi (fun y_318 ey_318 => ?_)
                                  refine lv_bipush (v := 48) hx hb dX7_ahead_319 (by decide +kernel) ?_
                                  refine lv_isub hx hb dX7_ahead_321 ?_
                                  refine lv_topi (fun y_321 ey_321 => ?_)
                                  refine k_put (D := (dC, dI)) (ci := 7) (v := .int y_321) (C := RX7) (T := TX7) (N := 92) (ws' := [(h, .inr (7, oM r (upd (upd (upd (upd (upd i 3 j186_S0) 4 j5_L1) 5 y_153) 6 y_321) 12 j263_M0_12) (vp_updL j 7 j293_M0_7))), ((r 0), .inl (cI, 1800, .inl f0))]) hx hb hts hinX7 tyX7 tyX7_ok nmX7 hown hK hP hD hS 0 rfl rfl 6 (by decide) w_6 rfl rfl rfl rfl (Nat.le_of_ble_eq_true rfl) rfl dX7_ahead_322 (fun H locs hP hD hS => ?_)
                                  exact J_325 y_321  H locs ls hP hD hS (lv_sub hl [0, 1, 2, 3, 4, 5] rfl)
                            refine lv_icmp_ge (tgt := 293) hx hb dX7_ahead_267 (by decide) (fun c_267 => ?_) (fun c_267 => ?_)
                            · have c_267 : 8 ≤ j204_L5 := c_267
                              have f_293_1 : iR j204_L5 8 2147483647 := iR_leR c_267 (iR_c (n := 8) (by decide +kernel) (by decide +kernel)) (iR_top _) (by decide +kernel)
                              exact J_293 j204_M0_7  H locs ls hP hD hS (lv_sub hl [0, 1, 2, 3, 4, 5] rfl)
                            · have c_267 : j204_L5 < 8 := i_nle c_267
                              have f_270_1 : iR j204_L5 (-2147483648) 7 := iR_ltL c_267 (iR_top _) (iR_c (n := 8) (by decide +kernel) (by decide +kernel)) (by decide +kernel)
                              refine lv_iload_n hx hb dX7_ahead_270 rfl (lv_at hl 2 rfl) ?_
                              refine lv_if_eq (tgt := 293) hx hb dX7_ahead_271 (by decide) (fun c_271 => ?_) (fun c_271 => ?_)
                              · have c_271 : r_76 = 0 := c_271
                                have f_293_2 : iR r_76 0 0 := iR_eqL c_271 g_76_0 (iR_c (n := 0) (by decide +kernel) (by decide +kernel)) (by decide +kernel)
                                exact J_293 j204_M0_7  H locs ls hP hD hS (lv_sub hl [0, 1, 2, 3, 4, 5] rfl)
                              · have c_271 : ¬ r_76 = 0 := c_271
                                have f_274_2 : iR r_76 1 1 := iR_neL c_271 g_76_0 (iR_c (n := 0) (by decide +kernel) (by decide +kernel)) (by decide +kernel)
                                refine lv_aload_n hx hb dX7_ahead_274 rfl (lv_at hl 0 rfl) ?_
                                refine lv_aload_n hx hb dX7_ahead_275 rfl (lv_at hl 0 rfl) ?_
                                refine k_get (D := (dC, dI)) (ci := 7) (v := .long j204_M0_7) (C := RX7) (T := TX7) (N := 92) hx hb hts hinX7 hown hK hP 0 rfl rfl 7 (by decide) w_7 rfl rfl dX7_ahead_276 ?_
                                refine lv_bipush (v := 8) hx hb dX7_ahead_279 (by decide +kernel) ?_
                                refine lv_lshl (v := j204_M0_7 <<< ((8 : Int32).toInt64 &&& 63)) hx hb dX7_ahead_281 rfl ?_
                                refine lv_topl (fun y_281 ey_281 => ?_)
                                refine lv_aload_n hx hb dX7_ahead_282 rfl (lv_at hl 0 rfl) ?_
                                refine k_get (D := (dC, dI)) (ci := 7) (v := .ref (r 0)) (C := RX7) (T := TX7) (N := 92) hx hb hts hinX7 hown hK hP 0 rfl rfl 0 (by decide) w_5 rfl rfl dX7_ahead_283 ?_
                                refine lv_iload_n hx hb dX7_ahead_286 rfl (lv_at hl 1 rfl) ?_
                                refine va_iald hx hb hK hP 1 0 rfl rfl (iR_vp f_212_1 (by decide +kernel)) dX7_ahead_287 ?_
                                refine lv_i2l (v := (f0 j204_L1.toNatClampNeg).toInt64) hx hb dX7_ahead_288 rfl ?_
                                refine lv_topl (fun y_288 ey_288 => ?_)
                                refine lv_lor hx hb dX7_ahead_289 ?_
                                refine lv_topl (fun y_289 ey_289 => ?_)
                                refine k_put (D := (dC, dI)) (ci := 7) (v := .long y_289) (C := RX7) (T := TX7) (N := 92) (ws' := [(h, .inr (7, oM r (upd (upd (upd (upd (upd i 3 j186_S0) 4 j5_L1) 5 y_153) 6 j204_M0_6) 12 j263_M0_12) (vp_updL j 7 y_289))), ((r 0), .inl (cI, 1800, .inl f0))]) hx hb hts hinX7 tyX7 tyX7_ok nmX7 hown hK hP hD hS 0 rfl rfl 7 (by decide) w_7 rfl rfl rfl rfl (Nat.le_of_ble_eq_true rfl) rfl dX7_ahead_290 (fun H locs hP hD hS => ?_)
                                exact J_293 y_289  H locs ls hP hD hS (lv_sub hl [0, 1, 2, 3, 4, 5] rfl)
                          refine lv_icmp_ne (tgt := 263) hx hb dX7_ahead_247 (by decide) (fun c_247 => ?_) (fun c_247 => ?_)
                          · have c_247 : ¬ j204_L5 = j199_S0 := c_247
                            exact J_263 j204_M0_12 hj204_M0_12 H locs ls hP hD hS (lv_sub hl [0, 1, 2, 3, 4, 5] rfl)
                          · have c_247 : j204_L5 = j199_S0 := c_247
                            have f_250_1 : iR j204_L5 4 6 := iR_eqL c_247 (iR_top _) hj199_S0 (by decide +kernel)
                            refine lv_aload_n hx hb dX7_ahead_250 rfl (lv_at hl 0 rfl) ?_
                            refine k_get (D := (dC, dI)) (ci := 7) (v := .int j204_M0_12) (C := RX7) (T := TX7) (N := 92) hx hb hts hinX7 hown hK hP 0 rfl rfl 12 (by decide) w_4 rfl rfl dX7_ahead_251 ?_
                            refine lv_iconst (v := (-1)) hx hb dX7_ahead_254 (by decide +kernel) ?_
                            refine lv_icmp_ne (tgt := 263) hx hb dX7_ahead_255 (by decide) (fun c_255 => ?_) (fun c_255 => ?_)
                            · have c_255 : ¬ j204_M0_12 = (-1) := c_255
                              have f_263_2 : iR j204_M0_12 0 1599 := iR_neL c_255 hj204_M0_12 (iR_c (n := (-1)) (by decide +kernel) (by decide +kernel)) (by decide +kernel)
                              exact J_263 j204_M0_12 (iR_w f_263_2 (by decide +kernel)) H locs ls hP hD hS (lv_sub hl [0, 1, 2, 3, 4, 5] rfl)
                            · have c_255 : j204_M0_12 = (-1) := c_255
                              have f_258_2 : iR j204_M0_12 (-1) (-1) := iR_eqL c_255 hj204_M0_12 (iR_c (n := (-1)) (by decide +kernel) (by decide +kernel)) (by decide +kernel)
                              refine lv_aload_n hx hb dX7_ahead_258 rfl (lv_at hl 0 rfl) ?_
                              refine lv_iload_n hx hb dX7_ahead_259 rfl (lv_at hl 1 rfl) ?_
                              refine k_put (D := (dC, dI)) (ci := 7) (v := .int j204_L1) (C := RX7) (T := TX7) (N := 92) (ws' := [(h, .inr (7, oM r (upd (upd (upd (upd (upd i 3 j186_S0) 4 j5_L1) 5 y_153) 6 j204_M0_6) 12 j204_L1) (vp_updL j 7 j204_M0_7))), ((r 0), .inl (cI, 1800, .inl f0))]) hx hb hts hinX7 tyX7 tyX7_ok nmX7 hown hK hP hD hS 0 rfl rfl 12 (by decide) w_4 rfl rfl rfl rfl (Nat.le_of_ble_eq_true rfl) rfl dX7_ahead_260 (fun H locs hP hD hS => ?_)
                              exact J_263 j204_L1 (iR_w f_212_1 (by decide +kernel)) H locs ls hP hD hS (lv_sub hl [0, 1, 2, 3, 4, 5] rfl)
                        refine lv_if_eq (tgt := 231) hx hb dX7_ahead_213 (by decide) (fun c_213 => ?_) (fun c_213 => ?_)
                        · have c_213 : r_76 = 0 := c_213
                          have f_231_2 : iR r_76 0 0 := iR_eqL c_213 g_76_0 (iR_c (n := 0) (by decide +kernel) (by decide +kernel)) (by decide +kernel)
                          refine lv_aload_n hx hb dX7_ahead_231 rfl (lv_at hl 0 rfl) ?_
                          refine k_get (D := (dC, dI)) (ci := 7) (v := .ref (r 0)) (C := RX7) (T := TX7) (N := 92) hx hb hts hinX7 hown hK hP 0 rfl rfl 0 (by decide) w_5 rfl rfl dX7_ahead_232 ?_
                          refine lv_iload_n hx hb dX7_ahead_235 rfl (lv_at hl 1 rfl) ?_
                          refine va_iald hx hb hK hP 1 0 rfl rfl (iR_vp f_212_1 (by decide +kernel)) dX7_ahead_236 ?_
                          have f_236_3 : iR (f0 j204_L1.toNatClampNeg) 0 255 := hf0 _
                          refine k_ci (wc := []) (wr := [(h, .inr (7, oM r (upd (upd (upd (upd (upd i 3 j186_S0) 4 j5_L1) 5 y_153) 6 j204_M0_6) 12 j204_M0_12) (vp_updL j 7 j204_M0_7))), ((r 0), .inl (cI, 1800, .inl f0))]) (fun hPc hDc hFc => va_runS (As := [.int (f0 j204_L1.toNatClampNeg)]) (rest := []) ⟨hx, hb, hml, hown, hts⟩ (s_X7_isDigit_v0 l dC dI cI cJ cZ cM (f0 j204_L1.toNatClampNeg) H.size) (va_cwS 1 hts gX7_ahead_X7_isDigit rfl rfl rfl (by decide +kernel) ⟨(Nat.le_of_ble_eq_true rfl), (Nat.le_of_ble_eq_true rfl)⟩) (k_pS hPc hDc hK hN hC hS hFc) rfl rfl hl.1 rfl (lv_room (Nat.le_of_ble_eq_true rfl)) dX7_ahead_237 ⟨(Nat.le_of_ble_eq_true rfl), (Nat.le_of_ble_eq_true rfl)⟩) hP hD hS hA [] [0, 1] rfl rfl rfl rfl (by decide) (fun _ => rfl) 0 0 rfl rfl (fun r_237 u_237 H locs hw hP hD hS => ?_)
                          obtain g_237_0 := hw
                          have hP : va_P (dC, dI) vwCl [(h, .inr (7, oM r (upd (upd (upd (upd (upd i 3 j186_S0) 4 j5_L1) 5 y_153) 6 j204_M0_6) 12 j204_M0_12) (vp_updL j 7 j204_M0_7))), ((r 0), .inl (cI, 1800, .inl f0))] H := hP
                          have hD : va_D A [(h, .inr (7, oM r (upd (upd (upd (upd (upd i 3 j186_S0) 4 j5_L1) 5 y_153) 6 j204_M0_6) 12 j204_M0_12) (vp_updL j 7 j204_M0_7))), ((r 0), .inl (cI, 1800, .inl f0))] := hD
                          refine lv_if_eq (tgt := 334) hx hb dX7_ahead_240 (by decide) (fun c_240 => ?_) (fun c_240 => ?_)
                          · have c_240 : r_237 = 0 := c_240
                            have f_334_4 : iR r_237 0 0 := iR_eqL c_240 g_237_0 (iR_c (n := 0) (by decide +kernel) (by decide +kernel)) (by decide +kernel)
                            exact J_334   H locs ls hP hD hS (lv_sub hl [0, 1, 2, 4, 5] rfl)
                          · have c_240 : ¬ r_237 = 0 := c_240
                            have f_243_4 : iR r_237 1 1 := iR_neL c_240 g_237_0 (iR_c (n := 0) (by decide +kernel) (by decide +kernel)) (by decide +kernel)
                            exact J_243  f_236_3 H locs ls hP hD hS (lv_sub hl [0, 1, 2, 3, 4, 5] rfl)
                        · have c_213 : ¬ r_76 = 0 := c_213
                          have f_216_2 : iR r_76 1 1 := iR_neL c_213 g_76_0 (iR_c (n := 0) (by decide +kernel) (by decide +kernel)) (by decide +kernel)
                          refine lv_aload_n hx hb dX7_ahead_216 rfl (lv_at hl 0 rfl) ?_
                          refine k_get (D := (dC, dI)) (ci := 7) (v := .ref (r 0)) (C := RX7) (T := TX7) (N := 92) hx hb hts hinX7 hown hK hP 0 rfl rfl 0 (by decide) w_5 rfl rfl dX7_ahead_217 ?_
                          refine lv_iload_n hx hb dX7_ahead_220 rfl (lv_at hl 1 rfl) ?_
                          refine va_iald hx hb hK hP 1 0 rfl rfl (iR_vp f_212_1 (by decide +kernel)) dX7_ahead_221 ?_
                          have f_221_3 : iR (f0 j204_L1.toNatClampNeg) 0 255 := hf0 _
                          refine k_ci (wc := []) (wr := [(h, .inr (7, oM r (upd (upd (upd (upd (upd i 3 j186_S0) 4 j5_L1) 5 y_153) 6 j204_M0_6) 12 j204_M0_12) (vp_updL j 7 j204_M0_7))), ((r 0), .inl (cI, 1800, .inl f0))]) (fun hPc hDc hFc => va_runS (As := [.int (f0 j204_L1.toNatClampNeg)]) (rest := []) ⟨hx, hb, hml, hown, hts⟩ (s_X7_isLetter_v0 l dC dI cI cJ cZ cM (f0 j204_L1.toNatClampNeg) H.size) (va_cwS 1 hts gX7_ahead_X7_isLetter rfl rfl rfl (by decide +kernel) ⟨(Nat.le_of_ble_eq_true rfl), (Nat.le_of_ble_eq_true rfl)⟩) (k_pS hPc hDc hK hN hC hS hFc) rfl rfl hl.1 rfl (lv_room (Nat.le_of_ble_eq_true rfl)) dX7_ahead_222 ⟨(Nat.le_of_ble_eq_true rfl), (Nat.le_of_ble_eq_true rfl)⟩) hP hD hS hA [] [0, 1] rfl rfl rfl rfl (by decide) (fun _ => rfl) 0 0 rfl rfl (fun r_222 u_222 H locs hw hP hD hS => ?_)
                          obtain g_222_0 := hw
                          have hP : va_P (dC, dI) vwCl [(h, .inr (7, oM r (upd (upd (upd (upd (upd i 3 j186_S0) 4 j5_L1) 5 y_153) 6 j204_M0_6) 12 j204_M0_12) (vp_updL j 7 j204_M0_7))), ((r 0), .inl (cI, 1800, .inl f0))] H := hP
                          have hD : va_D A [(h, .inr (7, oM r (upd (upd (upd (upd (upd i 3 j186_S0) 4 j5_L1) 5 y_153) 6 j204_M0_6) 12 j204_M0_12) (vp_updL j 7 j204_M0_7))), ((r 0), .inl (cI, 1800, .inl f0))] := hD
                          refine lv_if_eq (tgt := 334) hx hb dX7_ahead_225 (by decide) (fun c_225 => ?_) (fun c_225 => ?_)
                          · have c_225 : r_222 = 0 := c_225
                            have f_334_4 : iR r_222 0 0 := iR_eqL c_225 g_222_0 (iR_c (n := 0) (by decide +kernel) (by decide +kernel)) (by decide +kernel)
                            exact J_334   H locs ls hP hD hS (lv_sub hl [0, 1, 2, 4, 5] rfl)
                          · have c_225 : ¬ r_222 = 0 := c_225
                            have f_228_4 : iR r_222 1 1 := iR_neL c_225 g_222_0 (iR_c (n := 0) (by decide +kernel) (by decide +kernel)) (by decide +kernel)
                            refine lv_goto (tgt := 243) hx hb dX7_ahead_228 (by decide) ?_
                            exact J_243  f_221_3 H locs ls hP hD hS (lv_sub hl [0, 1, 2, 3, 4, 5] rfl)
                  refine lv_istore (lv' := [(5, .int 0), (4, .int j199_S0), (0, .ref h), (1, .int j5_L1), (2, .int r_76), (3, .int r_86)]) hx hb dX7_ahead_202 hl (by decide) rfl (fun ls hl => ?_)
                  exact J_204 _ j5_L1 0 0 0 j135_M0_12 (iR_w f_70_1 (by decide +kernel)) hj135_M0_12 (Nat.lt_succ_self _) H locs ls hP hD hS (lv_sub hl [2, 3, 4, 5, 1, 0] rfl)
                refine lv_if_eq (tgt := 198) hx hb dX7_ahead_190 (by decide) (fun c_190 => ?_) (fun c_190 => ?_)
                · have c_190 : r_76 = 0 := c_190
                  have f_198_1 : iR r_76 0 0 := iR_eqL c_190 g_76_0 (iR_c (n := 0) (by decide +kernel) (by decide +kernel)) (by decide +kernel)
                  refine lv_iconst (v := 4) hx hb dX7_ahead_198 (by decide +kernel) ?_
                  exact J_199 4 (iR_c (n := 4) (by decide +kernel) (by decide +kernel)) H locs ls hP hD hS (lv_sub hl [0, 1, 2, 3] rfl)
                · have c_190 : ¬ r_76 = 0 := c_190
                  have f_193_1 : iR r_76 1 1 := iR_neL c_190 g_76_0 (iR_c (n := 0) (by decide +kernel) (by decide +kernel)) (by decide +kernel)
                  refine lv_bipush (v := 6) hx hb dX7_ahead_193 (by decide +kernel) ?_
                  refine lv_goto (tgt := 199) hx hb dX7_ahead_195 (by decide) ?_
                  exact J_199 6 (iR_c (n := 6) (by decide +kernel) (by decide +kernel)) H locs ls hP hD hS (lv_sub hl [0, 1, 2, 3] rfl)
              refine lv_if_eq (tgt := 185) hx hb dX7_ahead_178 (by decide) (fun c_178 => ?_) (fun c_178 => ?_)
              · have c_178 : r_76 = 0 := c_178
                have f_185_1 : iR r_76 0 0 := iR_eqL c_178 g_76_0 (iR_c (n := 0) (by decide +kernel) (by decide +kernel)) (by decide +kernel)
                refine lv_iconst (v := 2) hx hb dX7_ahead_185 (by decide +kernel) ?_
                exact J_186 2 (iR_c (n := 2) (by decide +kernel) (by decide +kernel)) H locs ls hP hD hS (lv_sub hl [0, 1, 2, 3] rfl)
              · have c_178 : ¬ r_76 = 0 := c_178
                have f_181_1 : iR r_76 1 1 := iR_neL c_178 g_76_0 (iR_c (n := 0) (by decide +kernel) (by decide +kernel)) (by decide +kernel)
                refine lv_iconst (v := 1) hx hb dX7_ahead_181 (by decide +kernel) ?_
                refine lv_goto (tgt := 186) hx hb dX7_ahead_182 (by decide) ?_
                exact J_186 1 (iR_c (n := 1) (by decide +kernel) (by decide +kernel)) H locs ls hP hD hS (lv_sub hl [0, 1, 2, 3] rfl)
            refine lv_if_ne (tgt := 176) hx hb dX7_ahead_158 (by decide) (fun c_158 => ?_) (fun c_158 => ?_)
            · have c_158 : ¬ r_76 = 0 := c_158
              have f_176_2 : iR r_76 1 1 := iR_neL c_158 g_76_0 (iR_c (n := 0) (by decide +kernel) (by decide +kernel)) (by decide +kernel)
              exact J_176   H locs ls hP hD hS (lv_sub hl [0, 1, 2, 3] rfl)
            · have c_158 : r_76 = 0 := c_158
              have f_161_2 : iR r_76 0 0 := iR_eqL c_158 g_76_0 (iR_c (n := 0) (by decide +kernel) (by decide +kernel)) (by decide +kernel)
              refine lv_iload_n hx hb dX7_ahead_161 rfl (lv_at hl 3 rfl) ?_
              refine lv_if_ne (tgt := 176) hx hb dX7_ahead_162 (by decide) (fun c_162 => ?_) (fun c_162 => ?_)
              · have c_162 : ¬ r_86 = 0 := c_162
                have f_176_3 : iR r_86 1 1 := iR_neL c_162 g_86_0 (iR_c (n := 0) (by decide +kernel) (by decide +kernel)) (by decide +kernel)
                exact J_176   H locs ls hP hD hS (lv_sub hl [0, 1, 2, 3] rfl)
              · have c_162 : r_86 = 0 := c_162
                have f_165_3 : iR r_86 0 0 := iR_eqL c_162 g_86_0 (iR_c (n := 0) (by decide +kernel) (by decide +kernel)) (by decide +kernel)
                refine lv_aload_n hx hb dX7_ahead_165 rfl (lv_at hl 0 rfl) ?_
                refine lv_aload_n hx hb dX7_ahead_166 rfl (lv_at hl 0 rfl) ?_
                refine k_get (D := (dC, dI)) (ci := 7) (v := .ref (r 0)) (C := RX7) (T := TX7) (N := 92) hx hb hts hinX7 hown hK hP 0 rfl rfl 0 (by decide) w_5 rfl rfl dX7_ahead_167 ?_
                refine lv_iload_n hx hb dX7_ahead_170 rfl (lv_at hl 1 rfl) ?_
                refine va_iald hx hb hK hP 1 0 rfl rfl (iR_vp f_70_1 (by decide +kernel)) dX7_ahead_171 ?_
                refine k_put (D := (dC, dI)) (ci := 7) (v := .int (f0 j5_L1.toNatClampNeg)) (C := RX7) (T := TX7) (N := 92) (ws' := [(h, .inr (7, oM r (upd (upd (upd (upd (upd i 3 3) 4 j5_L1) 5 y_153) 6 (f0 j5_L1.toNatClampNeg)) 12 j135_M0_12) (vp_updL j 7 0))), ((r 0), .inl (cI, 1800, .inl f0))]) hx hb hts hinX7 tyX7 tyX7_ok nmX7 hown hK hP hD hS 0 rfl rfl 6 (by decide) w_6 rfl rfl rfl rfl (Nat.le_of_ble_eq_true rfl) rfl dX7_ahead_172 (fun H locs hP hD hS => ?_)
                exact k_rv B hP hD hS dX7_ahead_175 ((fun k9 => match k9 with | 0 => 3 | 1 => j5_L1 | 2 => y_153 | 3 => (f0 j5_L1.toNatClampNeg) | 4 => j135_M0_12 | _ => 0), (fun k9 => match k9 with | 0 => 0 | _ => 0), (fun _ => (fun _ => 0)), (fun _ => (fun _ => 0)), (fun _ => 0)) [0, 1] rfl rfl (Nat.le_of_ble_eq_true rfl) (Nat.le_of_ble_eq_true rfl) ⟨(iR_c (n := 3) (by decide +kernel) (by decide +kernel)), (iR_w f_70_1 (by decide +kernel)), (iR_w f_153_1 (by decide +kernel)), hj135_M0_12⟩
          have J_98 : ∀   (H : Heap) (locs : List Loc) (ls : Array Slot), va_P (dC, dI) vwCl [(h, .inr (7, oM r (upd (upd (upd (upd i 3 0) 4 j5_L1) 5 j5_L1) 12 (-1)) j)), ((r 0), .inl (cI, 1800, .inl f0))] H → va_D A [(h, .inr (7, oM r (upd (upd (upd (upd i 3 0) 4 j5_L1) 5 j5_L1) 12 (-1)) j)), ((r 0), .inl (cI, 1800, .inl f0))] → va_S A s.heap H locs → lv_has ls 6 [(0, .ref h), (1, .int j5_L1), (2, .int r_76), (3, .int r_86)] → W p l e ({ frames := 2, cells := 0, slots := 0, locals := 62 }) s m args below meth c H locs 0 0 (MQ below (va_Qv (fun (u9 : SU) => (iR (u9.1 0) 0 3) ∧ (iR (u9.1 1) 0 1600) ∧ (iR (u9.1 2) 0 1600) ∧ (iR (u9.1 4) (-1) 1599)) (fun u => k_B (dC, dI) vwCl (tyy cI cJ cZ cM) A ((fun (u9 : SU) => [(h, .inr (7, oM r (upd (upd (upd (upd (upd i 3 (u9.1 0)) 4 (u9.1 1)) 5 (u9.1 2)) 6 (u9.1 3)) 12 (u9.1 4)) (vp_updL j 7 (u9.2.1 0)))), ((r 0), .inl (cI, 1800, .inl f0))]) u)) A) args s 0 0 A) (F0 m 98 ls []) := by
            intro   H locs ls hP hD hS hl
            refine lv_iload_n hx hb dX7_ahead_98 rfl (lv_at hl 1 rfl) ?_
            refine lv_if_le (tgt := 135) hx hb dX7_ahead_99 (by decide) (fun c_99 => ?_) (fun c_99 => ?_)
            · have c_99 : j5_L1 ≤ 0 := c_99
              have f_135_1 : iR j5_L1 0 0 := iR_leL c_99 f_70_1 (iR_c (n := 0) (by decide +kernel) (by decide +kernel)) (by decide +kernel)
              exact J_135 (-1) (iR_c (n := (-1)) (by decide +kernel) (by decide +kernel)) H locs ls hP hD hS (lv_sub hl [0, 1, 2, 3] rfl)
            · have c_99 : 0 < j5_L1 := i_nle c_99
              have f_102_1 : iR j5_L1 1 1599 := iR_ltR c_99 (iR_c (n := 0) (by decide +kernel) (by decide +kernel)) f_70_1 (by decide +kernel)
              refine lv_aload_n hx hb dX7_ahead_102 rfl (lv_at hl 0 rfl) ?_
              refine k_get (D := (dC, dI)) (ci := 7) (v := .ref (r 0)) (C := RX7) (T := TX7) (N := 92) hx hb hts hinX7 hown hK hP 0 rfl rfl 0 (by decide) w_5 rfl rfl dX7_ahead_103 ?_
              refine lv_iload_n hx hb dX7_ahead_106 rfl (lv_at hl 1 rfl) ?_
              refine lv_iconst (v := 1) hx hb dX7_ahead_107 (by decide +kernel) ?_
              refine lv_isub hx hb dX7_ahead_108 ?_
              refine lv_topi (fun y_108 ey_108 => ?_)
              have f_108_2 : iR y_108 0 1598 := iR_sub ey_108 f_102_1 (iR_c (n := 1) (by decide +kernel) (by decide +kernel)) (by decide +kernel)
              refine va_iald hx hb hK hP 1 0 rfl rfl (iR_vp f_108_2 (by decide +kernel)) dX7_ahead_109 ?_
              have f_109_3 : iR (f0 y_108.toNatClampNeg) 0 255 := hf0 _
              refine k_ci (wc := []) (wr := [(h, .inr (7, oM r (upd (upd (upd (upd i 3 0) 4 j5_L1) 5 j5_L1) 12 (-1)) j)), ((r 0), .inl (cI, 1800, .inl f0))]) (fun hPc hDc hFc => va_runS (As := [.int (f0 y_108.toNatClampNeg)]) (rest := []) ⟨hx, hb, hml, hown, hts⟩ (s_X7_isLetter_v0 l dC dI cI cJ cZ cM (f0 y_108.toNatClampNeg) H.size) (va_cwS 1 hts gX7_ahead_X7_isLetter rfl rfl rfl (by decide +kernel) ⟨(Nat.le_of_ble_eq_true rfl), (Nat.le_of_ble_eq_true rfl)⟩) (k_pS hPc hDc hK hN hC hS hFc) rfl rfl hl.1 rfl (lv_room (Nat.le_of_ble_eq_true rfl)) dX7_ahead_110 ⟨(Nat.le_of_ble_eq_true rfl), (Nat.le_of_ble_eq_true rfl)⟩) hP hD hS hA [] [0, 1] rfl rfl rfl rfl (by decide) (fun _ => rfl) 0 0 rfl rfl (fun r_110 u_110 H locs hw hP hD hS => ?_)
              obtain g_110_0 := hw
              have hP : va_P (dC, dI) vwCl [(h, .inr (7, oM r (upd (upd (upd (upd i 3 0) 4 j5_L1) 5 j5_L1) 12 (-1)) j)), ((r 0), .inl (cI, 1800, .inl f0))] H := hP
              have hD : va_D A [(h, .inr (7, oM r (upd (upd (upd (upd i 3 0) 4 j5_L1) 5 j5_L1) 12 (-1)) j)), ((r 0), .inl (cI, 1800, .inl f0))] := hD
              have J_130 : ∀   (H : Heap) (locs : List Loc) (ls : Array Slot), va_P (dC, dI) vwCl [(h, .inr (7, oM r (upd (upd (upd (upd i 3 0) 4 j5_L1) 5 j5_L1) 12 (-1)) j)), ((r 0), .inl (cI, 1800, .inl f0))] H → va_D A [(h, .inr (7, oM r (upd (upd (upd (upd i 3 0) 4 j5_L1) 5 j5_L1) 12 (-1)) j)), ((r 0), .inl (cI, 1800, .inl f0))] → va_S A s.heap H locs → lv_has ls 6 [(0, .ref h), (1, .int j5_L1), (2, .int r_76), (3, .int r_86)] → W p l e ({ frames := 2, cells := 0, slots := 0, locals := 62 }) s m args below meth c H locs 0 0 (MQ below (va_Qv (fun (u9 : SU) => (iR (u9.1 0) 0 3) ∧ (iR (u9.1 1) 0 1600) ∧ (iR (u9.1 2) 0 1600) ∧ (iR (u9.1 4) (-1) 1599)) (fun u => k_B (dC, dI) vwCl (tyy cI cJ cZ cM) A ((fun (u9 : SU) => [(h, .inr (7, oM r (upd (upd (upd (upd (upd i 3 (u9.1 0)) 4 (u9.1 1)) 5 (u9.1 2)) 6 (u9.1 3)) 12 (u9.1 4)) (vp_updL j 7 (u9.2.1 0)))), ((r 0), .inl (cI, 1800, .inl f0))]) u)) A) args s 0 0 A) (F0 m 130 ls []) := by
                intro   H locs ls hP hD hS hl
                refine lv_aload_n hx hb dX7_ahead_130 rfl (lv_at hl 0 rfl) ?_
                refine lv_iload_n hx hb dX7_ahead_131 rfl (lv_at hl 1 rfl) ?_
                refine k_put (D := (dC, dI)) (ci := 7) (v := .int j5_L1) (C := RX7) (T := TX7) (N := 92) (ws' := [(h, .inr (7, oM r (upd (upd (upd (upd i 3 0) 4 j5_L1) 5 j5_L1) 12 j5_L1) j)), ((r 0), .inl (cI, 1800, .inl f0))]) hx hb hts hinX7 tyX7 tyX7_ok nmX7 hown hK hP hD hS 0 rfl rfl 12 (by decide) w_4 rfl rfl rfl rfl (Nat.le_of_ble_eq_true rfl) rfl dX7_ahead_132 (fun H locs hP hD hS => ?_)
                exact J_135 j5_L1 (iR_w f_102_1 (by decide +kernel)) H locs ls hP hD hS (lv_sub hl [0, 1, 2, 3] rfl)
              refine lv_if_ne (tgt := 130) hx hb dX7_ahead_113 (by decide) (fun c_113 => ?_) (fun c_113 => ?_)
              · have c_113 : ¬ r_110 = 0 := c_113
                have f_130_4 : iR r_110 1 1 := iR_neL c_113 g_110_0 (iR_c (n := 0) (by decide +kernel) (by decide +kernel)) (by decide +kernel)
                exact J_130   H locs ls hP hD hS (lv_sub hl [0, 1, 2, 3] rfl)
              · have c_113 : r_110 = 0 := c_113
                have f_116_4 : iR r_110 0 0 := iR_eqL c_113 g_110_0 (iR_c (n := 0) (by decide +kernel) (by decide +kernel)) (by decide +kernel)
                refine lv_aload_n hx hb dX7_ahead_116 rfl (lv_at hl 0 rfl) ?_
                refine k_get (D := (dC, dI)) (ci := 7) (v := .ref (r 0)) (C := RX7) (T := TX7) (N := 92) hx hb hts hinX7 hown hK hP 0 rfl rfl 0 (by decide) w_5 rfl rfl dX7_ahead_117 ?_
                refine lv_iload_n hx hb dX7_ahead_120 rfl (lv_at hl 1 rfl) ?_
                refine lv_iconst (v := 1) hx hb dX7_ahead_121 (by decide +kernel) ?_
                refine lv_isub hx hb dX7_ahead_122 ?_
                refine lv_topi (fun y_122 ey_122 => ?_)
                have f_122_5 : iR y_122 0 1598 := iR_sub ey_122 f_102_1 (iR_c (n := 1) (by decide +kernel) (by decide +kernel)) (by decide +kernel)
                refine va_iald hx hb hK hP 1 0 rfl rfl (iR_vp f_122_5 (by decide +kernel)) dX7_ahead_123 ?_
                have f_123_6 : iR (f0 y_122.toNatClampNeg) 0 255 := hf0 _
                refine k_ci (wc := []) (wr := [(h, .inr (7, oM r (upd (upd (upd (upd i 3 0) 4 j5_L1) 5 j5_L1) 12 (-1)) j)), ((r 0), .inl (cI, 1800, .inl f0))]) (fun hPc hDc hFc => va_runS (As := [.int (f0 y_122.toNatClampNeg)]) (rest := []) ⟨hx, hb, hml, hown, hts⟩ (s_X7_isDigit_v0 l dC dI cI cJ cZ cM (f0 y_122.toNatClampNeg) H.size) (va_cwS 1 hts gX7_ahead_X7_isDigit rfl rfl rfl (by decide +kernel) ⟨(Nat.le_of_ble_eq_true rfl), (Nat.le_of_ble_eq_true rfl)⟩) (k_pS hPc hDc hK hN hC hS hFc) rfl rfl hl.1 rfl (lv_room (Nat.le_of_ble_eq_true rfl)) dX7_ahead_124 ⟨(Nat.le_of_ble_eq_true rfl), (Nat.le_of_ble_eq_true rfl)⟩) hP hD hS hA [] [0, 1] rfl rfl rfl rfl (by decide) (fun _ => rfl) 0 0 rfl rfl (fun r_124 u_124 H locs hw hP hD hS => ?_)
                obtain g_124_0 := hw
                have hP : va_P (dC, dI) vwCl [(h, .inr (7, oM r (upd (upd (upd (upd i 3 0) 4 j5_L1) 5 j5_L1) 12 (-1)) j)), ((r 0), .inl (cI, 1800, .inl f0))] H := hP
                have hD : va_D A [(h, .inr (7, oM r (upd (upd (upd (upd i 3 0) 4 j5_L1) 5 j5_L1) 12 (-1)) j)), ((r 0), .inl (cI, 1800, .inl f0))] := hD
                refine lv_if_eq (tgt := 135) hx hb dX7_ahead_127 (by decide) (fun c_127 => ?_) (fun c_127 => ?_)
                · have c_127 : r_124 = 0 := c_127
                  have f_135_7 : iR r_124 0 0 := iR_eqL c_127 g_124_0 (iR_c (n := 0) (by decide +kernel) (by decide +kernel)) (by decide +kernel)
                  exact J_135 (-1) (iR_c (n := (-1)) (by decide +kernel) (by decide +kernel)) H locs ls hP hD hS (lv_sub hl [0, 1, 2, 3] rfl)
                · have c_127 : ¬ r_124 = 0 := c_127
                  have f_130_7 : iR r_124 1 1 := iR_neL c_127 g_124_0 (iR_c (n := 0) (by decide +kernel) (by decide +kernel)) (by decide +kernel)
                  exact J_130   H locs ls hP hD hS (lv_sub hl [0, 1, 2, 3] rfl)
          refine lv_if_ne (tgt := 98) hx hb dX7_ahead_91 (by decide) (fun c_91 => ?_) (fun c_91 => ?_)
          · have c_91 : ¬ r_76 = 0 := c_91
            have f_98_4 : iR r_76 1 1 := iR_neL c_91 g_76_0 (iR_c (n := 0) (by decide +kernel) (by decide +kernel)) (by decide +kernel)
            exact J_98   H locs ls hP hD hS (lv_sub hl [2, 3, 1, 0] rfl)
          · have c_91 : r_76 = 0 := c_91
            have f_94_4 : iR r_76 0 0 := iR_eqL c_91 g_76_0 (iR_c (n := 0) (by decide +kernel) (by decide +kernel)) (by decide +kernel)
            refine lv_iload_n hx hb dX7_ahead_94 rfl (lv_at hl 0 rfl) ?_
            refine lv_if_eq (tgt := 135) hx hb dX7_ahead_95 (by decide) (fun c_95 => ?_) (fun c_95 => ?_)
            · have c_95 : r_86 = 0 := c_95
              have f_135_5 : iR r_86 0 0 := iR_eqL c_95 g_86_0 (iR_c (n := 0) (by decide +kernel) (by decide +kernel)) (by decide +kernel)
              exact J_135 (-1) (iR_c (n := (-1)) (by decide +kernel) (by decide +kernel)) H locs ls hP hD hS (lv_sub hl [2, 3, 1, 0] rfl)
            · have c_95 : ¬ r_86 = 0 := c_95
              have f_98_5 : iR r_86 1 1 := iR_neL c_95 g_86_0 (iR_c (n := 0) (by decide +kernel) (by decide +kernel)) (by decide +kernel)
              exact J_98   H locs ls hP hD hS (lv_sub hl [2, 3, 1, 0] rfl)
        · have c_66 : (i 2) ≤ j5_L1 := i_nlt c_66
          exact k_rv B hP hD hS dX7_ahead_69 ((fun k9 => match k9 with | 0 => 0 | 1 => j5_L1 | 2 => j5_L1 | 3 => (i 6) | 4 => -1 | _ => 0), (fun k9 => match k9 with | 0 => (j 7) | _ => 0), (fun _ => (fun _ => 0)), (fun _ => (fun _ => 0)), (fun _ => 0)) [0, 1] rfl rfl (Nat.le_of_ble_eq_true rfl) (Nat.le_of_ble_eq_true rfl) ⟨(iR_c (n := 0) (by decide +kernel) (by decide +kernel)), hj5_L1, hj5_L1, (iR_c (n := (-1)) (by decide +kernel) (by decide +kernel))⟩
      refine lv_icmp_ge (tgt := 41) hx hb dX7_ahead_10 (by decide) (fun c_10 => ?_) (fun c_10 => ?_)
      · have c_10 : (i 2) ≤ j5_L1 := c_10
        exact J_41   H locs ls hP hD hS (lv_sub hl [0, 1] rfl)
      · have c_10 : j5_L1 < (i 2) := i_nle c_10
        have f_13_2 : iR j5_L1 0 1599 := iR_ltL c_10 hj5_L1 f_7_1 (by decide +kernel)
        have f_13_3 : iR (i 2) 1 1600 := iR_ltR c_10 hj5_L1 f_7_1 (by decide +kernel)
        refine lv_aload_n hx hb dX7_ahead_13 rfl (lv_at hl 0 rfl) ?_
        refine k_get (D := (dC, dI)) (ci := 7) (v := .ref (r 0)) (C := RX7) (T := TX7) (N := 92) hx hb hts hinX7 hown hK hP 0 rfl rfl 0 (by decide) w_5 rfl rfl dX7_ahead_14 ?_
        refine lv_iload_n hx hb dX7_ahead_17 rfl (lv_at hl 1 rfl) ?_
        refine va_iald hx hb hK hP 1 0 rfl rfl (iR_vp f_13_2 (by decide +kernel)) dX7_ahead_18 ?_
        have f_18_4 : iR (f0 j5_L1.toNatClampNeg) 0 255 := hf0 _
        refine lv_bipush (v := 32) hx hb dX7_ahead_19 (by decide +kernel) ?_
        have J_35 : ∀  (k35_0 : iR (f0 j5_L1.toNatClampNeg) 10 32) (H : Heap) (locs : List Loc) (ls : Array Slot), va_P (dC, dI) vwCl [(h, .inr (7, oM r i j)), ((r 0), .inl (cI, 1800, .inl f0))] H → va_D A [(h, .inr (7, oM r i j)), ((r 0), .inl (cI, 1800, .inl f0))] → va_S A s.heap H locs → lv_has ls 6 [(0, .ref h), (1, .int j5_L1)] → W p l e ({ frames := 2, cells := 0, slots := 0, locals := 62 }) s m args below meth c H locs 0 0 (MQ below (va_Qv (fun (u9 : SU) => (iR (u9.1 0) 0 3) ∧ (iR (u9.1 1) 0 1600) ∧ (iR (u9.1 2) 0 1600) ∧ (iR (u9.1 4) (-1) 1599)) (fun u => k_B (dC, dI) vwCl (tyy cI cJ cZ cM) A ((fun (u9 : SU) => [(h, .inr (7, oM r (upd (upd (upd (upd (upd i 3 (u9.1 0)) 4 (u9.1 1)) 5 (u9.1 2)) 6 (u9.1 3)) 12 (u9.1 4)) (vp_updL j 7 (u9.2.1 0)))), ((r 0), .inl (cI, 1800, .inl f0))]) u)) A) args s 0 0 A) (F0 m 35 ls []) := by
          intro  k35_0 H locs ls hP hD hS hl
          obtain ⟨y_35, ey_35⟩ : ∃ y : Int32, y = j5_L1 + 1 := ⟨_, rfl⟩
          refine lv_iinc (v := y_35) (lv' := [(1, .int y_35), (0, .ref h)]) hx hb dX7_ahead_35 hl (k := 1) rfl ey_35.symm (by decide) rfl (fun ls hl => ?_)
          have f_35_1 : iR y_35 1 1600 := iR_add ey_35 f_13_2 (iR_c (n := 1) (by decide +kernel) (by decide +kernel)) (by decide +kernel)
          refine lv_goto (tgt := 5) hx hb dX7_ahead_38 (by decide) ?_
          exact ih_5 y_35 (iR_w f_35_1 (by decide +kernel)) (m_up (B := 1600) hm_5 ey_35 f_13_2 (by decide +kernel)) H locs ls hP hD hS (lv_sub hl [1, 0] rfl)
        refine lv_icmp_eq (tgt := 35) hx hb dX7_ahead_21 (by decide) (fun c_21 => ?_) (fun c_21 => ?_)
        · have c_21 : (f0 j5_L1.toNatClampNeg) = 32 := c_21
          have f_35_5 : iR (f0 j5_L1.toNatClampNeg) 32 32 := iR_eqL c_21 f_18_4 (iR_c (n := 32) (by decide +kernel) (by decide +kernel)) (by decide +kernel)
          exact J_35  (iR_w f_35_5 (by decide +kernel)) H locs ls hP hD hS (lv_sub hl [0, 1] rfl)
        · have c_21 : ¬ (f0 j5_L1.toNatClampNeg) = 32 := c_21
          refine lv_aload_n hx hb dX7_ahead_24 rfl (lv_at hl 0 rfl) ?_
          refine k_get (D := (dC, dI)) (ci := 7) (v := .ref (r 0)) (C := RX7) (T := TX7) (N := 92) hx hb hts hinX7 hown hK hP 0 rfl rfl 0 (by decide) w_5 rfl rfl dX7_ahead_25 ?_
          refine lv_iload_n hx hb dX7_ahead_28 rfl (lv_at hl 1 rfl) ?_
          refine va_iald hx hb hK hP 1 0 rfl rfl (iR_vp f_13_2 (by decide +kernel)) dX7_ahead_29 ?_
          refine lv_bipush (v := 10) hx hb dX7_ahead_30 (by decide +kernel) ?_
          refine lv_icmp_ne (tgt := 41) hx hb dX7_ahead_32 (by decide) (fun c_32 => ?_) (fun c_32 => ?_)
          · have c_32 : ¬ (f0 j5_L1.toNatClampNeg) = 10 := c_32
            exact J_41   H locs ls hP hD hS (lv_sub hl [0, 1] rfl)
          · have c_32 : (f0 j5_L1.toNatClampNeg) = 10 := c_32
            have f_35_5 : iR (f0 j5_L1.toNatClampNeg) 10 10 := iR_eqL c_32 f_18_4 (iR_c (n := 10) (by decide +kernel) (by decide +kernel)) (by decide +kernel)
            exact J_35  (iR_w f_35_5 (by decide +kernel)) H locs ls hP hD hS (lv_sub hl [0, 1] rfl)
  refine lv_istore_n (lv' := [(1, .int (i 5)), (0, .ref h)]) hx hb dX7_ahead_4 rfl hl (by decide) rfl (fun ls hl => ?_)
  exact J_5 _ (i 5) f_1_1 (Nat.lt_succ_self _) H locs ls hP hD hS (lv_sub hl [1, 0] rfl)
set_option maxHeartbeats 8000000 in
set_option maxRecDepth 100000 in
theorem s_X7_must_v0 (l : Launch) (dC : Nat → ClassId) (dI : Nat → Nat → Nat) (cI cJ cZ cM : ClassId) (h : Nat) (r : Nat → Nat) (i : Nat → Int32) (j : Nat → Int64) (x1 : Int32) (f0 : Nat → Int32) (hI : mR i) (hf0 : aR f0 0 255) : k_Mv l yX7_must wsX7_must ({ frames := 3, cells := 0, slots := 0, locals := 87 }) (dC, dI) vwCl (tyy cI cJ cZ cM) [(h, .inr (7, oM r i j)), ((r 0), .inl (cI, 1800, .inl f0))] [.ref h, .int x1] 0 0 (fun (u9 : SU) => [(h, .inr (7, oM r (upd (upd (upd (upd (upd (upd (upd i 3 (u9.1 0)) 4 (u9.1 1)) 5 (u9.1 2)) 6 (u9.1 3)) 8 (u9.1 4)) 9 (u9.1 5)) 12 (u9.1 6)) (vp_updL j 7 (u9.2.1 0)))), ((r 0), .inl (cI, 1800, .inl f0))]) (fun (u9 : SU) => (iR (u9.1 0) 0 3) ∧ (iR (u9.1 1) 0 1600) ∧ (iR (u9.1 2) 0 1600) ∧ (iR (u9.1 4) 0 6)) := by
  refine fun sz => k_enter (cc := cX7_must) (maxL := 2) (ret := none) (Qc := fun A => va_Qv (fun (u9 : SU) => (iR (u9.1 0) 0 3) ∧ (iR (u9.1 1) 0 1600) ∧ (iR (u9.1 2) 0 1600) ∧ (iR (u9.1 4) 0 6)) (fun u => k_B (dC, dI) vwCl (tyy cI cJ cZ cM) A ((fun (u9 : SU) => [(h, .inr (7, oM r (upd (upd (upd (upd (upd (upd (upd i 3 (u9.1 0)) 4 (u9.1 1)) 5 (u9.1 2)) 6 (u9.1 3)) 8 (u9.1 4)) 9 (u9.1 5)) 12 (u9.1 6)) (vp_updL j 7 (u9.2.1 0)))), ((r 0), .inl (cI, 1800, .inl f0))]) u)) A) sz (by decide +kernel) rfl (Nat.le_of_ble_eq_true rfl) (fun p e s m args below meth c A ls H locs B hP hD hS hl => ?_)
  obtain ⟨hx, hb, hml, hown, hts, hr, hlk, hnm, hK, hA, hN, hC⟩ := id B
  have hown : s.vm.findClass RX7 = some m.cls := hown
  have hl : lv_has ls 2 [(0, .ref h), (1, .int x1)] := hl
  have w_0 : (Cond.fieldLink RX7 36 "WishSeaModel" "faultKind" "I").before args s = true := hts _ (List.mem_of_getElem? (i := 2) rfl)
  have w_1 : (Cond.fieldLink RX7 23 "WishSeaModel" "signAt" "I").before args s = true := hts _ (List.mem_of_getElem? (i := 1) rfl)
  have hinX7 : ∀ w ∈ u_ws RX7 TX7 92, w ∈ wsX7_must := fun _ h => List.mem_cons_of_mem _ (List.mem_append_right _ h)
  refine lv_aload_n hx hb dX7_must_0 rfl (lv_at hl 0 rfl) ?_
  refine k_cv (wc := [(h, .inr (7, oM r i j))]) (wr := [((r 0), .inl (cI, 1800, .inl f0))]) (fun hPc hDc hFc => va_runV (As := []) (rest := []) ⟨hx, hb, hml, hown, hts⟩ (s_X7_lex_v1 l dC dI cI cJ cZ cM h r i j hI H.size) (cwV 0 hts gX7_must_X7_lex rfl rfl rfl (by decide +kernel) ⟨(Nat.le_of_ble_eq_true rfl), (Nat.le_of_ble_eq_true rfl)⟩) (k_pV hPc hDc hK hN hC hS hFc hP (q0 := 0) (ci := 7) rfl rfl) rfl rfl hl.1 rfl (lv_room (Nat.le_of_ble_eq_true rfl)) dX7_must_1 ⟨(Nat.le_of_ble_eq_true rfl), (Nat.le_of_ble_eq_true rfl)⟩) hP hD hS hA [0] [1] rfl rfl rfl rfl (by decide) (fun _ => rfl) 0 0 rfl rfl (fun u_1 H locs hw hP hD hS => ?_)
  obtain g_1_0 := hw
  have hP : va_P (dC, dI) vwCl [((r 0), .inl (cI, 1800, .inl f0)), (h, .inr (7, oM r (upd (upd i 8 (u_1.1 0)) 9 (u_1.1 1)) j))] H := hP
  have hD : va_D A [((r 0), .inl (cI, 1800, .inl f0)), (h, .inr (7, oM r (upd (upd i 8 (u_1.1 0)) 9 (u_1.1 1)) j))] := hD
  refine lv_aload_n hx hb dX7_must_4 rfl (lv_at hl 0 rfl) ?_
  refine lv_iload_n hx hb dX7_must_5 rfl (lv_at hl 1 rfl) ?_
  refine k_ci (wc := [(h, .inr (7, oM r (upd (upd i 8 (u_1.1 0)) 9 (u_1.1 1)) j))]) (wr := [((r 0), .inl (cI, 1800, .inl f0))]) (fun hPc hDc hFc => va_runV (As := [.int x1]) (rest := []) ⟨hx, hb, hml, hown, hts⟩ (s_X7_isSign_v1 l dC dI cI cJ cZ cM h r (upd (upd i 8 (u_1.1 0)) 9 (u_1.1 1)) j x1 (mR_upd 9 (mR_upd 8 hI (show iR _ (loI 8) (hiI 8) from g_1_0)) (show iR _ (loI 9) (hiI 9) from (iR_top _))) H.size) (cwV 1 hts gX7_must_X7_isSign rfl rfl rfl (by decide +kernel) ⟨(Nat.le_of_ble_eq_true rfl), (Nat.le_of_ble_eq_true rfl)⟩) (k_pV hPc hDc hK hN hC hS hFc hP (q0 := 1) (ci := 7) rfl rfl) rfl rfl hl.1 rfl (lv_room (Nat.le_of_ble_eq_true rfl)) dX7_must_6 ⟨(Nat.le_of_ble_eq_true rfl), (Nat.le_of_ble_eq_true rfl)⟩) hP hD hS hA [1] [0] rfl rfl rfl rfl (by decide) (fun _ => rfl) 0 0 rfl rfl (fun r_6 u_6 H locs hw hP hD hS => ?_)
  obtain g_6_0 := hw
  have hP : va_P (dC, dI) vwCl [((r 0), .inl (cI, 1800, .inl f0)), (h, .inr (7, oM r (upd (upd i 8 (u_1.1 0)) 9 (u_1.1 1)) j))] H := hP
  have hD : va_D A [((r 0), .inl (cI, 1800, .inl f0)), (h, .inr (7, oM r (upd (upd i 8 (u_1.1 0)) 9 (u_1.1 1)) j))] := hD
  have J_21 : ∀ (j21_M0_8 : Int32) (j21_M0_9 : Int32) (hj21_M0_8 : iR j21_M0_8 0 6) (H : Heap) (locs : List Loc) (ls : Array Slot), va_P (dC, dI) vwCl [(h, .inr (7, oM r (upd (upd i 8 j21_M0_8) 9 j21_M0_9) j)), ((r 0), .inl (cI, 1800, .inl f0))] H → va_D A [(h, .inr (7, oM r (upd (upd i 8 j21_M0_8) 9 j21_M0_9) j)), ((r 0), .inl (cI, 1800, .inl f0))] → va_S A s.heap H locs → lv_has ls 2 [(0, .ref h)] → W p l e ({ frames := 3, cells := 0, slots := 0, locals := 87 }) s m args below meth c H locs 0 0 (MQ below (va_Qv (fun (u9 : SU) => (iR (u9.1 0) 0 3) ∧ (iR (u9.1 1) 0 1600) ∧ (iR (u9.1 2) 0 1600) ∧ (iR (u9.1 4) 0 6)) (fun u => k_B (dC, dI) vwCl (tyy cI cJ cZ cM) A ((fun (u9 : SU) => [(h, .inr (7, oM r (upd (upd (upd (upd (upd (upd (upd i 3 (u9.1 0)) 4 (u9.1 1)) 5 (u9.1 2)) 6 (u9.1 3)) 8 (u9.1 4)) 9 (u9.1 5)) 12 (u9.1 6)) (vp_updL j 7 (u9.2.1 0)))), ((r 0), .inl (cI, 1800, .inl f0))]) u)) A) args s 0 0 A) (F0 m 21 ls []) := by
    intro j21_M0_8 j21_M0_9 hj21_M0_8 H locs ls hP hD hS hl
    refine lv_aload_n hx hb dX7_must_21 rfl (lv_at hl 0 rfl) ?_
    refine k_get (D := (dC, dI)) (ci := 7) (v := .int j21_M0_8) (C := RX7) (T := TX7) (N := 92) hx hb hts hinX7 hown hK hP 0 rfl rfl 8 (by decide) w_0 rfl rfl dX7_must_22 ?_
    have J_32 : ∀ (j32_M0_3 : Int32) (j32_M0_4 : Int32) (j32_M0_5 : Int32) (j32_M0_6 : Int32) (j32_M0_7 : Int64) (j32_M0_12 : Int32) (hj32_M0_3 : iR j32_M0_3 0 3) (hj32_M0_4 : iR j32_M0_4 0 1600) (hj32_M0_5 : iR j32_M0_5 0 1600) (H : Heap) (locs : List Loc) (ls : Array Slot), va_P (dC, dI) vwCl [(h, .inr (7, oM r (upd (upd (upd (upd (upd (upd (upd i 3 j32_M0_3) 4 j32_M0_4) 5 j32_M0_5) 6 j32_M0_6) 8 j21_M0_8) 9 j21_M0_9) 12 j32_M0_12) (vp_updL j 7 j32_M0_7))), ((r 0), .inl (cI, 1800, .inl f0))] H → va_D A [(h, .inr (7, oM r (upd (upd (upd (upd (upd (upd (upd i 3 j32_M0_3) 4 j32_M0_4) 5 j32_M0_5) 6 j32_M0_6) 8 j21_M0_8) 9 j21_M0_9) 12 j32_M0_12) (vp_updL j 7 j32_M0_7))), ((r 0), .inl (cI, 1800, .inl f0))] → va_S A s.heap H locs → lv_has ls 2 [] → W p l e ({ frames := 3, cells := 0, slots := 0, locals := 87 }) s m args below meth c H locs 0 0 (MQ below (va_Qv (fun (u9 : SU) => (iR (u9.1 0) 0 3) ∧ (iR (u9.1 1) 0 1600) ∧ (iR (u9.1 2) 0 1600) ∧ (iR (u9.1 4) 0 6)) (fun u => k_B (dC, dI) vwCl (tyy cI cJ cZ cM) A ((fun (u9 : SU) => [(h, .inr (7, oM r (upd (upd (upd (upd (upd (upd (upd i 3 (u9.1 0)) 4 (u9.1 1)) 5 (u9.1 2)) 6 (u9.1 3)) 8 (u9.1 4)) 9 (u9.1 5)) 12 (u9.1 6)) (vp_updL j 7 (u9.2.1 0)))), ((r 0), .inl (cI, 1800, .inl f0))]) u)) A) args s 0 0 A) (F0 m 32 ls []) := by
      intro j32_M0_3 j32_M0_4 j32_M0_5 j32_M0_6 j32_M0_7 j32_M0_12 hj32_M0_3 hj32_M0_4 hj32_M0_5 H locs ls hP hD hS hl
      exact k_rv B hP hD hS dX7_must_32 ((fun k9 => match k9 with | 0 => j32_M0_3 | 1 => j32_M0_4 | 2 => j32_M0_5 | 3 => j32_M0_6 | 4 => j21_M0_8 | 5 => j21_M0_9 | 6 => j32_M0_12 | _ => 0), (fun k9 => match k9 with | 0 => j32_M0_7 | _ => 0), (fun _ => (fun _ => 0)), (fun _ => (fun _ => 0)), (fun _ => 0)) [0, 1] rfl rfl (Nat.le_of_ble_eq_true rfl) (Nat.le_of_ble_eq_true rfl) ⟨hj32_M0_3, hj32_M0_4, hj32_M0_5, hj21_M0_8⟩
    refine lv_if_ne (tgt := 32) hx hb dX7_must_25 (by decide) (fun c_25 => ?_) (fun c_25 => ?_)
    · have c_25 : ¬ j21_M0_8 = 0 := c_25
      have f_32_1 : iR j21_M0_8 1 6 := iR_neL c_25 hj21_M0_8 (iR_c (n := 0) (by decide +kernel) (by decide +kernel)) (by decide +kernel)
      exact J_32 (i 3) (i 4) (i 5) (i 6) (j 7) (i 12) (show iR (i 3) 0 3 from hI 3) (show iR (i 4) 0 1600 from hI 4) (show iR (i 5) 0 1600 from hI 5) H locs ls hP hD hS (lv_sub hl [] rfl)
    · have c_25 : j21_M0_8 = 0 := c_25
      have f_28_1 : iR j21_M0_8 0 0 := iR_eqL c_25 hj21_M0_8 (iR_c (n := 0) (by decide +kernel) (by decide +kernel)) (by decide +kernel)
      refine lv_aload_n hx hb dX7_must_28 rfl (lv_at hl 0 rfl) ?_
      refine k_cv (wc := [(h, .inr (7, oM r (upd (upd i 8 j21_M0_8) 9 j21_M0_9) j)), ((r 0), .inl (cI, 1800, .inl f0))]) (wr := []) (fun hPc hDc hFc => va_runV (As := []) (rest := []) ⟨hx, hb, hml, hown, hts⟩ (s_X7_ahead_v1 l dC dI cI cJ cZ cM h r (upd (upd i 8 j21_M0_8) 9 j21_M0_9) j f0 (mR_upd 9 (mR_upd 8 hI (show iR _ (loI 8) (hiI 8) from (iR_w f_28_1 (by decide +kernel)))) (show iR _ (loI 9) (hiI 9) from (iR_top _))) hf0 H.size) (cwV 0 hts gX7_must_X7_ahead rfl rfl rfl (by decide +kernel) ⟨(Nat.le_of_ble_eq_true rfl), (Nat.le_of_ble_eq_true rfl)⟩) (k_pV hPc hDc hK hN hC hS hFc hP (q0 := 0) (ci := 7) rfl rfl) rfl rfl hl.1 rfl (lv_room (Nat.le_of_ble_eq_true rfl)) dX7_must_29 ⟨(Nat.le_of_ble_eq_true rfl), (Nat.le_of_ble_eq_true rfl)⟩) hP hD hS hA [0, 1] [] rfl rfl rfl rfl (by decide) (fun _ => rfl) 0 0 rfl rfl (fun u_29 H locs hw hP hD hS => ?_)
      obtain ⟨g_29_0, g_29_1, g_29_2, g_29_3⟩ := hw
      have hP : va_P (dC, dI) vwCl [(h, .inr (7, oM r (upd (upd (upd (upd (upd (upd (upd i 3 (u_29.1 0)) 4 (u_29.1 1)) 5 (u_29.1 2)) 6 (u_29.1 3)) 8 j21_M0_8) 9 j21_M0_9) 12 (u_29.1 4)) (vp_updL j 7 (u_29.2.1 0)))), ((r 0), .inl (cI, 1800, .inl f0))] H := hP
      have hD : va_D A [(h, .inr (7, oM r (upd (upd (upd (upd (upd (upd (upd i 3 (u_29.1 0)) 4 (u_29.1 1)) 5 (u_29.1 2)) 6 (u_29.1 3)) 8 j21_M0_8) 9 j21_M0_9) 12 (u_29.1 4)) (vp_updL j 7 (u_29.2.1 0)))), ((r 0), .inl (cI, 1800, .inl f0))] := hD
      exact J_32 (u_29.1 0) (u_29.1 1) (u_29.1 2) (u_29.1 3) (u_29.2.1 0) (u_29.1 4) g_29_0 g_29_1 g_29_2 H locs ls hP hD hS (lv_sub hl [] rfl)
  refine lv_if_ne (tgt := 21) hx hb dX7_must_9 (by decide) (fun c_9 => ?_) (fun c_9 => ?_)
  · have c_9 : ¬ r_6 = 0 := c_9
    have f_21_1 : iR r_6 1 1 := iR_neL c_9 g_6_0 (iR_c (n := 0) (by decide +kernel) (by decide +kernel)) (by decide +kernel)
    exact J_21 (u_1.1 0) (u_1.1 1) g_1_0 H locs ls (hP.sub [1, 0] rfl) (hD.sub [1, 0] (by decide +kernel) rfl) hS (lv_sub hl [0] rfl)
  · have c_9 : r_6 = 0 := c_9
    have f_12_1 : iR r_6 0 0 := iR_eqL c_9 g_6_0 (iR_c (n := 0) (by decide +kernel) (by decide +kernel)) (by decide +kernel)
    refine lv_aload_n hx hb dX7_must_12 rfl (lv_at hl 0 rfl) ?_
    refine lv_iconst (v := 1) hx hb dX7_must_13 (by decide +kernel) ?_
    refine lv_aload_n hx hb dX7_must_14 rfl (lv_at hl 0 rfl) ?_
    have f_15_2 : iR (i 4) 0 1600 := hI 4
    refine k_get (D := (dC, dI)) (ci := 7) (v := .int (i 4)) (C := RX7) (T := TX7) (N := 92) hx hb hts hinX7 hown hK hP 1 rfl rfl 4 (by decide) w_1 rfl rfl dX7_must_15 ?_
    refine k_cv (wc := [(h, .inr (7, oM r (upd (upd i 8 (u_1.1 0)) 9 (u_1.1 1)) j))]) (wr := [((r 0), .inl (cI, 1800, .inl f0))]) (fun hPc hDc hFc => va_runV (As := [.int 1, .int (i 4)]) (rest := []) ⟨hx, hb, hml, hown, hts⟩ (s_X7_blame_v2 l dC dI cI cJ cZ cM h r (upd (upd i 8 (u_1.1 0)) 9 (u_1.1 1)) j 1 (i 4) (iR_c (n := 1) (by decide +kernel) (by decide +kernel)) (mR_upd 9 (mR_upd 8 hI (show iR _ (loI 8) (hiI 8) from g_1_0)) (show iR _ (loI 9) (hiI 9) from (iR_top _))) H.size) (cwV 2 hts gX7_must_X7_blame rfl rfl rfl (by decide +kernel) ⟨(Nat.le_of_ble_eq_true rfl), (Nat.le_of_ble_eq_true rfl)⟩) (k_pV hPc hDc hK hN hC hS hFc hP (q0 := 1) (ci := 7) rfl rfl) rfl rfl hl.1 rfl (lv_room (Nat.le_of_ble_eq_true rfl)) dX7_must_18 ⟨(Nat.le_of_ble_eq_true rfl), (Nat.le_of_ble_eq_true rfl)⟩) hP hD hS hA [1] [0] rfl rfl rfl rfl (by decide) (fun _ => rfl) 0 0 rfl rfl (fun u_18 H locs hw hP hD hS => ?_)
    obtain g_18_0 := hw
    have hP : va_P (dC, dI) vwCl [((r 0), .inl (cI, 1800, .inl f0)), (h, .inr (7, oM r (upd (upd i 8 (u_18.1 0)) 9 (u_18.1 1)) j))] H := hP
    have hD : va_D A [((r 0), .inl (cI, 1800, .inl f0)), (h, .inr (7, oM r (upd (upd i 8 (u_18.1 0)) 9 (u_18.1 1)) j))] := hD
    exact J_21 (u_18.1 0) (u_18.1 1) (iR_w g_18_0 (by decide +kernel)) H locs ls (hP.sub [1, 0] rfl) (hD.sub [1, 0] (by decide +kernel) rfl) hS (lv_sub hl [0] rfl)
set_option maxHeartbeats 8000000 in
set_option maxRecDepth 100000 in
theorem s_X7_between_v0 (l : Launch) (dC : Nat → ClassId) (dI : Nat → Nat → Nat) (cI cJ cZ cM : ClassId) (x0 : Int64) (x1 : Int32) (x2 : Int32)  : k_Mi l yX7_between wsX7_between ({ frames := 1, cells := 0, slots := 0, locals := 40 }) (dC, dI) vwCl (tyy cI cJ cZ cM) [] [.long x0, .int x1, .int x2] 0 0 (fun (u9 : Unit) => []) (fun (r9 : Int32) (u9 : Unit) => True) := by
  refine fun sz => k_enter (cc := cX7_between) (maxL := 4) (ret := some (.int)) (Qc := fun A => va_Qi (fun (r9 : Int32) (u9 : Unit) => True) (fun u => k_B (dC, dI) vwCl (tyy cI cJ cZ cM) A ((fun (u9 : Unit) => []) u)) A) sz (by decide +kernel) rfl (Nat.le_of_ble_eq_true rfl) (fun p e s m args below meth c A ls H locs B hP hD hS hl => ?_)
  obtain ⟨hx, hb, hml, hown, hts, hr, hlk, hnm, hK, hA, hN, hC⟩ := id B
  have hown : s.vm.findClass RX7 = some m.cls := hown
  have hl : lv_has ls 4 [(0, .long x0), (2, .int x1), (3, .int x2)] := hl
  refine lv_lload_n hx hb dX7_between_0 rfl (lv_at hl 0 rfl) ?_
  refine lv_iload_n hx hb dX7_between_1 rfl (lv_at hl 1 rfl) ?_
  refine lv_i2l (v := x1.toInt64) hx hb dX7_between_2 rfl ?_
  refine lv_topl (fun y_2 ey_2 => ?_)
  refine W.lcmp hx hb dX7_between_3 ?_
  refine lv_topi (fun y_3 ey_3 => ?_)
  refine lv_if_ge (tgt := 11) hx hb dX7_between_4 (by decide) (fun c_4 => ?_) (fun c_4 => ?_)
  · have c_4 : 0 ≤ y_3 := c_4
    have f_11_1 : iR y_3 0 2147483647 := iR_leR c_4 (iR_c (n := 0) (by decide +kernel) (by decide +kernel)) (iR_top _) (by decide +kernel)
    have lc_4 : y_2 ≤ x0 := l_cmpge ey_3 c_4
    refine lv_lload_n hx hb dX7_between_11 rfl (lv_at hl 0 rfl) ?_
    refine lv_iload_n hx hb dX7_between_12 rfl (lv_at hl 2 rfl) ?_
    refine lv_i2l (v := x2.toInt64) hx hb dX7_between_13 rfl ?_
    refine lv_topl (fun y_13 ey_13 => ?_)
    refine W.lcmp hx hb dX7_between_14 ?_
    refine lv_topi (fun y_14 ey_14 => ?_)
    refine lv_if_le (tgt := 22) hx hb dX7_between_15 (by decide) (fun c_15 => ?_) (fun c_15 => ?_)
    · have c_15 : y_14 ≤ 0 := c_15
      have f_22_2 : iR y_14 (-2147483648) 0 := iR_leL c_15 (iR_top _) (iR_c (n := 0) (by decide +kernel) (by decide +kernel)) (by decide +kernel)
      have lc_15 : x0 ≤ y_13 := l_cmple ey_14 c_15
      refine lv_lload_n hx hb dX7_between_22 rfl (lv_at hl 0 rfl) ?_
      refine lv_l2i (v := x0.toInt32) hx hb dX7_between_23 rfl ?_
      refine lv_topi (fun y_23 ey_23 => ?_)
      exact k_ri B hP hD hS dX7_between_24 () [] rfl rfl rfl (Nat.le_of_ble_eq_true rfl) (Nat.le_of_ble_eq_true rfl) trivial
    · have c_15 : 0 < y_14 := i_nle c_15
      have f_18_2 : iR y_14 1 2147483647 := iR_ltR c_15 (iR_c (n := 0) (by decide +kernel) (by decide +kernel)) (iR_top _) (by decide +kernel)
      have lc_15 : y_13 < x0 := l_cmpgt ey_14 c_15
      refine lv_iload_n hx hb dX7_between_18 rfl (lv_at hl 2 rfl) ?_
      refine lv_goto (tgt := 24) hx hb dX7_between_19 (by decide) ?_
      exact k_ri B hP hD hS dX7_between_24 () [] rfl rfl rfl (Nat.le_of_ble_eq_true rfl) (Nat.le_of_ble_eq_true rfl) trivial
  · have c_4 : y_3 < 0 := i_nle c_4
    have f_7_1 : iR y_3 (-2147483648) (-1) := iR_ltL c_4 (iR_top _) (iR_c (n := 0) (by decide +kernel) (by decide +kernel)) (by decide +kernel)
    have lc_4 : x0 < y_2 := l_cmplt ey_3 c_4
    refine lv_iload_n hx hb dX7_between_7 rfl (lv_at hl 1 rfl) ?_
    refine lv_goto (tgt := 24) hx hb dX7_between_8 (by decide) ?_
    exact k_ri B hP hD hS dX7_between_24 () [] rfl rfl rfl (Nat.le_of_ble_eq_true rfl) (Nat.le_of_ble_eq_true rfl) trivial
set_option maxHeartbeats 8000000 in
set_option maxRecDepth 100000 in
theorem s_X7_end_v0 (l : Launch) (dC : Nat → ClassId) (dI : Nat → Nat → Nat) (cI cJ cZ cM : ClassId) (h : Nat) (r : Nat → Nat) (i : Nat → Int32) (j : Nat → Int64) (x1 : Int32) (f48 : Nat → Int32) (hI : mR i) : k_Mi l yX7_end wsX7_end ({ frames := 2, cells := 0, slots := 0, locals := 61 }) (dC, dI) vwCl (tyy cI cJ cZ cM) [(h, .inr (7, oM r i j)), ((r 48), .inl (cI, 6, .inl f48))] [.ref h, .int x1] 0 0 (fun (u9 : SU) => [(h, .inr (7, oM r (upd i 1 (u9.1 0)) j)), ((r 48), .inl (cI, 6, .inl (u9.2.2.1 0)))]) (fun (r9 : Int32) (u9 : SU) => (iR r9 0 1) ∧ (iR (u9.1 0) 0 1600)) := by
  refine fun sz => k_enter (cc := cX7_end) (maxL := 2) (ret := some (.boolean)) (Qc := fun A => va_Qi (fun (r9 : Int32) (u9 : SU) => (iR r9 0 1) ∧ (iR (u9.1 0) 0 1600)) (fun u => k_B (dC, dI) vwCl (tyy cI cJ cZ cM) A ((fun (u9 : SU) => [(h, .inr (7, oM r (upd i 1 (u9.1 0)) j)), ((r 48), .inl (cI, 6, .inl (u9.2.2.1 0)))]) u)) A) sz (by decide +kernel) rfl (Nat.le_of_ble_eq_true rfl) (fun p e s m args below meth c A ls H locs B hP hD hS hl => ?_)
  obtain ⟨hx, hb, hml, hown, hts, hr, hlk, hnm, hK, hA, hN, hC⟩ := id B
  have hown : s.vm.findClass RX7 = some m.cls := hown
  have hl : lv_has ls 2 [(0, .ref h), (1, .int x1)] := hl
  have w_0 : (Cond.fieldLink RX7 13 "WishSeaModel" "taped" "I").before args s = true := hts _ (List.mem_of_getElem? (i := 1) rfl)
  have hinX7 : ∀ w ∈ u_ws RX7 TX7 92, w ∈ wsX7_end := fun _ h => List.mem_cons_of_mem _ (List.mem_append_right _ h)
  refine lv_iload_n hx hb dX7_end_0 rfl (lv_at hl 1 rfl) ?_
  have J_12 : ∀   (H : Heap) (locs : List Loc) (ls : Array Slot), va_P (dC, dI) vwCl [(h, .inr (7, oM r i j)), ((r 48), .inl (cI, 6, .inl f48))] H → va_D A [(h, .inr (7, oM r i j)), ((r 48), .inl (cI, 6, .inl f48))] → va_S A s.heap H locs → lv_has ls 2 [(0, .ref h)] → W p l e ({ frames := 2, cells := 0, slots := 0, locals := 61 }) s m args below meth c H locs 0 0 (MQ below (va_Qi (fun (r9 : Int32) (u9 : SU) => (iR r9 0 1) ∧ (iR (u9.1 0) 0 1600)) (fun u => k_B (dC, dI) vwCl (tyy cI cJ cZ cM) A ((fun (u9 : SU) => [(h, .inr (7, oM r (upd i 1 (u9.1 0)) j)), ((r 48), .inl (cI, 6, .inl (u9.2.2.1 0)))]) u)) A) args s 0 0 A) (F0 m 12 ls []) := by
    intro   H locs ls hP hD hS hl
    refine lv_aload_n hx hb dX7_end_12 rfl (lv_at hl 0 rfl) ?_
    refine lv_iconst (v := 0) hx hb dX7_end_13 (by decide +kernel) ?_
    refine k_ci (wc := [(h, .inr (7, oM r i j)), ((r 48), .inl (cI, 6, .inl f48))]) (wr := []) (fun hPc hDc hFc => va_runV (As := [.int 0]) (rest := []) ⟨hx, hb, hml, hown, hts⟩ (s_X7_refuses_v1 l dC dI cI cJ cZ cM h r i j 0 f48 (iR_c (n := 0) (by decide +kernel) (by decide +kernel)) hI H.size) (cwV 1 hts gX7_end_X7_refuses rfl rfl rfl (by decide +kernel) ⟨(Nat.le_of_ble_eq_true rfl), (Nat.le_of_ble_eq_true rfl)⟩) (k_pV hPc hDc hK hN hC hS hFc hP (q0 := 0) (ci := 7) rfl rfl) rfl rfl hl.1 rfl (lv_room (Nat.le_of_ble_eq_true rfl)) dX7_end_14 ⟨(Nat.le_of_ble_eq_true rfl), (Nat.le_of_ble_eq_true rfl)⟩) hP hD hS hA [0, 1] [] rfl rfl rfl rfl (by decide) (fun _ => rfl) 0 0 rfl rfl (fun r_14 u_14 H locs hw hP hD hS => ?_)
    obtain g_14_0 := hw
    obtain rfl : r_14 = (-1) := g_14_0
    have hP : va_P (dC, dI) vwCl [(h, .inr (7, oM r i j)), ((r 48), .inl (cI, 6, .inl (u_14.2.2.1 0)))] H := hP
    have hD : va_D A [(h, .inr (7, oM r i j)), ((r 48), .inl (cI, 6, .inl (u_14.2.2.1 0)))] := hD
    refine lv_if_lt (tgt := 24) hx hb dX7_end_17 (by decide) (fun _ => ?_) (fun q9 => absurd q9 (by decide +kernel))
    refine lv_iconst (v := 0) hx hb dX7_end_24 (by decide +kernel) ?_
    exact k_ri B hP hD hS dX7_end_25 ((fun k9 => match k9 with | 0 => (i 1) | _ => 0), (fun _ => 0), (fun k9 => match k9 with | 0 => (u_14.2.2.1 0) | _ => (fun _ => 0)), (fun _ => (fun _ => 0)), (fun _ => 0)) [0, 1] rfl rfl rfl (Nat.le_of_ble_eq_true rfl) (Nat.le_of_ble_eq_true rfl) ⟨(iR_c (n := 0) (by decide +kernel) (by decide +kernel)), (hI 1)⟩
  refine lv_if_lt (tgt := 12) hx hb dX7_end_1 (by decide) (fun c_1 => ?_) (fun c_1 => ?_)
  · have c_1 : x1 < 0 := c_1
    have f_12_1 : iR x1 (-2147483648) (-1) := iR_ltL c_1 (iR_top _) (iR_c (n := 0) (by decide +kernel) (by decide +kernel)) (by decide +kernel)
    exact J_12   H locs ls hP hD hS (lv_sub hl [0] rfl)
  · have c_1 : 0 ≤ x1 := i_nlt c_1
    have f_4_1 : iR x1 0 2147483647 := iR_leR c_1 (iR_c (n := 0) (by decide +kernel) (by decide +kernel)) (iR_top _) (by decide +kernel)
    refine lv_iload_n hx hb dX7_end_4 rfl (lv_at hl 1 rfl) ?_
    refine lv_aload_n hx hb dX7_end_5 rfl (lv_at hl 0 rfl) ?_
    have f_6_2 : iR (i 1) 0 1600 := hI 1
    refine k_get (D := (dC, dI)) (ci := 7) (v := .int (i 1)) (C := RX7) (T := TX7) (N := 92) hx hb hts hinX7 hown hK hP 0 rfl rfl 1 (by decide) w_0 rfl rfl dX7_end_6 ?_
    refine lv_icmp_le (tgt := 26) hx hb dX7_end_9 (by decide) (fun c_9 => ?_) (fun c_9 => ?_)
    · have c_9 : x1 ≤ (i 1) := c_9
      have f_26_3 : iR x1 0 1600 := iR_leL c_9 f_4_1 f_6_2 (by decide +kernel)
      refine lv_aload_n hx hb dX7_end_26 rfl (lv_at hl 0 rfl) ?_
      refine lv_iload_n hx hb dX7_end_27 rfl (lv_at hl 1 rfl) ?_
      refine k_put (D := (dC, dI)) (ci := 7) (v := .int x1) (C := RX7) (T := TX7) (N := 92) (ws' := [(h, .inr (7, oM r (upd i 1 x1) j)), ((r 48), .inl (cI, 6, .inl f48))]) hx hb hts hinX7 tyX7 tyX7_ok nmX7 hown hK hP hD hS 0 rfl rfl 1 (by decide) w_0 rfl rfl rfl rfl (Nat.le_of_ble_eq_true rfl) rfl dX7_end_28 (fun H locs hP hD hS => ?_)
      refine lv_iconst (v := 1) hx hb dX7_end_31 (by decide +kernel) ?_
      exact k_ri B hP hD hS dX7_end_32 ((fun k9 => match k9 with | 0 => x1 | _ => 0), (fun _ => 0), (fun k9 => match k9 with | 0 => f48 | _ => (fun _ => 0)), (fun _ => (fun _ => 0)), (fun _ => 0)) [0, 1] rfl rfl rfl (Nat.le_of_ble_eq_true rfl) (Nat.le_of_ble_eq_true rfl) ⟨(iR_c (n := 1) (by decide +kernel) (by decide +kernel)), f_26_3⟩
    · have c_9 : (i 1) < x1 := i_nle c_9
      have f_12_3 : iR x1 1 2147483647 := iR_ltR c_9 f_6_2 f_4_1 (by decide +kernel)
      exact J_12   H locs ls hP hD hS (lv_sub hl [0] rfl)
set_option maxHeartbeats 8000000 in
set_option maxRecDepth 100000 in
theorem s_X7_draw_v0 (l : Launch) (dC : Nat → ClassId) (dI : Nat → Nat → Nat) (cI cJ cZ cM : ClassId) (h : Nat) (r : Nat → Nat) (i : Nat → Int32) (j : Nat → Int64) (x1 : Int32) (hx1 : iR x1 1 12) (hI : mR i) (hJ60 : lR (j 60) 0 2147483647) : k_Mi l yX7_draw wsX7_draw ({ frames := 1, cells := 0, slots := 0, locals := 40 }) (dC, dI) vwCl (tyy cI cJ cZ cM) [(h, .inr (7, oM r i j))] [.ref h, .int x1] 0 0 (fun (u9 : SU) => [(h, .inr (7, oM r i (vp_updL j 60 (u9.2.1 0))))]) (fun (r9 : Int32) (u9 : SU) => (iR r9 0 11) ∧ (lR (u9.2.1 0) 0 2147483647)) := by
  refine fun sz => k_enter (cc := cX7_draw) (maxL := 2) (ret := some (.int)) (Qc := fun A => va_Qi (fun (r9 : Int32) (u9 : SU) => (iR r9 0 11) ∧ (lR (u9.2.1 0) 0 2147483647)) (fun u => k_B (dC, dI) vwCl (tyy cI cJ cZ cM) A ((fun (u9 : SU) => [(h, .inr (7, oM r i (vp_updL j 60 (u9.2.1 0))))]) u)) A) sz (by decide +kernel) rfl (Nat.le_of_ble_eq_true rfl) (fun p e s m args below meth c A ls H locs B hP hD hS hl => ?_)
  obtain ⟨hx, hb, hml, hown, hts, hr, hlk, hnm, hK, hA, hN, hC⟩ := id B
  have hown : s.vm.findClass RX7 = some m.cls := hown
  have hl : lv_has ls 2 [(0, .ref h), (1, .int x1)] := hl
  have w_0 : (Cond.constantLong RX7 578 (1103515245)).before args s = true := hts _ (List.mem_of_getElem? (i := 1) rfl)
  have w_1 : (Cond.fieldLink RX7 195 "WishSeaModel" "seeds" "J").before args s = true := hts _ (List.mem_of_getElem? (i := 2) rfl)
  have w_2 : (Cond.constantLong RX7 580 (12345)).before args s = true := hts _ (List.mem_of_getElem? (i := 3) rfl)
  have w_3 : (Cond.constantLong RX7 582 (2147483648)).before args s = true := hts _ (List.mem_of_getElem? (i := 4) rfl)
  have w_4 : (Cond.constantLong RX7 584 (64)).before args s = true := hts _ (List.mem_of_getElem? (i := 5) rfl)
  have hinX7 : ∀ w ∈ u_ws RX7 TX7 92, w ∈ wsX7_draw := fun _ h => List.mem_cons_of_mem _ (List.mem_append_right _ h)
  refine lv_aload_n hx hb dX7_draw_0 rfl (lv_at hl 0 rfl) ?_
  refine lv_ldc2 (v := 1103515245) hx hb hown w_0 dX7_draw_1 ?_
  refine lv_aload_n hx hb dX7_draw_4 rfl (lv_at hl 0 rfl) ?_
  refine k_get (D := (dC, dI)) (ci := 7) (v := .long (j 60)) (C := RX7) (T := TX7) (N := 92) hx hb hts hinX7 hown hK hP 0 rfl rfl 60 (by decide) w_1 rfl rfl dX7_draw_5 ?_
  refine lv_lmul hx hb dX7_draw_8 ?_
  refine lv_topl (fun y_8 ey_8 => ?_)
  have f_8_1 : lR y_8 0 2369780942852698515 := lR_mul ey_8 (lR_c (n := 1103515245) (by decide +kernel) (by decide +kernel)) hJ60 (by decide +kernel)
  refine lv_ldc2 (v := 12345) hx hb hown w_2 dX7_draw_9 ?_
  refine lv_ladd hx hb dX7_draw_12 ?_
  refine lv_topl (fun y_12 ey_12 => ?_)
  have f_12_2 : lR y_12 12345 2369780942852710860 := lR_add ey_12 f_8_1 (lR_c (n := 12345) (by decide +kernel) (by decide +kernel)) (by decide +kernel)
  refine lv_ldc2 (v := 2147483648) hx hb hown w_3 dX7_draw_13 ?_
  refine lv_lrem hx hb dX7_draw_16 (by decide +kernel) ?_
  refine lv_topl (fun y_16 ey_16 => ?_)
  have f_16_3 : lR y_16 0 2147483647 := lR_rem ey_16 f_12_2 (lR_c (n := 2147483648) (by decide +kernel) (by decide +kernel)) (by decide +kernel)
  refine k_put (D := (dC, dI)) (ci := 7) (v := .long y_16) (C := RX7) (T := TX7) (N := 92) (ws' := [(h, .inr (7, oM r i (vp_updL j 60 y_16)))]) hx hb hts hinX7 tyX7 tyX7_ok nmX7 hown hK hP hD hS 0 rfl rfl 60 (by decide) w_1 rfl rfl rfl rfl (Nat.le_of_ble_eq_true rfl) rfl dX7_draw_17 (fun H locs hP hD hS => ?_)
  refine lv_aload_n hx hb dX7_draw_20 rfl (lv_at hl 0 rfl) ?_
  refine k_get (D := (dC, dI)) (ci := 7) (v := .long y_16) (C := RX7) (T := TX7) (N := 92) hx hb hts hinX7 hown hK hP 0 rfl rfl 60 (by decide) w_1 rfl rfl dX7_draw_21 ?_
  refine lv_ldc2 (v := 64) hx hb hown w_4 dX7_draw_24 ?_
  refine lv_ldiv hx hb dX7_draw_27 (by decide +kernel) ?_
  refine lv_topl (fun y_27 ey_27 => ?_)
  have f_27_4 : lR y_27 0 33554431 := lR_div ey_27 f_16_3 (lR_c (n := 64) (by decide +kernel) (by decide +kernel)) (by decide +kernel)
  refine lv_iload_n hx hb dX7_draw_28 rfl (lv_at hl 1 rfl) ?_
  refine lv_i2l (v := x1.toInt64) hx hb dX7_draw_29 rfl ?_
  refine lv_topl (fun y_29 ey_29 => ?_)
  have f_29_5 : lR y_29 1 12 := lR_i2l ey_29 hx1
  refine lv_lrem hx hb dX7_draw_30 (l_nz f_29_5 (by decide +kernel)) ?_
  refine lv_topl (fun y_30 ey_30 => ?_)
  have f_30_6 : lR y_30 0 11 := lR_rem ey_30 f_27_4 f_29_5 (by decide +kernel)
  refine lv_l2i (v := y_30.toInt32) hx hb dX7_draw_31 rfl ?_
  refine lv_topi (fun y_31 ey_31 => ?_)
  have f_31_7 : iR y_31 0 11 := iR_l2i ey_31 f_30_6 (by decide +kernel)
  exact k_ri B hP hD hS dX7_draw_32 ((fun _ => 0), (fun k9 => match k9 with | 0 => y_16 | _ => 0), (fun _ => (fun _ => 0)), (fun _ => (fun _ => 0)), (fun _ => 0)) [0] rfl rfl rfl (Nat.le_of_ble_eq_true rfl) (Nat.le_of_ble_eq_true rfl) ⟨f_31_7, f_16_3⟩
set_option maxHeartbeats 8000000 in
set_option maxRecDepth 100000 in
theorem s_X7_nameOf_v0 (l : Launch) (dC : Nat → ClassId) (dI : Nat → Nat → Nat) (cI cJ cZ cM : ClassId) (h : Nat) (r : Nat → Nat) (i : Nat → Int32) (j : Nat → Int64) (x1 : Int32) (x2 : Int32) (x3 : Int32) (g34 : Nat → Int64) (hx1 : iR x1 0 1) (hx2 : iR x2 0 0) (hx3 : iR x3 0 9) (hI : mR i) : k_Ml l yX7_nameOf wsX7_nameOf ({ frames := 1, cells := 0, slots := 0, locals := 40 }) (dC, dI) vwCl (tyy cI cJ cZ cM) [(h, .inr (7, oM r i j)), ((r 34), .inl (cJ, 20, .inr (.inl g34)))] [.ref h, .int x1, .int x2, .int x3] 0 0 (fun (u9 : Unit) => [(h, .inr (7, oM r i j)), ((r 34), .inl (cJ, 20, .inr (.inl g34)))]) (fun (r9 : Int64) (u9 : Unit) => True) := by
  refine fun sz => k_enter (cc := cX7_nameOf) (maxL := 4) (ret := some (.long)) (Qc := fun A => va_Ql (fun (r9 : Int64) (u9 : Unit) => True) (fun u => k_B (dC, dI) vwCl (tyy cI cJ cZ cM) A ((fun (u9 : Unit) => [(h, .inr (7, oM r i j)), ((r 34), .inl (cJ, 20, .inr (.inl g34)))]) u)) A) sz (by decide +kernel) rfl (Nat.le_of_ble_eq_true rfl) (fun p e s m args below meth c A ls H locs B hP hD hS hl => ?_)
  obtain ⟨hx, hb, hml, hown, hts, hr, hlk, hnm, hK, hA, hN, hC⟩ := id B
  have hown : s.vm.findClass RX7 = some m.cls := hown
  have hl : lv_has ls 4 [(0, .ref h), (1, .int x1), (2, .int x2), (3, .int x3)] := hl
  have w_0 : (Cond.fieldLink RX7 114 "WishSeaModel" "thingName" "[J").before args s = true := hts _ (List.mem_of_getElem? (i := 1) rfl)
  have hinX7 : ∀ w ∈ u_ws RX7 TX7 92, w ∈ wsX7_nameOf := fun _ h => List.mem_cons_of_mem _ (List.mem_append_right _ h)
  refine lv_iload_n hx hb dX7_nameOf_0 rfl (lv_at hl 2 rfl) ?_
  have J_29 : ∀ (j29_S0 : Int64) (q29_0 : x2 = 0) (q29_1 : 0 = x2) (H : Heap) (locs : List Loc) (ls : Array Slot), va_P (dC, dI) vwCl [(h, .inr (7, oM r i j)), ((r 34), .inl (cJ, 20, .inr (.inl g34)))] H → va_D A [(h, .inr (7, oM r i j)), ((r 34), .inl (cJ, 20, .inr (.inl g34)))] → va_S A s.heap H locs → lv_has ls 4 [] → W p l e ({ frames := 1, cells := 0, slots := 0, locals := 40 }) s m args below meth c H locs 0 0 (MQ below (va_Ql (fun (r9 : Int64) (u9 : Unit) => True) (fun u => k_B (dC, dI) vwCl (tyy cI cJ cZ cM) A ((fun (u9 : Unit) => [(h, .inr (7, oM r i j)), ((r 34), .inl (cJ, 20, .inr (.inl g34)))]) u)) A) args s 0 0 A) (F0 m 29 ls [.long j29_S0]) := by
    intro j29_S0 q29_0 q29_1 H locs ls hP hD hS hl
    exact k_rl B hP hD hS dX7_nameOf_29 () [0, 1] rfl rfl (Nat.le_of_ble_eq_true rfl) (Nat.le_of_ble_eq_true rfl) trivial
  refine lv_if_ne (tgt := 18) hx hb dX7_nameOf_1 (by decide) (fun c_1 => ?_) (fun c_1 => ?_)
  · exact absurd (i_eqc hx2 (iR_c (n := 0) (by decide +kernel) (by decide +kernel))) c_1
  · have c_1 : x2 = 0 := c_1
    refine lv_aload_n hx hb dX7_nameOf_4 rfl (lv_at hl 0 rfl) ?_
    refine k_get (D := (dC, dI)) (ci := 7) (v := .ref (r 34)) (C := RX7) (T := TX7) (N := 92) hx hb hts hinX7 hown hK hP 0 rfl rfl 34 (by decide) w_0 rfl rfl dX7_nameOf_5 ?_
    refine lv_bipush (v := 10) hx hb dX7_nameOf_8 (by decide +kernel) ?_
    refine lv_iload_n hx hb dX7_nameOf_10 rfl (lv_at hl 1 rfl) ?_
    refine lv_imul hx hb dX7_nameOf_11 ?_
    refine lv_topi (fun y_11 ey_11 => ?_)
    have f_11_1 : iR y_11 0 10 := iR_mul ey_11 (iR_c (n := 10) (by decide +kernel) (by decide +kernel)) hx1 (by decide +kernel)
    refine lv_iload_n hx hb dX7_nameOf_12 rfl (lv_at hl 3 rfl) ?_
    refine lv_iadd hx hb dX7_nameOf_13 ?_
    refine lv_topi (fun y_13 ey_13 => ?_)
    have f_13_2 : iR y_13 0 19 := iR_add ey_13 f_11_1 hx3 (by decide +kernel)
    refine va_lald hx hb hK hP 1 1 rfl rfl (iR_vp f_13_2 (by decide +kernel)) dX7_nameOf_14 ?_
    refine lv_goto (tgt := 29) hx hb dX7_nameOf_15 (by decide) ?_
    exact J_29 (g34 y_13.toNatClampNeg) c_1 c_1.symm H locs ls hP hD hS (lv_sub hl [] rfl)
set_option maxHeartbeats 8000000 in
set_option maxRecDepth 100000 in
theorem s_X7_givesOf_v2 (l : Launch) (dC : Nat → ClassId) (dI : Nat → Nat → Nat) (cI cJ cZ cM : ClassId) (h : Nat) (r : Nat → Nat) (i : Nat → Int32) (j : Nat → Int64) (x1 : Int32) (f20 : Nat → Int32) (hx1 : iR x1 0 11) (hI : mR i) (hf20 : aR f20 0 9) : k_Mi l yX7_givesOf wsX7_givesOf ({ frames := 1, cells := 0, slots := 0, locals := 40 }) (dC, dI) vwCl (tyy cI cJ cZ cM) [(h, .inr (7, oM r i j)), ((r 20), .inl (cI, 24, .inl f20))] [.ref h, .int x1] 0 0 (fun (u9 : Unit) => [(h, .inr (7, oM r i j)), ((r 20), .inl (cI, 24, .inl f20))]) (fun (r9 : Int32) (u9 : Unit) => (iR r9 0 9)) := by
  refine fun sz => k_enter (cc := cX7_givesOf) (maxL := 2) (ret := some (.int)) (Qc := fun A => va_Qi (fun (r9 : Int32) (u9 : Unit) => (iR r9 0 9)) (fun u => k_B (dC, dI) vwCl (tyy cI cJ cZ cM) A ((fun (u9 : Unit) => [(h, .inr (7, oM r i j)), ((r 20), .inl (cI, 24, .inl f20))]) u)) A) sz (by decide +kernel) rfl (Nat.le_of_ble_eq_true rfl) (fun p e s m args below meth c A ls H locs B hP hD hS hl => ?_)
  obtain ⟨hx, hb, hml, hown, hts, hr, hlk, hnm, hK, hA, hN, hC⟩ := id B
  have hown : s.vm.findClass RX7 = some m.cls := hown
  have hl : lv_has ls 2 [(0, .ref h), (1, .int x1)] := hl
  have w_0 : (Cond.fieldLink RX7 72 "WishSeaModel" "wishGives" "[I").before args s = true := hts _ (List.mem_of_getElem? (i := 1) rfl)
  have w_1 : (Cond.fieldLink RX7 51 "WishSeaModel" "bank" "I").before args s = true := hts _ (List.mem_of_getElem? (i := 2) rfl)
  have hinX7 : ∀ w ∈ u_ws RX7 TX7 92, w ∈ wsX7_givesOf := fun _ h => List.mem_cons_of_mem _ (List.mem_append_right _ h)
  refine lv_aload_n hx hb dX7_givesOf_0 rfl (lv_at hl 0 rfl) ?_
  refine k_get (D := (dC, dI)) (ci := 7) (v := .ref (r 20)) (C := RX7) (T := TX7) (N := 92) hx hb hts hinX7 hown hK hP 0 rfl rfl 20 (by decide) w_0 rfl rfl dX7_givesOf_1 ?_
  refine lv_bipush (v := 12) hx hb dX7_givesOf_4 (by decide +kernel) ?_
  refine lv_aload_n hx hb dX7_givesOf_6 rfl (lv_at hl 0 rfl) ?_
  have f_7_1 : iR (i 13) 0 1 := hI 13
  refine k_get (D := (dC, dI)) (ci := 7) (v := .int (i 13)) (C := RX7) (T := TX7) (N := 92) hx hb hts hinX7 hown hK hP 0 rfl rfl 13 (by decide) w_1 rfl rfl dX7_givesOf_7 ?_
  refine lv_imul hx hb dX7_givesOf_10 ?_
  refine lv_topi (fun y_10 ey_10 => ?_)
  have f_10_2 : iR y_10 0 12 := iR_mul ey_10 (iR_c (n := 12) (by decide +kernel) (by decide +kernel)) f_7_1 (by decide +kernel)
  refine lv_iload_n hx hb dX7_givesOf_11 rfl (lv_at hl 1 rfl) ?_
  refine lv_iadd hx hb dX7_givesOf_12 ?_
  refine lv_topi (fun y_12 ey_12 => ?_)
  have f_12_3 : iR y_12 0 23 := iR_add ey_12 f_10_2 hx1 (by decide +kernel)
  refine va_iald hx hb hK hP 1 0 rfl rfl (iR_vp f_12_3 (by decide +kernel)) dX7_givesOf_13 ?_
  have f_13_4 : iR (f20 y_12.toNatClampNeg) 0 9 := hf20 _
  exact k_ri B hP hD hS dX7_givesOf_14 () [0, 1] rfl rfl rfl (Nat.le_of_ble_eq_true rfl) (Nat.le_of_ble_eq_true rfl) f_13_4
set_option maxHeartbeats 8000000 in
set_option maxRecDepth 100000 in
theorem s_X7_behind_v0 (l : Launch) (dC : Nat → ClassId) (dI : Nat → Nat → Nat) (cI cJ cZ cM : ClassId) (h : Nat) (r : Nat → Nat) (i : Nat → Int32) (j : Nat → Int64) (x1 : Int32) (x2 : Int32) (f20 : Nat → Int32) (f22 : Nat → Int32) (hx1 : iR x1 0 1023) (hx2 : iR x2 0 11) (hI : mR i) (hf20 : aR f20 0 9) : k_Mi l yX7_behind wsX7_behind ({ frames := 2, cells := 0, slots := 0, locals := 61 }) (dC, dI) vwCl (tyy cI cJ cZ cM) [(h, .inr (7, oM r i j)), ((r 20), .inl (cI, 24, .inl f20)), ((r 22), .inl (cI, 24, .inl f22))] [.ref h, .int x1, .int x2] 0 0 (fun (u9 : Unit) => [(h, .inr (7, oM r i j)), ((r 20), .inl (cI, 24, .inl f20)), ((r 22), .inl (cI, 24, .inl f22))]) (fun (r9 : Int32) (u9 : Unit) => (iR r9 0 1023)) := by
  refine fun sz => k_enter (cc := cX7_behind) (maxL := 3) (ret := some (.int)) (Qc := fun A => va_Qi (fun (r9 : Int32) (u9 : Unit) => (iR r9 0 1023)) (fun u => k_B (dC, dI) vwCl (tyy cI cJ cZ cM) A ((fun (u9 : Unit) => [(h, .inr (7, oM r i j)), ((r 20), .inl (cI, 24, .inl f20)), ((r 22), .inl (cI, 24, .inl f22))]) u)) A) sz (by decide +kernel) rfl (Nat.le_of_ble_eq_true rfl) (fun p e s m args below meth c A ls H locs B hP hD hS hl => ?_)
  obtain ⟨hx, hb, hml, hown, hts, hr, hlk, hnm, hK, hA, hN, hC⟩ := id B
  have hown : s.vm.findClass RX7 = some m.cls := hown
  have hl : lv_has ls 3 [(0, .ref h), (1, .int x1), (2, .int x2)] := hl
  have w_0 : (Cond.fieldLink RX7 78 "WishSeaModel" "wishUses" "[I").before args s = true := hts _ (List.mem_of_getElem? (i := 1) rfl)
  have w_1 : (Cond.fieldLink RX7 51 "WishSeaModel" "bank" "I").before args s = true := hts _ (List.mem_of_getElem? (i := 2) rfl)
  have hinX7 : ∀ w ∈ u_ws RX7 TX7 92, w ∈ wsX7_behind := fun _ h => List.mem_cons_of_mem _ (List.mem_append_right _ h)
  refine lv_iload_n hx hb dX7_behind_0 rfl (lv_at hl 1 rfl) ?_
  refine lv_aload_n hx hb dX7_behind_1 rfl (lv_at hl 0 rfl) ?_
  refine k_get (D := (dC, dI)) (ci := 7) (v := .ref (r 22)) (C := RX7) (T := TX7) (N := 92) hx hb hts hinX7 hown hK hP 0 rfl rfl 22 (by decide) w_0 rfl rfl dX7_behind_2 ?_
  refine lv_bipush (v := 12) hx hb dX7_behind_5 (by decide +kernel) ?_
  refine lv_aload_n hx hb dX7_behind_7 rfl (lv_at hl 0 rfl) ?_
  have f_8_1 : iR (i 13) 0 1 := hI 13
  refine k_get (D := (dC, dI)) (ci := 7) (v := .int (i 13)) (C := RX7) (T := TX7) (N := 92) hx hb hts hinX7 hown hK hP 0 rfl rfl 13 (by decide) w_1 rfl rfl dX7_behind_8 ?_
  refine lv_imul hx hb dX7_behind_11 ?_
  refine lv_topi (fun y_11 ey_11 => ?_)
  have f_11_2 : iR y_11 0 12 := iR_mul ey_11 (iR_c (n := 12) (by decide +kernel) (by decide +kernel)) f_8_1 (by decide +kernel)
  refine lv_iload_n hx hb dX7_behind_12 rfl (lv_at hl 2 rfl) ?_
  refine lv_iadd hx hb dX7_behind_13 ?_
  refine lv_topi (fun y_13 ey_13 => ?_)
  have f_13_3 : iR y_13 0 23 := iR_add ey_13 f_11_2 hx2 (by decide +kernel)
  refine va_iald hx hb hK hP 2 0 rfl rfl (iR_vp f_13_3 (by decide +kernel)) dX7_behind_14 ?_
  refine lv_iconst (v := (-1)) hx hb dX7_behind_15 (by decide +kernel) ?_
  refine lv_ixor hx hb dX7_behind_16 ?_
  refine lv_topi (fun y_16 ey_16 => ?_)
  refine lv_iand hx hb dX7_behind_17 ?_
  refine lv_topi (fun y_17 ey_17 => ?_)
  have f_17_4 : iR y_17 0 1023 := iR_andL ey_17 hx1 (by decide +kernel)
  refine lv_iconst (v := 1) hx hb dX7_behind_18 (by decide +kernel) ?_
  refine lv_aload_n hx hb dX7_behind_19 rfl (lv_at hl 0 rfl) ?_
  refine lv_iload_n hx hb dX7_behind_20 rfl (lv_at hl 2 rfl) ?_
  refine k_ci (wc := [(h, .inr (7, oM r i j)), ((r 20), .inl (cI, 24, .inl f20))]) (wr := [((r 22), .inl (cI, 24, .inl f22))]) (fun hPc hDc hFc => va_runV (As := [.int x2]) (rest := [.int 1, .int y_17]) ⟨hx, hb, hml, hown, hts⟩ (s_X7_givesOf_v2 l dC dI cI cJ cZ cM h r i j x2 f20 hx2 hI hf20 H.size) (cwV 1 hts gX7_behind_X7_givesOf rfl rfl rfl (by decide +kernel) ⟨(Nat.le_of_ble_eq_true rfl), (Nat.le_of_ble_eq_true rfl)⟩) (k_pV hPc hDc hK hN hC hS hFc hP (q0 := 0) (ci := 7) rfl rfl) rfl rfl hl.1 rfl (lv_room (Nat.le_of_ble_eq_true rfl)) dX7_behind_21 ⟨(Nat.le_of_ble_eq_true rfl), (Nat.le_of_ble_eq_true rfl)⟩) hP hD hS hA [0, 1] [2] rfl rfl rfl rfl (by decide) (fun _ => rfl) 0 0 rfl rfl (fun r_21 u_21 H locs hw hP hD hS => ?_)
  obtain g_21_0 := hw
  have hP : va_P (dC, dI) vwCl [((r 22), .inl (cI, 24, .inl f22)), (h, .inr (7, oM r i j)), ((r 20), .inl (cI, 24, .inl f20))] H := hP
  have hD : va_D A [((r 22), .inl (cI, 24, .inl f22)), (h, .inr (7, oM r i j)), ((r 20), .inl (cI, 24, .inl f20))] := hD
  refine lv_ishl hx hb dX7_behind_24 ?_
  refine lv_topi (fun y_24 ey_24 => ?_)
  have f_24_5 : iR y_24 1 512 := iR_shl 9 ey_24 (iR_c (n := 1) (by decide +kernel) (by decide +kernel)) g_21_0 (by decide +kernel)
  refine lv_ior hx hb dX7_behind_25 ?_
  refine lv_topi (fun y_25 ey_25 => ?_)
  have f_25_6 : iR y_25 0 1023 := iR_or 10 ey_25 f_17_4 f_24_5 (by decide +kernel)
  exact k_ri B hP hD hS dX7_behind_26 () [1, 2, 0] rfl rfl rfl (Nat.le_of_ble_eq_true rfl) (Nat.le_of_ble_eq_true rfl) f_25_6
set_option maxHeartbeats 8000000 in
set_option maxRecDepth 100000 in
theorem s_X7_copies_v0 (l : Launch) (dC : Nat → ClassId) (dI : Nat → Nat → Nat) (cI cJ cZ cM : ClassId) (h : Nat) (r : Nat → Nat) (i : Nat → Int32) (j : Nat → Int64) (x1 : Int32) (x2 : Int32) (f49 : Nat → Int32) (f50 : Nat → Int32) (f51 : Nat → Int32) (f52 : Nat → Int32) (f53 : Nat → Int32) (f54 : Nat → Int32) (f55 : Nat → Int32) (f56 : Nat → Int32) (f57 : Nat → Int32) (hx1 : iR x1 0 21) (hx2 : iR x2 0 21) (hI : mR i) (hf49 : aR f49 0 1023) (hf50 : aR f50 0 999) (hf53 : aR f53 0 50) : k_Mv l yX7_copies wsX7_copies ({ frames := 1, cells := 0, slots := 0, locals := 40 }) (dC, dI) vwCl (tyy cI cJ cZ cM) [(h, .inr (7, oM r i j)), ((r 49), .inl (cI, 22, .inl f49)), ((r 50), .inl (cI, 22, .inl f50)), ((r 51), .inl (cI, 22, .inl f51)), ((r 52), .inl (cI, 22, .inl f52)), ((r 53), .inl (cI, 22, .inl f53)), ((r 54), .inl (cI, 1100, .inl f54)), ((r 55), .inl (cI, 1100, .inl f55)), ((r 56), .inl (cI, 1100, .inl f56)), ((r 57), .inl (cI, 1100, .inl f57))] [.ref h, .int x1, .int x2] 0 0 (fun (u9 : SU) => [(h, .inr (7, oM r i j)), ((r 49), .inl (cI, 22, .inl (upd f49 x1.toNatClampNeg (f49 x2.toNatClampNeg)))), ((r 50), .inl (cI, 22, .inl (upd f50 x1.toNatClampNeg (f50 x2.toNatClampNeg)))), ((r 51), .inl (cI, 22, .inl (upd f51 x1.toNatClampNeg (f51 x2.toNatClampNeg)))), ((r 52), .inl (cI, 22, .inl (upd f52 x1.toNatClampNeg (f52 x2.toNatClampNeg)))), ((r 53), .inl (cI, 22, .inl (upd f53 x1.toNatClampNeg (f53 x2.toNatClampNeg)))), ((r 54), .inl (cI, 1100, .inl (u9.2.2.1 0))), ((r 55), .inl (cI, 1100, .inl (u9.2.2.1 1))), ((r 56), .inl (cI, 1100, .inl (u9.2.2.1 2))), ((r 57), .inl (cI, 1100, .inl (u9.2.2.1 3)))]) (fun (u9 : SU) => True) := by
  refine fun sz => k_enter (cc := cX7_copies) (maxL := 4) (ret := none) (Qc := fun A => va_Qv (fun (u9 : SU) => True) (fun u => k_B (dC, dI) vwCl (tyy cI cJ cZ cM) A ((fun (u9 : SU) => [(h, .inr (7, oM r i j)), ((r 49), .inl (cI, 22, .inl (upd f49 x1.toNatClampNeg (f49 x2.toNatClampNeg)))), ((r 50), .inl (cI, 22, .inl (upd f50 x1.toNatClampNeg (f50 x2.toNatClampNeg)))), ((r 51), .inl (cI, 22, .inl (upd f51 x1.toNatClampNeg (f51 x2.toNatClampNeg)))), ((r 52), .inl (cI, 22, .inl (upd f52 x1.toNatClampNeg (f52 x2.toNatClampNeg)))), ((r 53), .inl (cI, 22, .inl (upd f53 x1.toNatClampNeg (f53 x2.toNatClampNeg)))), ((r 54), .inl (cI, 1100, .inl (u9.2.2.1 0))), ((r 55), .inl (cI, 1100, .inl (u9.2.2.1 1))), ((r 56), .inl (cI, 1100, .inl (u9.2.2.1 2))), ((r 57), .inl (cI, 1100, .inl (u9.2.2.1 3)))]) u)) A) sz (by decide +kernel) rfl (Nat.le_of_ble_eq_true rfl) (fun p e s m args below meth c A ls H locs B hP hD hS hl => ?_)
  obtain ⟨hx, hb, hml, hown, hts, hr, hlk, hnm, hK, hA, hN, hC⟩ := id B
  have hown : s.vm.findClass RX7 = some m.cls := hown
  have hl : lv_has ls 4 [(0, .ref h), (1, .int x1), (2, .int x2)] := hl
  have w_0 : (Cond.fieldLink RX7 162 "WishSeaModel" "hadOf" "[I").before args s = true := hts _ (List.mem_of_getElem? (i := 1) rfl)
  have w_1 : (Cond.fieldLink RX7 165 "WishSeaModel" "seaOf" "[I").before args s = true := hts _ (List.mem_of_getElem? (i := 2) rfl)
  have w_2 : (Cond.fieldLink RX7 168 "WishSeaModel" "saidOf" "[I").before args s = true := hts _ (List.mem_of_getElem? (i := 3) rfl)
  have w_3 : (Cond.fieldLink RX7 171 "WishSeaModel" "dayOf" "[I").before args s = true := hts _ (List.mem_of_getElem? (i := 4) rfl)
  have w_4 : (Cond.fieldLink RX7 174 "WishSeaModel" "keptMany" "[I").before args s = true := hts _ (List.mem_of_getElem? (i := 5) rfl)
  have w_5 : (Cond.fieldLink RX7 177 "WishSeaModel" "keptDay" "[I").before args s = true := hts _ (List.mem_of_getElem? (i := 6) rfl)
  have w_6 : (Cond.fieldLink RX7 180 "WishSeaModel" "keptWish" "[I").before args s = true := hts _ (List.mem_of_getElem? (i := 7) rfl)
  have w_7 : (Cond.fieldLink RX7 183 "WishSeaModel" "keptSea" "[I").before args s = true := hts _ (List.mem_of_getElem? (i := 8) rfl)
  have w_8 : (Cond.fieldLink RX7 186 "WishSeaModel" "keptFell" "[I").before args s = true := hts _ (List.mem_of_getElem? (i := 9) rfl)
  have hinX7 : ∀ w ∈ u_ws RX7 TX7 92, w ∈ wsX7_copies := fun _ h => List.mem_cons_of_mem _ (List.mem_append_right _ h)
  refine lv_aload_n hx hb dX7_copies_0 rfl (lv_at hl 0 rfl) ?_
  refine k_get (D := (dC, dI)) (ci := 7) (v := .ref (r 49)) (C := RX7) (T := TX7) (N := 92) hx hb hts hinX7 hown hK hP 0 rfl rfl 49 (by decide) w_0 rfl rfl dX7_copies_1 ?_
  refine lv_iload_n hx hb dX7_copies_4 rfl (lv_at hl 1 rfl) ?_
  refine lv_aload_n hx hb dX7_copies_5 rfl (lv_at hl 0 rfl) ?_
  refine k_get (D := (dC, dI)) (ci := 7) (v := .ref (r 49)) (C := RX7) (T := TX7) (N := 92) hx hb hts hinX7 hown hK hP 0 rfl rfl 49 (by decide) w_0 rfl rfl dX7_copies_6 ?_
  refine lv_iload_n hx hb dX7_copies_9 rfl (lv_at hl 2 rfl) ?_
  refine va_iald hx hb hK hP 1 0 rfl rfl (iR_vp hx2 (by decide +kernel)) dX7_copies_10 ?_
  have f_10_1 : iR (f49 x2.toNatClampNeg) 0 1023 := hf49 _
  refine s_iast (g := (upd f49 x1.toNatClampNeg (f49 x2.toNatClampNeg))) (ws' := [(h, .inr (7, oM r i j)), ((r 49), .inl (cI, 22, .inl (upd f49 x1.toNatClampNeg (f49 x2.toNatClampNeg)))), ((r 50), .inl (cI, 22, .inl f50)), ((r 51), .inl (cI, 22, .inl f51)), ((r 52), .inl (cI, 22, .inl f52)), ((r 53), .inl (cI, 22, .inl f53)), ((r 54), .inl (cI, 1100, .inl f54)), ((r 55), .inl (cI, 1100, .inl f55)), ((r 56), .inl (cI, 1100, .inl f56)), ((r 57), .inl (cI, 1100, .inl f57))]) hx hb hK hP hD hS 1 0 rfl rfl (iR_vp hx1 (by decide +kernel)) rfl rfl dX7_copies_11 (fun H locs hP hD hS => ?_)
  refine lv_aload_n hx hb dX7_copies_12 rfl (lv_at hl 0 rfl) ?_
  refine k_get (D := (dC, dI)) (ci := 7) (v := .ref (r 50)) (C := RX7) (T := TX7) (N := 92) hx hb hts hinX7 hown hK hP 0 rfl rfl 50 (by decide) w_1 rfl rfl dX7_copies_13 ?_
  refine lv_iload_n hx hb dX7_copies_16 rfl (lv_at hl 1 rfl) ?_
  refine lv_aload_n hx hb dX7_copies_17 rfl (lv_at hl 0 rfl) ?_
  refine k_get (D := (dC, dI)) (ci := 7) (v := .ref (r 50)) (C := RX7) (T := TX7) (N := 92) hx hb hts hinX7 hown hK hP 0 rfl rfl 50 (by decide) w_1 rfl rfl dX7_copies_18 ?_
  refine lv_iload_n hx hb dX7_copies_21 rfl (lv_at hl 2 rfl) ?_
  refine va_iald hx hb hK hP 2 0 rfl rfl (iR_vp hx2 (by decide +kernel)) dX7_copies_22 ?_
  have f_22_2 : iR (f50 x2.toNatClampNeg) 0 999 := hf50 _
  refine s_iast (g := (upd f50 x1.toNatClampNeg (f50 x2.toNatClampNeg))) (ws' := [(h, .inr (7, oM r i j)), ((r 49), .inl (cI, 22, .inl (upd f49 x1.toNatClampNeg (f49 x2.toNatClampNeg)))), ((r 50), .inl (cI, 22, .inl (upd f50 x1.toNatClampNeg (f50 x2.toNatClampNeg)))), ((r 51), .inl (cI, 22, .inl f51)), ((r 52), .inl (cI, 22, .inl f52)), ((r 53), .inl (cI, 22, .inl f53)), ((r 54), .inl (cI, 1100, .inl f54)), ((r 55), .inl (cI, 1100, .inl f55)), ((r 56), .inl (cI, 1100, .inl f56)), ((r 57), .inl (cI, 1100, .inl f57))]) hx hb hK hP hD hS 2 0 rfl rfl (iR_vp hx1 (by decide +kernel)) rfl rfl dX7_copies_23 (fun H locs hP hD hS => ?_)
  refine lv_aload_n hx hb dX7_copies_24 rfl (lv_at hl 0 rfl) ?_
  refine k_get (D := (dC, dI)) (ci := 7) (v := .ref (r 51)) (C := RX7) (T := TX7) (N := 92) hx hb hts hinX7 hown hK hP 0 rfl rfl 51 (by decide) w_2 rfl rfl dX7_copies_25 ?_
  refine lv_iload_n hx hb dX7_copies_28 rfl (lv_at hl 1 rfl) ?_
  refine lv_aload_n hx hb dX7_copies_29 rfl (lv_at hl 0 rfl) ?_
  refine k_get (D := (dC, dI)) (ci := 7) (v := .ref (r 51)) (C := RX7) (T := TX7) (N := 92) hx hb hts hinX7 hown hK hP 0 rfl rfl 51 (by decide) w_2 rfl rfl dX7_copies_30 ?_
  refine lv_iload_n hx hb dX7_copies_33 rfl (lv_at hl 2 rfl) ?_
  refine va_iald hx hb hK hP 3 0 rfl rfl (iR_vp hx2 (by decide +kernel)) dX7_copies_34 ?_
  refine s_iast (g := (upd f51 x1.toNatClampNeg (f51 x2.toNatClampNeg))) (ws' := [(h, .inr (7, oM r i j)), ((r 49), .inl (cI, 22, .inl (upd f49 x1.toNatClampNeg (f49 x2.toNatClampNeg)))), ((r 50), .inl (cI, 22, .inl (upd f50 x1.toNatClampNeg (f50 x2.toNatClampNeg)))), ((r 51), .inl (cI, 22, .inl (upd f51 x1.toNatClampNeg (f51 x2.toNatClampNeg)))), ((r 52), .inl (cI, 22, .inl f52)), ((r 53), .inl (cI, 22, .inl f53)), ((r 54), .inl (cI, 1100, .inl f54)), ((r 55), .inl (cI, 1100, .inl f55)), ((r 56), .inl (cI, 1100, .inl f56)), ((r 57), .inl (cI, 1100, .inl f57))]) hx hb hK hP hD hS 3 0 rfl rfl (iR_vp hx1 (by decide +kernel)) rfl rfl dX7_copies_35 (fun H locs hP hD hS => ?_)
  refine lv_aload_n hx hb dX7_copies_36 rfl (lv_at hl 0 rfl) ?_
  refine k_get (D := (dC, dI)) (ci := 7) (v := .ref (r 52)) (C := RX7) (T := TX7) (N := 92) hx hb hts hinX7 hown hK hP 0 rfl rfl 52 (by decide) w_3 rfl rfl dX7_copies_37 ?_
  refine lv_iload_n hx hb dX7_copies_40 rfl (lv_at hl 1 rfl) ?_
  refine lv_aload_n hx hb dX7_copies_41 rfl (lv_at hl 0 rfl) ?_
  refine k_get (D := (dC, dI)) (ci := 7) (v := .ref (r 52)) (C := RX7) (T := TX7) (N := 92) hx hb hts hinX7 hown hK hP 0 rfl rfl 52 (by decide) w_3 rfl rfl dX7_copies_42 ?_
  refine lv_iload_n hx hb dX7_copies_45 rfl (lv_at hl 2 rfl) ?_
  refine va_iald hx hb hK hP 4 0 rfl rfl (iR_vp hx2 (by decide +kernel)) dX7_copies_46 ?_
  refine s_iast (g := (upd f52 x1.toNatClampNeg (f52 x2.toNatClampNeg))) (ws' := [(h, .inr (7, oM r i j)), ((r 49), .inl (cI, 22, .inl (upd f49 x1.toNatClampNeg (f49 x2.toNatClampNeg)))), ((r 50), .inl (cI, 22, .inl (upd f50 x1.toNatClampNeg (f50 x2.toNatClampNeg)))), ((r 51), .inl (cI, 22, .inl (upd f51 x1.toNatClampNeg (f51 x2.toNatClampNeg)))), ((r 52), .inl (cI, 22, .inl (upd f52 x1.toNatClampNeg (f52 x2.toNatClampNeg)))), ((r 53), .inl (cI, 22, .inl f53)), ((r 54), .inl (cI, 1100, .inl f54)), ((r 55), .inl (cI, 1100, .inl f55)), ((r 56), .inl (cI, 1100, .inl f56)), ((r 57), .inl (cI, 1100, .inl f57))]) hx hb hK hP hD hS 4 0 rfl rfl (iR_vp hx1 (by decide +kernel)) rfl rfl dX7_copies_47 (fun H locs hP hD hS => ?_)
  refine lv_aload_n hx hb dX7_copies_48 rfl (lv_at hl 0 rfl) ?_
  refine k_get (D := (dC, dI)) (ci := 7) (v := .ref (r 53)) (C := RX7) (T := TX7) (N := 92) hx hb hts hinX7 hown hK hP 0 rfl rfl 53 (by decide) w_4 rfl rfl dX7_copies_49 ?_
  refine lv_iload_n hx hb dX7_copies_52 rfl (lv_at hl 1 rfl) ?_
  refine lv_aload_n hx hb dX7_copies_53 rfl (lv_at hl 0 rfl) ?_
  refine k_get (D := (dC, dI)) (ci := 7) (v := .ref (r 53)) (C := RX7) (T := TX7) (N := 92) hx hb hts hinX7 hown hK hP 0 rfl rfl 53 (by decide) w_4 rfl rfl dX7_copies_54 ?_
  refine lv_iload_n hx hb dX7_copies_57 rfl (lv_at hl 2 rfl) ?_
  refine va_iald hx hb hK hP 5 0 rfl rfl (iR_vp hx2 (by decide +kernel)) dX7_copies_58 ?_
  have f_58_3 : iR (f53 x2.toNatClampNeg) 0 50 := hf53 _
  refine s_iast (g := (upd f53 x1.toNatClampNeg (f53 x2.toNatClampNeg))) (ws' := [(h, .inr (7, oM r i j)), ((r 49), .inl (cI, 22, .inl (upd f49 x1.toNatClampNeg (f49 x2.toNatClampNeg)))), ((r 50), .inl (cI, 22, .inl (upd f50 x1.toNatClampNeg (f50 x2.toNatClampNeg)))), ((r 51), .inl (cI, 22, .inl (upd f51 x1.toNatClampNeg (f51 x2.toNatClampNeg)))), ((r 52), .inl (cI, 22, .inl (upd f52 x1.toNatClampNeg (f52 x2.toNatClampNeg)))), ((r 53), .inl (cI, 22, .inl (upd f53 x1.toNatClampNeg (f53 x2.toNatClampNeg)))), ((r 54), .inl (cI, 1100, .inl f54)), ((r 55), .inl (cI, 1100, .inl f55)), ((r 56), .inl (cI, 1100, .inl f56)), ((r 57), .inl (cI, 1100, .inl f57))]) hx hb hK hP hD hS 5 0 rfl rfl (iR_vp hx1 (by decide +kernel)) rfl rfl dX7_copies_59 (fun H locs hP hD hS => ?_)
  refine lv_iconst (v := 0) hx hb dX7_copies_60 (by decide +kernel) ?_
  have J_62 : ∀ (n_62 : Nat) (j62_A6 : Nat → Int32) (j62_A7 : Nat → Int32) (j62_A8 : Nat → Int32) (j62_A9 : Nat → Int32) (j62_L3 : Int32) (hj62_L3 : iR j62_L3 0 50) (hm_62 : (50 - j62_L3.toInt).toNat < n_62) (H : Heap) (locs : List Loc) (ls : Array Slot), va_P (dC, dI) vwCl [(h, .inr (7, oM r i j)), ((r 49), .inl (cI, 22, .inl (upd f49 x1.toNatClampNeg (f49 x2.toNatClampNeg)))), ((r 50), .inl (cI, 22, .inl (upd f50 x1.toNatClampNeg (f50 x2.toNatClampNeg)))), ((r 51), .inl (cI, 22, .inl (upd f51 x1.toNatClampNeg (f51 x2.toNatClampNeg)))), ((r 52), .inl (cI, 22, .inl (upd f52 x1.toNatClampNeg (f52 x2.toNatClampNeg)))), ((r 53), .inl (cI, 22, .inl (upd f53 x1.toNatClampNeg (f53 x2.toNatClampNeg)))), ((r 54), .inl (cI, 1100, .inl j62_A6)), ((r 55), .inl (cI, 1100, .inl j62_A7)), ((r 56), .inl (cI, 1100, .inl j62_A8)), ((r 57), .inl (cI, 1100, .inl j62_A9))] H → va_D A [(h, .inr (7, oM r i j)), ((r 49), .inl (cI, 22, .inl (upd f49 x1.toNatClampNeg (f49 x2.toNatClampNeg)))), ((r 50), .inl (cI, 22, .inl (upd f50 x1.toNatClampNeg (f50 x2.toNatClampNeg)))), ((r 51), .inl (cI, 22, .inl (upd f51 x1.toNatClampNeg (f51 x2.toNatClampNeg)))), ((r 52), .inl (cI, 22, .inl (upd f52 x1.toNatClampNeg (f52 x2.toNatClampNeg)))), ((r 53), .inl (cI, 22, .inl (upd f53 x1.toNatClampNeg (f53 x2.toNatClampNeg)))), ((r 54), .inl (cI, 1100, .inl j62_A6)), ((r 55), .inl (cI, 1100, .inl j62_A7)), ((r 56), .inl (cI, 1100, .inl j62_A8)), ((r 57), .inl (cI, 1100, .inl j62_A9))] → va_S A s.heap H locs → lv_has ls 4 [(0, .ref h), (1, .int x1), (2, .int x2), (3, .int j62_L3)] → W p l e ({ frames := 1, cells := 0, slots := 0, locals := 40 }) s m args below meth c H locs 0 0 (MQ below (va_Qv (fun (u9 : SU) => True) (fun u => k_B (dC, dI) vwCl (tyy cI cJ cZ cM) A ((fun (u9 : SU) => [(h, .inr (7, oM r i j)), ((r 49), .inl (cI, 22, .inl (upd f49 x1.toNatClampNeg (f49 x2.toNatClampNeg)))), ((r 50), .inl (cI, 22, .inl (upd f50 x1.toNatClampNeg (f50 x2.toNatClampNeg)))), ((r 51), .inl (cI, 22, .inl (upd f51 x1.toNatClampNeg (f51 x2.toNatClampNeg)))), ((r 52), .inl (cI, 22, .inl (upd f52 x1.toNatClampNeg (f52 x2.toNatClampNeg)))), ((r 53), .inl (cI, 22, .inl (upd f53 x1.toNatClampNeg (f53 x2.toNatClampNeg)))), ((r 54), .inl (cI, 1100, .inl (u9.2.2.1 0))), ((r 55), .inl (cI, 1100, .inl (u9.2.2.1 1))), ((r 56), .inl (cI, 1100, .inl (u9.2.2.1 2))), ((r 57), .inl (cI, 1100, .inl (u9.2.2.1 3)))]) u)) A) args s 0 0 A) (F0 m 62 ls []) := by
    intro n_62
    induction n_62 with
    | zero => intro j62_A6 j62_A7 j62_A8 j62_A9 j62_L3 hj62_L3 hm_62; exact absurd hm_62 (Nat.not_lt_zero _)
    | succ n_62 ih_62 =>
      intro j62_A6 j62_A7 j62_A8 j62_A9 j62_L3 hj62_L3 hm_62 H locs ls hP hD hS hl
      refine lv_iload_n hx hb dX7_copies_62 rfl (lv_at hl 3 rfl) ?_
      refine lv_aload_n hx hb dX7_copies_63 rfl (lv_at hl 0 rfl) ?_
      refine k_get (D := (dC, dI)) (ci := 7) (v := .ref (r 53)) (C := RX7) (T := TX7) (N := 92) hx hb hts hinX7 hown hK hP 0 rfl rfl 53 (by decide) w_4 rfl rfl dX7_copies_64 ?_
      refine lv_iload_n hx hb dX7_copies_67 rfl (lv_at hl 2 rfl) ?_
      refine va_iald hx hb hK hP 5 0 rfl rfl (iR_vp hx2 (by decide +kernel)) dX7_copies_68 ?_
      refine lv_topi (fun y_68 ey_68 => ?_)
      have f_68_1 : iR y_68 0 50 := iR_of ey_68 ((aR_upd _ hf53 f_58_3) _)
      refine lv_icmp_ge (tgt := 166) hx hb dX7_copies_69 (by decide) (fun c_69 => ?_) (fun c_69 => ?_)
      · have c_69 : y_68 ≤ j62_L3 := c_69
        exact k_rv B hP hD hS dX7_copies_166 ((fun _ => 0), (fun _ => 0), (fun k9 => match k9 with | 0 => j62_A6 | 1 => j62_A7 | 2 => j62_A8 | 3 => j62_A9 | _ => (fun _ => 0)), (fun _ => (fun _ => 0)), (fun _ => 0)) [0, 1, 2, 3, 4, 5, 6, 7, 8, 9] rfl rfl (Nat.le_of_ble_eq_true rfl) (Nat.le_of_ble_eq_true rfl) trivial
      · have c_69 : j62_L3 < y_68 := i_nle c_69
        have f_72_2 : iR j62_L3 0 49 := iR_ltL c_69 hj62_L3 f_68_1 (by decide +kernel)
        have f_72_3 : iR y_68 1 50 := iR_ltR c_69 hj62_L3 f_68_1 (by decide +kernel)
        refine lv_aload_n hx hb dX7_copies_72 rfl (lv_at hl 0 rfl) ?_
        refine k_get (D := (dC, dI)) (ci := 7) (v := .ref (r 54)) (C := RX7) (T := TX7) (N := 92) hx hb hts hinX7 hown hK hP 0 rfl rfl 54 (by decide) w_5 rfl rfl dX7_copies_73 ?_
        refine lv_bipush (v := 50) hx hb dX7_copies_76 (by decide +kernel) ?_
        refine lv_iload_n hx hb dX7_copies_78 rfl (lv_at hl 1 rfl) ?_
        refine lv_imul hx hb dX7_copies_79 ?_
        refine lv_topi (fun y_79 ey_79 => ?_)
        have f_79_4 : iR y_79 0 1050 := iR_mul ey_79 (iR_c (n := 50) (by decide +kernel) (by decide +kernel)) hx1 (by decide +kernel)
        refine lv_iload_n hx hb dX7_copies_80 rfl (lv_at hl 3 rfl) ?_
        refine lv_iadd hx hb dX7_copies_81 ?_
        refine lv_topi (fun y_81 ey_81 => ?_)
        have f_81_5 : iR y_81 0 1099 := iR_add ey_81 f_79_4 f_72_2 (by decide +kernel)
        refine lv_aload_n hx hb dX7_copies_82 rfl (lv_at hl 0 rfl) ?_
        refine k_get (D := (dC, dI)) (ci := 7) (v := .ref (r 54)) (C := RX7) (T := TX7) (N := 92) hx hb hts hinX7 hown hK hP 0 rfl rfl 54 (by decide) w_5 rfl rfl dX7_copies_83 ?_
        refine lv_bipush (v := 50) hx hb dX7_copies_86 (by decide +kernel) ?_
        refine lv_iload_n hx hb dX7_copies_88 rfl (lv_at hl 2 rfl) ?_
        refine lv_imul hx hb dX7_copies_89 ?_
        refine lv_topi (fun y_89 ey_89 => ?_)
        have f_89_6 : iR y_89 0 1050 := iR_mul ey_89 (iR_c (n := 50) (by decide +kernel) (by decide +kernel)) hx2 (by decide +kernel)
        refine lv_iload_n hx hb dX7_copies_90 rfl (lv_at hl 3 rfl) ?_
        refine lv_iadd hx hb dX7_copies_91 ?_
        refine lv_topi (fun y_91 ey_91 => ?_)
        have f_91_7 : iR y_91 0 1099 := iR_add ey_91 f_89_6 f_72_2 (by decide +kernel)
        refine va_iald hx hb hK hP 6 0 rfl rfl (iR_vp f_91_7 (by decide +kernel)) dX7_copies_92 ?_
        refine s_iast (g := (upd j62_A6 y_81.toNatClampNeg (j62_A6 y_91.toNatClampNeg))) (ws' := [(h, .inr (7, oM r i j)), ((r 49), .inl (cI, 22, .inl (upd f49 x1.toNatClampNeg (f49 x2.toNatClampNeg)))), ((r 50), .inl (cI, 22, .inl (upd f50 x1.toNatClampNeg (f50 x2.toNatClampNeg)))), ((r 51), .inl (cI, 22, .inl (upd f51 x1.toNatClampNeg (f51 x2.toNatClampNeg)))), ((r 52), .inl (cI, 22, .inl (upd f52 x1.toNatClampNeg (f52 x2.toNatClampNeg)))), ((r 53), .inl (cI, 22, .inl (upd f53 x1.toNatClampNeg (f53 x2.toNatClampNeg)))), ((r 54), .inl (cI, 1100, .inl (upd j62_A6 y_81.toNatClampNeg (j62_A6 y_91.toNatClampNeg)))), ((r 55), .inl (cI, 1100, .inl j62_A7)), ((r 56), .inl (cI, 1100, .inl j62_A8)), ((r 57), .inl (cI, 1100, .inl j62_A9))]) hx hb hK hP hD hS 6 0 rfl rfl (iR_vp f_81_5 (by decide +kernel)) rfl rfl dX7_copies_93 (fun H locs hP hD hS => ?_)
        refine lv_aload_n hx hb dX7_copies_94 rfl (lv_at hl 0 rfl) ?_
        refine k_get (D := (dC, dI)) (ci := 7) (v := .ref (r 55)) (C := RX7) (T := TX7) (N := 92) hx hb hts hinX7 hown hK hP 0 rfl rfl 55 (by decide) w_6 rfl rfl dX7_copies_95 ?_
        refine lv_bipush (v := 50) hx hb dX7_copies_98 (by decide +kernel) ?_
        refine lv_iload_n hx hb dX7_copies_100 rfl (lv_at hl 1 rfl) ?_
        refine lv_imul hx hb dX7_copies_101 ?_
        refine lv_topi (fun y_101 ey_101 => ?_)
        have f_101_8 : iR y_101 0 1050 := iR_mul ey_101 (iR_c (n := 50) (by decide +kernel) (by decide +kernel)) hx1 (by decide +kernel)
        refine lv_iload_n hx hb dX7_copies_102 rfl (lv_at hl 3 rfl) ?_
        refine lv_iadd hx hb dX7_copies_103 ?_
        refine lv_topi (fun y_103 ey_103 => ?_)
        have f_103_9 : iR y_103 0 1099 := iR_add ey_103 f_101_8 f_72_2 (by decide +kernel)
        refine lv_aload_n hx hb dX7_copies_104 rfl (lv_at hl 0 rfl) ?_
        refine k_get (D := (dC, dI)) (ci := 7) (v := .ref (r 55)) (C := RX7) (T := TX7) (N := 92) hx hb hts hinX7 hown hK hP 0 rfl rfl 55 (by decide) w_6 rfl rfl dX7_copies_105 ?_
        refine lv_bipush (v := 50) hx hb dX7_copies_108 (by decide +kernel) ?_
        refine lv_iload_n hx hb dX7_copies_110 rfl (lv_at hl 2 rfl) ?_
        refine lv_imul hx hb dX7_copies_111 ?_
        refine lv_topi (fun y_111 ey_111 => ?_)
        have f_111_10 : iR y_111 0 1050 := iR_mul ey_111 (iR_c (n := 50) (by decide +kernel) (by decide +kernel)) hx2 (by decide +kernel)
        refine lv_iload_n hx hb dX7_copies_112 rfl (lv_at hl 3 rfl) ?_
        refine lv_iadd hx hb dX7_copies_113 ?_
        refine lv_topi (fun y_113 ey_113 => ?_)
        have f_113_11 : iR y_113 0 1099 := iR_add ey_113 f_111_10 f_72_2 (by decide +kernel)
        refine va_iald hx hb hK hP 7 0 rfl rfl (iR_vp f_113_11 (by decide +kernel)) dX7_copies_114 ?_
        refine s_iast (g := (upd j62_A7 y_103.toNatClampNeg (j62_A7 y_113.toNatClampNeg))) (ws' := [(h, .inr (7, oM r i j)), ((r 49), .inl (cI, 22, .inl (upd f49 x1.toNatClampNeg (f49 x2.toNatClampNeg)))), ((r 50), .inl (cI, 22, .inl (upd f50 x1.toNatClampNeg (f50 x2.toNatClampNeg)))), ((r 51), .inl (cI, 22, .inl (upd f51 x1.toNatClampNeg (f51 x2.toNatClampNeg)))), ((r 52), .inl (cI, 22, .inl (upd f52 x1.toNatClampNeg (f52 x2.toNatClampNeg)))), ((r 53), .inl (cI, 22, .inl (upd f53 x1.toNatClampNeg (f53 x2.toNatClampNeg)))), ((r 54), .inl (cI, 1100, .inl (upd j62_A6 y_81.toNatClampNeg (j62_A6 y_91.toNatClampNeg)))), ((r 55), .inl (cI, 1100, .inl (upd j62_A7 y_103.toNatClampNeg (j62_A7 y_113.toNatClampNeg)))), ((r 56), .inl (cI, 1100, .inl j62_A8)), ((r 57), .inl (cI, 1100, .inl j62_A9))]) hx hb hK hP hD hS 7 0 rfl rfl (iR_vp f_103_9 (by decide +kernel)) rfl rfl dX7_copies_115 (fun H locs hP hD hS => ?_)
        refine lv_aload_n hx hb dX7_copies_116 rfl (lv_at hl 0 rfl) ?_
        refine k_get (D := (dC, dI)) (ci := 7) (v := .ref (r 56)) (C := RX7) (T := TX7) (N := 92) hx hb hts hinX7 hown hK hP 0 rfl rfl 56 (by decide) w_7 rfl rfl dX7_copies_117 ?_
        refine lv_bipush (v := 50) hx hb dX7_copies_120 (by decide +kernel) ?_
        refine lv_iload_n hx hb dX7_copies_122 rfl (lv_at hl 1 rfl) ?_
        refine lv_imul hx hb dX7_copies_123 ?_
        refine lv_topi (fun y_123 ey_123 => ?_)
        have f_123_12 : iR y_123 0 1050 := iR_mul ey_123 (iR_c (n := 50) (by decide +kernel) (by decide +kernel)) hx1 (by decide +kernel)
        refine lv_iload_n hx hb dX7_copies_124 rfl (lv_at hl 3 rfl) ?_
        refine lv_iadd hx hb dX7_copies_125 ?_
        refine lv_topi (fun y_125 ey_125 => ?_)
        have f_125_13 : iR y_125 0 1099 := iR_add ey_125 f_123_12 f_72_2 (by decide +kernel)
        refine lv_aload_n hx hb dX7_copies_126 rfl (lv_at hl 0 rfl) ?_
        refine k_get (D := (dC, dI)) (ci := 7) (v := .ref (r 56)) (C := RX7) (T := TX7) (N := 92) hx hb hts hinX7 hown hK hP 0 rfl rfl 56 (by decide) w_7 rfl rfl dX7_copies_127 ?_
        refine lv_bipush (v := 50) hx hb dX7_copies_130 (by decide +kernel) ?_
        refine lv_iload_n hx hb dX7_copies_132 rfl (lv_at hl 2 rfl) ?_
        refine lv_imul hx hb dX7_copies_133 ?_
        refine lv_topi (fun y_133 ey_133 => ?_)
        have f_133_14 : iR y_133 0 1050 := iR_mul ey_133 (iR_c (n := 50) (by decide +kernel) (by decide +kernel)) hx2 (by decide +kernel)
        refine lv_iload_n hx hb dX7_copies_134 rfl (lv_at hl 3 rfl) ?_
        refine lv_iadd hx hb dX7_copies_135 ?_
        refine lv_topi (fun y_135 ey_135 => ?_)
        have f_135_15 : iR y_135 0 1099 := iR_add ey_135 f_133_14 f_72_2 (by decide +kernel)
        refine va_iald hx hb hK hP 8 0 rfl rfl (iR_vp f_135_15 (by decide +kernel)) dX7_copies_136 ?_
        refine s_iast (g := (upd j62_A8 y_125.toNatClampNeg (j62_A8 y_135.toNatClampNeg))) (ws' := [(h, .inr (7, oM r i j)), ((r 49), .inl (cI, 22, .inl (upd f49 x1.toNatClampNeg (f49 x2.toNatClampNeg)))), ((r 50), .inl (cI, 22, .inl (upd f50 x1.toNatClampNeg (f50 x2.toNatClampNeg)))), ((r 51), .inl (cI, 22, .inl (upd f51 x1.toNatClampNeg (f51 x2.toNatClampNeg)))), ((r 52), .inl (cI, 22, .inl (upd f52 x1.toNatClampNeg (f52 x2.toNatClampNeg)))), ((r 53), .inl (cI, 22, .inl (upd f53 x1.toNatClampNeg (f53 x2.toNatClampNeg)))), ((r 54), .inl (cI, 1100, .inl (upd j62_A6 y_81.toNatClampNeg (j62_A6 y_91.toNatClampNeg)))), ((r 55), .inl (cI, 1100, .inl (upd j62_A7 y_103.toNatClampNeg (j62_A7 y_113.toNatClampNeg)))), ((r 56), .inl (cI, 1100, .inl (upd j62_A8 y_125.toNatClampNeg (j62_A8 y_135.toNatClampNeg)))), ((r 57), .inl (cI, 1100, .inl j62_A9))]) hx hb hK hP hD hS 8 0 rfl rfl (iR_vp f_125_13 (by decide +kernel)) rfl rfl dX7_copies_137 (fun H locs hP hD hS => ?_)
        refine lv_aload_n hx hb dX7_copies_138 rfl (lv_at hl 0 rfl) ?_
        refine k_get (D := (dC, dI)) (ci := 7) (v := .ref (r 57)) (C := RX7) (T := TX7) (N := 92) hx hb hts hinX7 hown hK hP 0 rfl rfl 57 (by decide) w_8 rfl rfl dX7_copies_139 ?_
        refine lv_bipush (v := 50) hx hb dX7_copies_142 (by decide +kernel) ?_
        refine lv_iload_n hx hb dX7_copies_144 rfl (lv_at hl 1 rfl) ?_
        refine lv_imul hx hb dX7_copies_145 ?_
        refine lv_topi (fun y_145 ey_145 => ?_)
        have f_145_16 : iR y_145 0 1050 := iR_mul ey_145 (iR_c (n := 50) (by decide +kernel) (by decide +kernel)) hx1 (by decide +kernel)
        refine lv_iload_n hx hb dX7_copies_146 rfl (lv_at hl 3 rfl) ?_
        refine lv_iadd hx hb dX7_copies_147 ?_
        refine lv_topi (fun y_147 ey_147 => ?_)
        have f_147_17 : iR y_147 0 1099 := iR_add ey_147 f_145_16 f_72_2 (by decide +kernel)
        refine lv_aload_n hx hb dX7_copies_148 rfl (lv_at hl 0 rfl) ?_
        refine k_get (D := (dC, dI)) (ci := 7) (v := .ref (r 57)) (C := RX7) (T := TX7) (N := 92) hx hb hts hinX7 hown hK hP 0 rfl rfl 57 (by decide) w_8 rfl rfl dX7_copies_149 ?_
        refine lv_bipush (v := 50) hx hb dX7_copies_152 (by decide +kernel) ?_
        refine lv_iload_n hx hb dX7_copies_154 rfl (lv_at hl 2 rfl) ?_
        refine lv_imul hx hb dX7_copies_155 ?_
        refine lv_topi (fun y_155 ey_155 => ?_)
        have f_155_18 : iR y_155 0 1050 := iR_mul ey_155 (iR_c (n := 50) (by decide +kernel) (by decide +kernel)) hx2 (by decide +kernel)
        refine lv_iload_n hx hb dX7_copies_156 rfl (lv_at hl 3 rfl) ?_
        refine lv_iadd hx hb dX7_copies_157 ?_
        refine lv_topi (fun y_157 ey_157 => ?_)
        have f_157_19 : iR y_157 0 1099 := iR_add ey_157 f_155_18 f_72_2 (by decide +kernel)
        refine va_iald hx hb hK hP 9 0 rfl rfl (iR_vp f_157_19 (by decide +kernel)) dX7_copies_158 ?_
        refine s_iast (g := (upd j62_A9 y_147.toNatClampNeg (j62_A9 y_157.toNatClampNeg))) (ws' := [(h, .inr (7, oM r i j)), ((r 49), .inl (cI, 22, .inl (upd f49 x1.toNatClampNeg (f49 x2.toNatClampNeg)))), ((r 50), .inl (cI, 22, .inl (upd f50 x1.toNatClampNeg (f50 x2.toNatClampNeg)))), ((r 51), .inl (cI, 22, .inl (upd f51 x1.toNatClampNeg (f51 x2.toNatClampNeg)))), ((r 52), .inl (cI, 22, .inl (upd f52 x1.toNatClampNeg (f52 x2.toNatClampNeg)))), ((r 53), .inl (cI, 22, .inl (upd f53 x1.toNatClampNeg (f53 x2.toNatClampNeg)))), ((r 54), .inl (cI, 1100, .inl (upd j62_A6 y_81.toNatClampNeg (j62_A6 y_91.toNatClampNeg)))), ((r 55), .inl (cI, 1100, .inl (upd j62_A7 y_103.toNatClampNeg (j62_A7 y_113.toNatClampNeg)))), ((r 56), .inl (cI, 1100, .inl (upd j62_A8 y_125.toNatClampNeg (j62_A8 y_135.toNatClampNeg)))), ((r 57), .inl (cI, 1100, .inl (upd j62_A9 y_147.toNatClampNeg (j62_A9 y_157.toNatClampNeg))))]) hx hb hK hP hD hS 9 0 rfl rfl (iR_vp f_147_17 (by decide +kernel)) rfl rfl dX7_copies_159 (fun H locs hP hD hS => ?_)
        obtain ⟨y_160, ey_160⟩ : ∃ y : Int32, y = j62_L3 + 1 := ⟨_, rfl⟩
        refine lv_iinc (v := y_160) (lv' := [(3, .int y_160), (0, .ref h), (1, .int x1), (2, .int x2)]) hx hb dX7_copies_160 hl (k := 3) rfl ey_160.symm (by decide) rfl (fun ls hl => ?_)
        have f_160_20 : iR y_160 1 50 := iR_add ey_160 f_72_2 (iR_c (n := 1) (by decide +kernel) (by decide +kernel)) (by decide +kernel)
        refine lv_goto (tgt := 62) hx hb dX7_copies_163 (by decide) ?_
        exact ih_62 (upd j62_A6 y_81.toNatClampNeg (j62_A6 y_91.toNatClampNeg)) (upd j62_A7 y_103.toNatClampNeg (j62_A7 y_113.toNatClampNeg)) (upd j62_A8 y_125.toNatClampNeg (j62_A8 y_135.toNatClampNeg)) (upd j62_A9 y_147.toNatClampNeg (j62_A9 y_157.toNatClampNeg)) y_160 (iR_w f_160_20 (by decide +kernel)) (m_up (B := 50) hm_62 ey_160 f_72_2 (by decide +kernel)) H locs ls hP hD hS (lv_sub hl [1, 2, 3, 0] rfl)
  refine lv_istore_n (lv' := [(3, .int 0), (0, .ref h), (1, .int x1), (2, .int x2)]) hx hb dX7_copies_61 rfl hl (by decide) rfl (fun ls hl => ?_)
  exact J_62 _ f54 f55 f56 f57 0 (iR_c (n := 0) (by decide +kernel) (by decide +kernel)) (Nat.lt_succ_self _) H locs ls hP hD hS (lv_sub hl [1, 2, 3, 0] rfl)
