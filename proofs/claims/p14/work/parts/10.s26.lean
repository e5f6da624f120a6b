set_option maxHeartbeats 8000000 in
set_option maxRecDepth 100000 in
theorem s_X7_counts_v4 (l : Launch) (dC : Nat → ClassId) (dI : Nat → Nat → Nat) (cI cJ cZ cM : ClassId) (h : Nat) (r : Nat → Nat) (i : Nat → Int32) (j : Nat → Int64) (f0 : Nat → Int32) (hI : mR i) (hf0 : aR f0 0 255) : k_Mi l yX7_counts wsX7_counts ({ frames := 3, cells := 0, slots := 0, locals := 87 }) (dC, dI) vwCl (tyy cI cJ cZ cM) [(h, .inr (7, oM r i j)), ((r 0), .inl (cI, 1800, .inl f0))] [.ref h, .int 0] 0 0 (fun (u9 : SU) => [(h, .inr (7, oM r (upd (upd (upd (upd (upd i 3 (u9.1 0)) 4 (u9.1 1)) 5 (u9.1 2)) 6 (u9.1 3)) 12 (u9.1 4)) (vp_updL j 7 (u9.2.1 0)))), ((r 0), .inl (cI, 1800, .inl f0))]) (fun (r9 : Int32) (u9 : SU) => (iR r9 0 1) ∧ (iR (u9.1 0) 0 3) ∧ (iR (u9.1 1) 0 1600) ∧ (iR (u9.1 2) 0 1600) ∧ (iR (u9.1 3) 0 9999)) := by
  refine fun sz => k_enter (cc := cX7_counts) (maxL := 2) (ret := some (.boolean)) (Qc := fun A => va_Qi (fun (r9 : Int32) (u9 : SU) => (iR r9 0 1) ∧ (iR (u9.1 0) 0 3) ∧ (iR (u9.1 1) 0 1600) ∧ (iR (u9.1 2) 0 1600) ∧ (iR (u9.1 3) 0 9999)) (fun u => k_B (dC, dI) vwCl (tyy cI cJ cZ cM) A ((fun (u9 : SU) => [(h, .inr (7, oM r (upd (upd (upd (upd (upd i 3 (u9.1 0)) 4 (u9.1 1)) 5 (u9.1 2)) 6 (u9.1 3)) 12 (u9.1 4)) (vp_updL j 7 (u9.2.1 0)))), ((r 0), .inl (cI, 1800, .inl f0))]) u)) A) sz (by decide +kernel) rfl (Nat.le_of_ble_eq_true rfl) (fun p e s m args below meth c A ls H locs B hP hD hS hl => ?_)
  obtain ⟨hx, hb, hml, hown, hts, hr, hlk, hnm, hK, hA, hN, hC⟩ := id B
  have hown : s.vm.findClass RX7 = some m.cls := hown
  have hl : lv_has ls 2 [(0, .ref h), (1, .int 0)] := hl
  have w_0 : (Cond.fieldLink RX7 36 "WishSeaModel" "faultKind" "I").before args s = true := hts _ (List.mem_of_getElem? (i := 1) rfl)
  have hinX7 : ∀ w ∈ u_ws RX7 TX7 92, w ∈ wsX7_counts := fun _ h => List.mem_cons_of_mem _ (List.mem_append_right _ h)
  refine lv_aload_n hx hb dX7_counts_0 rfl (lv_at hl 0 rfl) ?_
  have f_1_1 : iR (i 8) 0 6 := hI 8
  refine k_get (D := (dC, dI)) (ci := 7) (v := .int (i 8)) (C := RX7) (T := TX7) (N := 92) hx hb hts hinX7 hown hK hP 0 rfl rfl 8 (by decide) w_0 rfl rfl dX7_counts_1 ?_
  refine lv_if_ne (tgt := 21) hx hb dX7_counts_4 (by decide) (fun c_4 => ?_) (fun c_4 => ?_)
  · have c_4 : ¬ (i 8) = 0 := c_4
    have f_21_2 : iR (i 8) 1 6 := iR_neL c_4 f_1_1 (iR_c (n := 0) (a := 0) (b := 0) (by decide +kernel) (by decide +kernel)) (by decide +kernel)
    refine lv_aload_n hx hb dX7_counts_21 rfl (lv_at hl 0 rfl) ?_
    refine k_get (D := (dC, dI)) (ci := 7) (v := .int (i 8)) (C := RX7) (T := TX7) (N := 92) hx hb hts hinX7 hown hK hP 0 rfl rfl 8 (by decide) w_0 rfl rfl dX7_counts_22 ?_
    refine lv_if_ne (tgt := 32) hx hb dX7_counts_25 (by decide) (fun c_25p4 => ?_) (fun c_25p4 => ?_)
    · have c_25p4 : ¬ (i 8) = 0 := c_25p4
      refine lv_aload_n hx hb dX7_counts_32 rfl (lv_at hl 0 rfl) ?_
      refine k_get (D := (dC, dI)) (ci := 7) (v := .int (i 8)) (C := RX7) (T := TX7) (N := 92) hx hb hts hinX7 hown hK hP 0 rfl rfl 8 (by decide) w_0 rfl rfl dX7_counts_33 ?_
      refine lv_if_ne (tgt := 43) hx hb dX7_counts_36 (by decide) (fun c_36p4p25 => ?_) (fun c_36p4p25 => ?_)
      · have c_36p4p25 : ¬ (i 8) = 0 := c_36p4p25
        refine lv_iconst (v := 0) hx hb dX7_counts_43 (by decide +kernel) ?_
        exact k_ri B hP hD hS dX7_counts_44 ((fun k9 => match k9 with | 0 => (i 3) | 1 => (i 4) | 2 => (i 5) | 3 => (i 6) | 4 => (i 12) | _ => 0), (fun k9 => match k9 with | 0 => (j 7) | _ => 0), (fun _ => (fun _ => 0)), (fun _ => (fun _ => 0)), (fun _ => 0)) [0, 1] rfl rfl rfl (Nat.le_of_ble_eq_true rfl) (Nat.le_of_ble_eq_true rfl) ⟨(show iR 0 0 1 from (iR_c (n := 0) (a := 0) (b := 1) (by decide +kernel) (by decide +kernel))), (show iR (i 3) 0 3 from (hI 3)), (show iR (i 4) 0 1600 from (hI 4)), (show iR (i 5) 0 1600 from (hI 5)), (show iR (i 6) 0 9999 from (hI 6))⟩
      · exact iR_cl (iR_eqL (a' := 1) (b' := 0) c_36p4p25 f_21_2 (iR_c (n := 0) (a := 0) (b := 0) (by decide +kernel) (by decide +kernel)) (by decide +kernel)) (by decide +kernel)
    · exact iR_cl (iR_eqL (a' := 1) (b' := 0) c_25p4 f_21_2 (iR_c (n := 0) (a := 0) (b := 0) (by decide +kernel) (by decide +kernel)) (by decide +kernel)) (by decide +kernel)
  · have c_4 : (i 8) = 0 := c_4
    have f_7_2 : iR (i 8) 0 0 := iR_eqL c_4 f_1_1 (iR_c (n := 0) (a := 0) (b := 0) (by decide +kernel) (by decide +kernel)) (by decide +kernel)
    refine lv_iload_n hx hb dX7_counts_7 rfl (lv_at hl 1 rfl) ?_
    refine lv_if_eq (tgt := 21) hx hb dX7_counts_8 (by decide) (fun _ => ?_) (fun q9 => absurd q9 (by decide +kernel))
    refine lv_aload_n hx hb dX7_counts_21 rfl (lv_at hl 0 rfl) ?_
    refine k_get (D := (dC, dI)) (ci := 7) (v := .int (i 8)) (C := RX7) (T := TX7) (N := 92) hx hb hts hinX7 hown hK hP 0 rfl rfl 8 (by decide) w_0 rfl rfl dX7_counts_22 ?_
    refine lv_if_ne (tgt := 32) hx hb dX7_counts_25 (by decide) (fun c_25p8 => ?_) (fun c_25p8 => ?_)
    · exact absurd (i_eqc f_7_2 (iR_c (n := 0) (a := 0) (b := 0) (by decide +kernel) (by decide +kernel))) c_25p8
    · have c_25p8 : (i 8) = 0 := c_25p8
      refine lv_aload_n hx hb dX7_counts_28 rfl (lv_at hl 0 rfl) ?_
      refine k_cv (wc := [(h, .inr (7, oM r i j)), ((r 0), .inl (cI, 1800, .inl f0))]) (wr := []) (fun hPc hDc hFc => va_runV (As := []) (rest := []) ⟨hx, hb, hml, hown, hts⟩ (s_X7_ahead_v1 l dC dI cI cJ cZ cM h r i j f0 hI hf0 H.size) (cwV 0 hts gX7_counts_X7_ahead rfl rfl rfl (by decide +kernel) ⟨(Nat.le_of_ble_eq_true rfl), (Nat.le_of_ble_eq_true rfl)⟩) (k_pV hPc hDc hK hN hC hS hFc hP (q0 := 0) (ci := 7) rfl rfl) rfl rfl hl.1 rfl (lv_room (Nat.le_of_ble_eq_true rfl)) dX7_counts_29 ⟨(Nat.le_of_ble_eq_true rfl), (Nat.le_of_ble_eq_true rfl)⟩) hP hD hS hA [0, 1] [] rfl rfl rfl rfl (by decide) (fun _ => rfl) 0 0 rfl rfl (fun u_29p8 H locs hw hP hD hS => ?_)
      obtain ⟨g_29p8_0, g_29p8_1, g_29p8_2, g_29p8_3, g_29p8_4, g_29p8_5, g_29p8_6, g_29p8_7, g_29p8_8, g_29p8_9⟩ := hw
      have hP : va_P (dC, dI) vwCl [(h, .inr (7, oM r (upd (upd (upd (upd (upd i 3 (u_29p8.1 0)) 4 (u_29p8.1 1)) 5 (u_29p8.1 2)) 6 (u_29p8.1 3)) 12 (u_29p8.1 4)) (vp_updL j 7 (u_29p8.2.1 0)))), ((r 0), .inl (cI, 1800, .inl f0))] H := hP
      have hD : va_D A [(h, .inr (7, oM r (upd (upd (upd (upd (upd i 3 (u_29p8.1 0)) 4 (u_29p8.1 1)) 5 (u_29p8.1 2)) 6 (u_29p8.1 3)) 12 (u_29p8.1 4)) (vp_updL j 7 (u_29p8.2.1 0)))), ((r 0), .inl (cI, 1800, .inl f0))] := hD
      have g_29p8_0 : (i 5) ≤ (u_29p8.1 1) := g_29p8_0
      have g_29p8_1 : (u_29p8.1 1) ≤ (u_29p8.1 2) := g_29p8_1
      have g_29p8_7 : TM (u_29p8.1 2) (u_29p8.1 0) ≤ TM (i 5) (i 3) := g_29p8_7
      have g_29p8_8 : ((u_29p8.1 0) = 0) ∨ (((i 5) < (u_29p8.1 2)) ∧ ((u_29p8.1 1) < (u_29p8.1 2)) ∧ ((u_29p8.1 1) < (i 2))) := g_29p8_8
      have g_29p8_9 : ((i 3) = 0) ∨ ((TM (u_29p8.1 2) (u_29p8.1 0) < TM (i 5) (i 3))) := g_29p8_9
      refine lv_aload_n hx hb dX7_counts_32 rfl (lv_at hl 0 rfl) ?_
      refine k_get (D := (dC, dI)) (ci := 7) (v := .int (i 8)) (C := RX7) (T := TX7) (N := 92) hx hb hts hinX7 hown hK hP 0 rfl rfl 8 (by decide) w_0 rfl rfl dX7_counts_33 ?_
      refine lv_if_ne (tgt := 43) hx hb dX7_counts_36 (by decide) (fun c_36p8p29 => ?_) (fun c_36p8p29 => ?_)
      · exact absurd (i_eqc f_7_2 (iR_c (n := 0) (a := 0) (b := 0) (by decide +kernel) (by decide +kernel))) c_36p8p29
      · have c_36p8p29 : (i 8) = 0 := c_36p8p29
        refine lv_iconst (v := 1) hx hb dX7_counts_39 (by decide +kernel) ?_
        refine lv_goto (tgt := 44) hx hb dX7_counts_40 (by decide) ?_
        exact k_ri B hP hD hS dX7_counts_44 ((fun k9 => match k9 with | 0 => (u_29p8.1 0) | 1 => (u_29p8.1 1) | 2 => (u_29p8.1 2) | 3 => (u_29p8.1 3) | 4 => (u_29p8.1 4) | _ => 0), (fun k9 => match k9 with | 0 => (u_29p8.2.1 0) | _ => 0), (fun _ => (fun _ => 0)), (fun _ => (fun _ => 0)), (fun _ => 0)) [0, 1] rfl rfl rfl (Nat.le_of_ble_eq_true rfl) (Nat.le_of_ble_eq_true rfl) ⟨(show iR 1 0 1 from (iR_c (n := 1) (a := 0) (b := 1) (by decide +kernel) (by decide +kernel))), (show iR (u_29p8.1 0) 0 3 from g_29p8_2), (show iR (u_29p8.1 1) 0 1600 from g_29p8_3), (show iR (u_29p8.1 2) 0 1600 from g_29p8_4), (show iR (u_29p8.1 3) 0 9999 from g_29p8_5)⟩
set_option maxHeartbeats 8000000 in
set_option maxRecDepth 100000 in
theorem s_X7_blame_v10 (l : Launch) (dC : Nat → ClassId) (dI : Nat → Nat → Nat) (cI cJ cZ cM : ClassId) (h : Nat) (r : Nat → Nat) (i : Nat → Int32) (j : Nat → Int64) (x1 : Int32) (x2 : Int32) (hx1 : iR x1 1 6) (hI : mR i) : k_Mv l yX7_blame wsX7_blame ({ frames := 1, cells := 0, slots := 0, locals := 40 }) (dC, dI) vwCl (tyy cI cJ cZ cM) [(h, .inr (7, oM r i j))] [.ref h, .int x1, .int x2] 0 0 (fun (u9 : SU) => [(h, .inr (7, oM r (upd (upd i 8 (u9.1 0)) 9 (u9.1 1)) j))]) (fun (u9 : SU) => (iR (u9.1 0) 1 6)) := by
  refine fun sz => k_enter (cc := cX7_blame) (maxL := 3) (ret := none) (Qc := fun A => va_Qv (fun (u9 : SU) => (iR (u9.1 0) 1 6)) (fun u => k_B (dC, dI) vwCl (tyy cI cJ cZ cM) A ((fun (u9 : SU) => [(h, .inr (7, oM r (upd (upd i 8 (u9.1 0)) 9 (u9.1 1)) j))]) u)) A) sz (by decide +kernel) rfl (Nat.le_of_ble_eq_true rfl) (fun p e s m args below meth c A ls H locs B hP hD hS hl => ?_)
  obtain ⟨hx, hb, hml, hown, hts, hr, hlk, hnm, hK, hA, hN, hC⟩ := id B
  have hown : s.vm.findClass RX7 = some m.cls := hown
  have hl : lv_has ls 3 [(0, .ref h), (1, .int x1), (2, .int x2)] := hl
  have w_0 : (Cond.fieldLink RX7 36 "WishSeaModel" "faultKind" "I").before args s = true := hts _ (List.mem_of_getElem? (i := 1) rfl)
  have w_1 : (Cond.fieldLink RX7 39 "WishSeaModel" "faultPlace" "I").before args s = true := hts _ (List.mem_of_getElem? (i := 2) rfl)
  have hinX7 : ∀ w ∈ u_ws RX7 TX7 92, w ∈ wsX7_blame := fun _ h => List.mem_cons_of_mem _ (List.mem_append_right _ h)
  refine lv_aload_n hx hb dX7_blame_0 rfl (lv_at hl 0 rfl) ?_
  have f_1_1 : iR (i 8) 0 6 := hI 8
  refine k_get (D := (dC, dI)) (ci := 7) (v := .int (i 8)) (C := RX7) (T := TX7) (N := 92) hx hb hts hinX7 hown hK hP 0 rfl rfl 8 (by decide) w_0 rfl rfl dX7_blame_1 ?_
  refine lv_if_le (tgt := 8) hx hb dX7_blame_4 (by decide) (fun c_4 => ?_) (fun c_4 => ?_)
  · have c_4 : (i 8) ≤ 0 := c_4
    have f_8_2 : iR (i 8) 0 0 := iR_leL c_4 f_1_1 (iR_c (n := 0) (a := 0) (b := 0) (by decide +kernel) (by decide +kernel)) (by decide +kernel)
    refine lv_aload_n hx hb dX7_blame_8 rfl (lv_at hl 0 rfl) ?_
    refine lv_iload_n hx hb dX7_blame_9 rfl (lv_at hl 1 rfl) ?_
    refine k_put (D := (dC, dI)) (ci := 7) (v := .int x1) (C := RX7) (T := TX7) (N := 92) (ws' := [(h, .inr (7, oM r (upd i 8 x1) j))]) hx hb hts hinX7 tyX7 tyX7_ok nmX7 hown hK hP hD hS 0 rfl rfl 8 (by decide) w_0 rfl rfl rfl rfl (Nat.le_of_ble_eq_true rfl) rfl dX7_blame_10 (fun H locs hP hD hS => ?_)
    refine lv_aload_n hx hb dX7_blame_13 rfl (lv_at hl 0 rfl) ?_
    refine lv_iload_n hx hb dX7_blame_14 rfl (lv_at hl 2 rfl) ?_
    refine k_put (D := (dC, dI)) (ci := 7) (v := .int x2) (C := RX7) (T := TX7) (N := 92) (ws' := [(h, .inr (7, oM r (upd (upd i 8 x1) 9 x2) j))]) hx hb hts hinX7 tyX7 tyX7_ok nmX7 hown hK hP hD hS 0 rfl rfl 9 (by decide) w_1 rfl rfl rfl rfl (Nat.le_of_ble_eq_true rfl) rfl dX7_blame_15 (fun H locs hP hD hS => ?_)
    exact k_rv B hP hD hS dX7_blame_18 ((fun k9 => match k9 with | 0 => x1 | 1 => x2 | _ => 0), (fun _ => 0), (fun _ => (fun _ => 0)), (fun _ => (fun _ => 0)), (fun _ => 0)) [0] rfl rfl (Nat.le_of_ble_eq_true rfl) (Nat.le_of_ble_eq_true rfl) (show iR x1 1 6 from hx1)
  · have c_4 : 0 < (i 8) := i_nle c_4
    have f_7_2 : iR (i 8) 1 6 := iR_ltR c_4 (iR_c (n := 0) (a := 0) (b := 0) (by decide +kernel) (by decide +kernel)) f_1_1 (by decide +kernel)
    exact k_rv B hP hD hS dX7_blame_7 ((fun k9 => match k9 with | 0 => (i 8) | 1 => (i 9) | _ => 0), (fun _ => 0), (fun _ => (fun _ => 0)), (fun _ => (fun _ => 0)), (fun _ => 0)) [0] rfl rfl (Nat.le_of_ble_eq_true rfl) (Nat.le_of_ble_eq_true rfl) (show iR (i 8) 1 6 from f_7_2)
set_option maxHeartbeats 8000000 in
set_option maxRecDepth 100000 in
theorem s_X7_lex_v8 (l : Launch) (dC : Nat → ClassId) (dI : Nat → Nat → Nat) (cI cJ cZ cM : ClassId) (h : Nat) (r : Nat → Nat) (i : Nat → Int32) (j : Nat → Int64) (hI : mR i) : k_Mv l yX7_lex wsX7_lex ({ frames := 2, cells := 0, slots := 0, locals := 62 }) (dC, dI) vwCl (tyy cI cJ cZ cM) [(h, .inr (7, oM r i j))] [.ref h] 0 0 (fun (u9 : SU) => [(h, .inr (7, oM r (upd (upd i 8 (u9.1 0)) 9 (u9.1 1)) j))]) (fun (u9 : SU) => (iR (u9.1 0) 0 6)) := by
  refine fun sz => k_enter (cc := cX7_lex) (maxL := 1) (ret := none) (Qc := fun A => va_Qv (fun (u9 : SU) => (iR (u9.1 0) 0 6)) (fun u => k_B (dC, dI) vwCl (tyy cI cJ cZ cM) A ((fun (u9 : SU) => [(h, .inr (7, oM r (upd (upd i 8 (u9.1 0)) 9 (u9.1 1)) j))]) u)) A) sz (by decide +kernel) rfl (Nat.le_of_ble_eq_true rfl) (fun p e s m args below meth c A ls H locs B hP hD hS hl => ?_)
  obtain ⟨hx, hb, hml, hown, hts, hr, hlk, hnm, hK, hA, hN, hC⟩ := id B
  have hown : s.vm.findClass RX7 = some m.cls := hown
  have hl : lv_has ls 1 [(0, .ref h)] := hl
  have w_0 : (Cond.fieldLink RX7 48 "WishSeaModel" "lexAt" "I").before args s = true := hts _ (List.mem_of_getElem? (i := 1) rfl)
  have hinX7 : ∀ w ∈ u_ws RX7 TX7 92, w ∈ wsX7_lex := fun _ h => List.mem_cons_of_mem _ (List.mem_append_right _ h)
  refine lv_aload_n hx hb dX7_lex_0 rfl (lv_at hl 0 rfl) ?_
  refine k_get (D := (dC, dI)) (ci := 7) (v := .int (i 12)) (C := RX7) (T := TX7) (N := 92) hx hb hts hinX7 hown hK hP 0 rfl rfl 12 (by decide) w_0 rfl rfl dX7_lex_1 ?_
  refine lv_iconst (v := (-1)) hx hb dX7_lex_4 (by decide +kernel) ?_
  refine lv_icmp_eq (tgt := 17) hx hb dX7_lex_5 (by decide) (fun c_5 => ?_) (fun c_5 => ?_)
  · have c_5 : (i 12) = (-1) := c_5
    have f_17_1 : iR (i 12) (-1) (-1) := iR_eqL c_5 (iR_top _) (iR_c (n := (-1)) (a := (-1)) (b := (-1)) (by decide +kernel) (by decide +kernel)) (by decide +kernel)
    exact k_rv B hP hD hS dX7_lex_17 ((fun k9 => match k9 with | 0 => (i 8) | 1 => (i 9) | _ => 0), (fun _ => 0), (fun _ => (fun _ => 0)), (fun _ => (fun _ => 0)), (fun _ => 0)) [0] rfl rfl (Nat.le_of_ble_eq_true rfl) (Nat.le_of_ble_eq_true rfl) (show iR (i 8) 0 6 from (hI 8))
  · have c_5 : ¬ (i 12) = (-1) := c_5
    refine lv_aload_n hx hb dX7_lex_8 rfl (lv_at hl 0 rfl) ?_
    refine lv_iconst (v := 1) hx hb dX7_lex_9 (by decide +kernel) ?_
    refine lv_aload_n hx hb dX7_lex_10 rfl (lv_at hl 0 rfl) ?_
    refine k_get (D := (dC, dI)) (ci := 7) (v := .int (i 12)) (C := RX7) (T := TX7) (N := 92) hx hb hts hinX7 hown hK hP 0 rfl rfl 12 (by decide) w_0 rfl rfl dX7_lex_11 ?_
    refine k_cv (wc := [(h, .inr (7, oM r i j))]) (wr := []) (fun hPc hDc hFc => va_runV (As := [.int 1, .int (i 12)]) (rest := []) ⟨hx, hb, hml, hown, hts⟩ (s_X7_blame_v1 l dC dI cI cJ cZ cM h r i j 1 (i 12) (iR_c (n := 1) (a := 1) (b := 6) (by decide +kernel) (by decide +kernel)) hI H.size) (cwV 2 hts gX7_lex_X7_blame rfl rfl rfl (by decide +kernel) ⟨(Nat.le_of_ble_eq_true rfl), (Nat.le_of_ble_eq_true rfl)⟩) (k_pV hPc hDc hK hN hC hS hFc hP (q0 := 0) (ci := 7) rfl rfl) rfl rfl hl.1 rfl (lv_room (Nat.le_of_ble_eq_true rfl)) dX7_lex_14 ⟨(Nat.le_of_ble_eq_true rfl), (Nat.le_of_ble_eq_true rfl)⟩) hP hD hS hA [0] [] rfl rfl rfl rfl (by decide) (fun _ => rfl) 0 0 rfl rfl (fun u_14 H locs hw hP hD hS => ?_)
    have g_14_0 := hw
    have hP : va_P (dC, dI) vwCl [(h, .inr (7, oM r (upd (upd i 8 (u_14.1 0)) 9 (u_14.1 1)) j))] H := hP
    have hD : va_D A [(h, .inr (7, oM r (upd (upd i 8 (u_14.1 0)) 9 (u_14.1 1)) j))] := hD
    exact k_rv B hP hD hS dX7_lex_17 ((fun k9 => match k9 with | 0 => (u_14.1 0) | 1 => (u_14.1 1) | _ => 0), (fun _ => 0), (fun _ => (fun _ => 0)), (fun _ => (fun _ => 0)), (fun _ => 0)) [0] rfl rfl (Nat.le_of_ble_eq_true rfl) (Nat.le_of_ble_eq_true rfl) (show iR (u_14.1 0) 0 6 from (iR_w g_14_0 (by decide +kernel)))
set_option maxHeartbeats 8000000 in
set_option maxRecDepth 100000 in
theorem s_X7_manyOf_v9 (l : Launch) (dC : Nat → ClassId) (dI : Nat → Nat → Nat) (cI cJ cZ cM : ClassId) (h : Nat) (r : Nat → Nat) (i : Nat → Int32) (j : Nat → Int64) (x1 : Int32) (f14 : Nat → Int32) (hx1 : iR x1 0 1) (hI : mR i) (hf14 : aR f14 0 10) : k_Mi l yX7_manyOf wsX7_manyOf ({ frames := 1, cells := 0, slots := 0, locals := 40 }) (dC, dI) vwCl (tyy cI cJ cZ cM) [(h, .inr (7, oM r i j)), ((r 14), .inl (cI, 2, .inl f14))] [.ref h, .int x1, .int 0] 0 0 (fun (u9 : Unit) => [(h, .inr (7, oM r i j)), ((r 14), .inl (cI, 2, .inl f14))]) (fun (r9 : Int32) (u9 : Unit) => (r9 = (f14 x1.toNatClampNeg))) := by
  refine fun sz => k_enter (cc := cX7_manyOf) (maxL := 3) (ret := some (.int)) (Qc := fun A => va_Qi (fun (r9 : Int32) (u9 : Unit) => (r9 = (f14 x1.toNatClampNeg))) (fun u => k_B (dC, dI) vwCl (tyy cI cJ cZ cM) A ((fun (u9 : Unit) => [(h, .inr (7, oM r i j)), ((r 14), .inl (cI, 2, .inl f14))]) u)) A) sz (by decide +kernel) rfl (Nat.le_of_ble_eq_true rfl) (fun p e s m args below meth c A ls H locs B hP hD hS hl => ?_)
  obtain ⟨hx, hb, hml, hown, hts, hr, hlk, hnm, hK, hA, hN, hC⟩ := id B
  have hown : s.vm.findClass RX7 = some m.cls := hown
  have hl : lv_has ls 3 [(0, .ref h), (1, .int x1), (2, .int 0)] := hl
  have w_0 : (Cond.fieldLink RX7 54 "WishSeaModel" "things" "[I").before args s = true := hts _ (List.mem_of_getElem? (i := 1) rfl)
  have hinX7 : ∀ w ∈ u_ws RX7 TX7 92, w ∈ wsX7_manyOf := fun _ h => List.mem_cons_of_mem _ (List.mem_append_right _ h)
  refine lv_iload_n hx hb dX7_manyOf_0 rfl (lv_at hl 2 rfl) ?_
  refine lv_if_ne (tgt := 13) hx hb dX7_manyOf_1 (by decide) (fun q9 => absurd q9 (by decide +kernel)) (fun _ => ?_)
  refine lv_aload_n hx hb dX7_manyOf_4 rfl (lv_at hl 0 rfl) ?_
  refine k_get (D := (dC, dI)) (ci := 7) (v := .ref (r 14)) (C := RX7) (T := TX7) (N := 92) hx hb hts hinX7 hown hK hP 0 rfl rfl 14 (by decide) w_0 rfl rfl dX7_manyOf_5 ?_
  refine lv_iload_n hx hb dX7_manyOf_8 rfl (lv_at hl 1 rfl) ?_
  refine va_iald hx hb hK hP 1 0 rfl rfl (iR_vp hx1 (by decide +kernel)) dX7_manyOf_9 ?_
  have f_9_1 : iR (f14 x1.toNatClampNeg) 0 10 := hf14 _
  refine lv_goto (tgt := 19) hx hb dX7_manyOf_10 (by decide) ?_
  exact k_ri B hP hD hS dX7_manyOf_19 () [0, 1] rfl rfl rfl (Nat.le_of_ble_eq_true rfl) (Nat.le_of_ble_eq_true rfl) rfl
set_option maxHeartbeats 8000000 in
set_option maxRecDepth 100000 in
theorem s_X7_nameOf_v9 (l : Launch) (dC : Nat → ClassId) (dI : Nat → Nat → Nat) (cI cJ cZ cM : ClassId) (h : Nat) (r : Nat → Nat) (i : Nat → Int32) (j : Nat → Int64) (x1 : Int32) (x3 : Int32) (g34 : Nat → Int64) (hx1 : iR x1 0 1) (hx3 : iR x3 0 9) (hI : mR i) : k_Ml l yX7_nameOf wsX7_nameOf ({ frames := 1, cells := 0, slots := 0, locals := 40 }) (dC, dI) vwCl (tyy cI cJ cZ cM) [(h, .inr (7, oM r i j)), ((r 34), .inl (cJ, 20, .inr (.inl g34)))] [.ref h, .int x1, .int 0, .int x3] 0 0 (fun (u9 : Unit) => [(h, .inr (7, oM r i j)), ((r 34), .inl (cJ, 20, .inr (.inl g34)))]) (fun (r9 : Int64) (u9 : Unit) => True) := by
  refine fun sz => k_enter (cc := cX7_nameOf) (maxL := 4) (ret := some (.long)) (Qc := fun A => va_Ql (fun (r9 : Int64) (u9 : Unit) => True) (fun u => k_B (dC, dI) vwCl (tyy cI cJ cZ cM) A ((fun (u9 : Unit) => [(h, .inr (7, oM r i j)), ((r 34), .inl (cJ, 20, .inr (.inl g34)))]) u)) A) sz (by decide +kernel) rfl (Nat.le_of_ble_eq_true rfl) (fun p e s m args below meth c A ls H locs B hP hD hS hl => ?_)
  obtain ⟨hx, hb, hml, hown, hts, hr, hlk, hnm, hK, hA, hN, hC⟩ := id B
  have hown : s.vm.findClass RX7 = some m.cls := hown
  have hl : lv_has ls 4 [(0, .ref h), (1, .int x1), (2, .int 0), (3, .int x3)] := hl
  have w_0 : (Cond.fieldLink RX7 114 "WishSeaModel" "thingName" "[J").before args s = true := hts _ (List.mem_of_getElem? (i := 1) rfl)
  have hinX7 : ∀ w ∈ u_ws RX7 TX7 92, w ∈ wsX7_nameOf := fun _ h => List.mem_cons_of_mem _ (List.mem_append_right _ h)
  refine lv_iload_n hx hb dX7_nameOf_0 rfl (lv_at hl 2 rfl) ?_
  refine lv_if_ne (tgt := 18) hx hb dX7_nameOf_1 (by decide) (fun q9 => absurd q9 (by decide +kernel)) (fun _ => ?_)
  refine lv_aload_n hx hb dX7_nameOf_4 rfl (lv_at hl 0 rfl) ?_
  refine k_get (D := (dC, dI)) (ci := 7) (v := .ref (r 34)) (C := RX7) (T := TX7) (N := 92) hx hb hts hinX7 hown hK hP 0 rfl rfl 34 (by decide) w_0 rfl rfl dX7_nameOf_5 ?_
  refine lv_bipush (v := 10) hx hb dX7_nameOf_8 (by decide +kernel) ?_
  refine lv_iload_n hx hb dX7_nameOf_10 rfl (lv_at hl 1 rfl) ?_
  refine lv_imul hx hb dX7_nameOf_11 ?_
  refine lv_topi (fun y_11 ey_11 => ?_)
  have f_11_1 : iR y_11 0 10 := iR_mul ey_11 (iR_c (n := 10) (a := 10) (b := 10) (by decide +kernel) (by decide +kernel)) hx1 (by decide +kernel)
  refine lv_iload_n hx hb dX7_nameOf_12 rfl (lv_at hl 3 rfl) ?_
  refine lv_iadd hx hb dX7_nameOf_13 ?_
  refine lv_topi (fun y_13 ey_13 => ?_)
  have f_13_2 : iR y_13 0 19 := iR_add ey_13 f_11_1 hx3 (by decide +kernel)
  refine va_lald hx hb hK hP 1 1 rfl rfl (iR_vp f_13_2 (by decide +kernel)) dX7_nameOf_14 ?_
  refine lv_goto (tgt := 29) hx hb dX7_nameOf_15 (by decide) ?_
  exact k_rl B hP hD hS dX7_nameOf_29 () [0, 1] rfl rfl (Nat.le_of_ble_eq_true rfl) (Nat.le_of_ble_eq_true rfl) trivial
set_option maxHeartbeats 8000000 in
set_option maxRecDepth 100000 in
theorem s_X7_named_v6 (l : Launch) (dC : Nat → ClassId) (dI : Nat → Nat → Nat) (cI cJ cZ cM : ClassId) (h : Nat) (r : Nat → Nat) (i : Nat → Int32) (j : Nat → Int64) (x2 : Int64) (f14 : Nat → Int32) (g34 : Nat → Int64) (hI : mR i) (hf14 : aR f14 0 10) : k_Mi l yX7_named wsX7_named ({ frames := 2, cells := 0, slots := 0, locals := 63 }) (dC, dI) vwCl (tyy cI cJ cZ cM) [(h, .inr (7, oM r i j)), ((r 14), .inl (cI, 2, .inl f14)), ((r 34), .inl (cJ, 20, .inr (.inl g34)))] [.ref h, .int 0, .long x2] 0 0 (fun (u9 : Unit) => [(h, .inr (7, oM r i j)), ((r 14), .inl (cI, 2, .inl f14)), ((r 34), .inl (cJ, 20, .inr (.inl g34)))]) (fun (r9 : Int32) (u9 : Unit) => (iR r9 (-1) 9)) := by
  refine fun sz => k_enter (cc := cX7_named) (maxL := 5) (ret := some (.int)) (Qc := fun A => va_Qi (fun (r9 : Int32) (u9 : Unit) => (iR r9 (-1) 9)) (fun u => k_B (dC, dI) vwCl (tyy cI cJ cZ cM) A ((fun (u9 : Unit) => [(h, .inr (7, oM r i j)), ((r 14), .inl (cI, 2, .inl f14)), ((r 34), .inl (cJ, 20, .inr (.inl g34)))]) u)) A) sz (by decide +kernel) rfl (Nat.le_of_ble_eq_true rfl) (fun p e s m args below meth c A ls H locs B hP hD hS hl => ?_)
  obtain ⟨hx, hb, hml, hown, hts, hr, hlk, hnm, hK, hA, hN, hC⟩ := id B
  have hown : s.vm.findClass RX7 = some m.cls := hown
  have hl : lv_has ls 5 [(0, .ref h), (1, .int 0), (2, .long x2)] := hl
  have w_0 : (Cond.fieldLink RX7 124 "WishSeaModel" "in" "I").before args s = true := hts _ (List.mem_of_getElem? (i := 1) rfl)
  have hinX7 : ∀ w ∈ u_ws RX7 TX7 92, w ∈ wsX7_named := fun _ h => List.mem_cons_of_mem _ (List.mem_append_right _ h)
  refine lv_iconst (v := 0) hx hb dX7_named_0 (by decide +kernel) ?_
  have J_3 : ∀ (n_3 : Nat) (j3_L4 : Int32) (hj3_L4 : iR j3_L4 0 10) (hm_3 : (10 - j3_L4.toInt).toNat < n_3) (H : Heap) (locs : List Loc) (ls : Array Slot), va_P (dC, dI) vwCl [(h, .inr (7, oM r i j)), ((r 14), .inl (cI, 2, .inl f14)), ((r 34), .inl (cJ, 20, .inr (.inl g34)))] H → va_D A [(h, .inr (7, oM r i j)), ((r 14), .inl (cI, 2, .inl f14)), ((r 34), .inl (cJ, 20, .inr (.inl g34)))] → va_S A s.heap H locs → lv_has ls 5 [(0, .ref h), (1, .int 0), (2, .long x2), (4, .int j3_L4)] → W p l e ({ frames := 2, cells := 0, slots := 0, locals := 63 }) s m args below meth c H locs 0 0 (MQ below (va_Qi (fun (r9 : Int32) (u9 : Unit) => (iR r9 (-1) 9)) (fun u => k_B (dC, dI) vwCl (tyy cI cJ cZ cM) A ((fun (u9 : Unit) => [(h, .inr (7, oM r i j)), ((r 14), .inl (cI, 2, .inl f14)), ((r 34), .inl (cJ, 20, .inr (.inl g34)))]) u)) A) args s 0 0 A) (F0 m 3 ls []) := by
    intro n_3
    induction n_3 with
    | zero => intro j3_L4 hj3_L4 hm_3; exact absurd hm_3 (Nat.not_lt_zero _)
    | succ n_3 ih_3 =>
      intro j3_L4 hj3_L4 hm_3 H locs ls hP hD hS hl
      refine lv_iload hx hb dX7_named_3 (lv_at hl 3 rfl) ?_
      refine lv_aload_n hx hb dX7_named_5 rfl (lv_at hl 0 rfl) ?_
      refine lv_aload_n hx hb dX7_named_6 rfl (lv_at hl 0 rfl) ?_
      have f_7_1 : iR (i 37) 0 1 := hI 37
      refine k_get (D := (dC, dI)) (ci := 7) (v := .int (i 37)) (C := RX7) (T := TX7) (N := 92) hx hb hts hinX7 hown hK hP 0 rfl rfl 37 (by decide) w_0 rfl rfl dX7_named_7 ?_
      refine lv_iload_n hx hb dX7_named_10 rfl (lv_at hl 1 rfl) ?_
      refine k_ci (wc := [(h, .inr (7, oM r i j)), ((r 14), .inl (cI, 2, .inl f14))]) (wr := [((r 34), .inl (cJ, 20, .inr (.inl g34)))]) (fun hPc hDc hFc => va_runV (As := [.int (i 37), .int 0]) (rest := [.int j3_L4]) ⟨hx, hb, hml, hown, hts⟩ (s_X7_manyOf_v4 l dC dI cI cJ cZ cM h r i j (i 37) f14 f_7_1 hI hf14 H.size) (cwV 2 hts gX7_named_X7_manyOf rfl rfl rfl (by decide +kernel) ⟨(Nat.le_of_ble_eq_true rfl), (Nat.le_of_ble_eq_true rfl)⟩) (k_pV hPc hDc hK hN hC hS hFc hP (q0 := 0) (ci := 7) rfl rfl) rfl rfl hl.1 rfl (lv_room (Nat.le_of_ble_eq_true rfl)) dX7_named_11 ⟨(Nat.le_of_ble_eq_true rfl), (Nat.le_of_ble_eq_true rfl)⟩) hP hD hS hA [0, 1] [2] rfl rfl rfl rfl (by decide) (fun _ => rfl) 0 0 rfl rfl (fun r_11 u_11 H locs hw hP hD hS => ?_)
      have g_11_0 := hw
      obtain rfl : r_11 = (f14 (i 37).toNatClampNeg) := g_11_0
      have hP : va_P (dC, dI) vwCl [((r 34), .inl (cJ, 20, .inr (.inl g34))), (h, .inr (7, oM r i j)), ((r 14), .inl (cI, 2, .inl f14))] H := hP
      have hD : va_D A [((r 34), .inl (cJ, 20, .inr (.inl g34))), (h, .inr (7, oM r i j)), ((r 14), .inl (cI, 2, .inl f14))] := hD
      refine lv_icmp_ge (tgt := 42) hx hb dX7_named_14 (by decide) (fun c_14 => ?_) (fun c_14 => ?_)
      · have c_14 : (f14 (i 37).toNatClampNeg) ≤ j3_L4 := c_14
        refine lv_iconst (v := (-1)) hx hb dX7_named_42 (by decide +kernel) ?_
        exact k_ri B hP hD hS dX7_named_43 () [1, 2, 0] rfl rfl rfl (Nat.le_of_ble_eq_true rfl) (Nat.le_of_ble_eq_true rfl) (show iR (-1) (-1) 9 from (iR_c (n := (-1)) (a := (-1)) (b := 9) (by decide +kernel) (by decide +kernel)))
      · have c_14 : j3_L4 < (f14 (i 37).toNatClampNeg) := i_nle c_14
        have f_17_2 : iR j3_L4 0 9 := iR_ltL c_14 hj3_L4 (show iR (f14 (i 37).toNatClampNeg) 0 10 from hf14 _) (by decide +kernel)
        have f_17_3 : iR (f14 (i 37).toNatClampNeg) 1 10 := iR_ltR c_14 hj3_L4 (show iR (f14 (i 37).toNatClampNeg) 0 10 from hf14 _) (by decide +kernel)
        refine lv_aload_n hx hb dX7_named_17 rfl (lv_at hl 0 rfl) ?_
        refine lv_aload_n hx hb dX7_named_18 rfl (lv_at hl 0 rfl) ?_
        refine k_get (D := (dC, dI)) (ci := 7) (v := .int (i 37)) (C := RX7) (T := TX7) (N := 92) hx hb hts hinX7 hown hK hP 1 rfl rfl 37 (by decide) w_0 rfl rfl dX7_named_19 ?_
        refine lv_iload_n hx hb dX7_named_22 rfl (lv_at hl 1 rfl) ?_
        refine lv_iload hx hb dX7_named_23 (lv_at hl 3 rfl) ?_
        refine k_cl (wc := [(h, .inr (7, oM r i j)), ((r 34), .inl (cJ, 20, .inr (.inl g34)))]) (wr := [((r 14), .inl (cI, 2, .inl f14))]) (fun hPc hDc hFc => va_runV (As := [.int (i 37), .int 0, .int j3_L4]) (rest := []) ⟨hx, hb, hml, hown, hts⟩ (s_X7_nameOf_v4 l dC dI cI cJ cZ cM h r i j (i 37) j3_L4 g34 f_7_1 f_17_2 hI H.size) (cwV 3 hts gX7_named_X7_nameOf rfl rfl rfl (by decide +kernel) ⟨(Nat.le_of_ble_eq_true rfl), (Nat.le_of_ble_eq_true rfl)⟩) (k_pV hPc hDc hK hN hC hS hFc hP (q0 := 1) (ci := 7) rfl rfl) rfl rfl hl.1 rfl (lv_room (Nat.le_of_ble_eq_true rfl)) dX7_named_25 ⟨(Nat.le_of_ble_eq_true rfl), (Nat.le_of_ble_eq_true rfl)⟩) hP hD hS hA [1, 0] [2] rfl rfl rfl rfl (by decide) (fun _ => rfl) 0 0 rfl rfl (fun r_25 u_25 H locs hw hP hD hS => ?_)
        have hP : va_P (dC, dI) vwCl [((r 14), .inl (cI, 2, .inl f14)), (h, .inr (7, oM r i j)), ((r 34), .inl (cJ, 20, .inr (.inl g34)))] H := hP
        have hD : va_D A [((r 14), .inl (cI, 2, .inl f14)), (h, .inr (7, oM r i j)), ((r 34), .inl (cJ, 20, .inr (.inl g34)))] := hD
        refine lv_lload_n hx hb dX7_named_28 rfl (lv_at hl 2 rfl) ?_
        refine W.lcmp hx hb dX7_named_29 ?_
        refine lv_topi (fun y_29 ey_29 => ?_)
        refine lv_if_ne (tgt := 36) hx hb dX7_named_30 (by decide) (fun c_30 => ?_) (fun c_30 => ?_)
        · have c_30 : ¬ y_29 = 0 := c_30
          have lc_30 : ¬ r_25 = x2 := l_cmpne ey_29 c_30
          obtain ⟨y_36, ey_36⟩ : ∃ y : Int32, y = j3_L4 + 1 := ⟨_, rfl⟩
          refine lv_iinc (v := y_36) (lv' := [(4, .int y_36), (0, .ref h), (1, .int 0), (2, .long x2)]) hx hb dX7_named_36 hl (k := 3) rfl ey_36.symm (by decide) rfl (fun ls hl => ?_)
          have f_36_4 : iR y_36 1 10 := iR_add ey_36 f_17_2 (iR_c (n := 1) (a := 1) (b := 1) (by decide +kernel) (by decide +kernel)) (by decide +kernel)
          refine lv_goto (tgt := 3) hx hb dX7_named_39 (by decide) ?_
          exact ih_3 y_36 (iR_w f_36_4 (by decide +kernel)) (m_up (B := 10) hm_3 ey_36 f_17_2 (by decide +kernel)) H locs ls (hP.sub [1, 0, 2] rfl) (hD.sub [1, 0, 2] (by decide +kernel) rfl) hS (lv_sub hl [1, 2, 3, 0] rfl)
        · have c_30 : y_29 = 0 := c_30
          have f_33_4 : iR y_29 0 0 := iR_eqL c_30 (iR_top _) (iR_c (n := 0) (a := 0) (b := 0) (by decide +kernel) (by decide +kernel)) (by decide +kernel)
          have lc_30 : r_25 = x2 := l_cmpe ey_29 c_30
          refine lv_iload hx hb dX7_named_33 (lv_at hl 3 rfl) ?_
          exact k_ri B hP hD hS dX7_named_35 () [1, 0, 2] rfl rfl rfl (Nat.le_of_ble_eq_true rfl) (Nat.le_of_ble_eq_true rfl) (show iR j3_L4 (-1) 9 from (iR_w f_17_2 (by decide +kernel)))
  refine lv_istore (lv' := [(4, .int 0), (0, .ref h), (1, .int 0), (2, .long x2)]) hx hb dX7_named_1 hl (by decide) rfl (fun ls hl => ?_)
  exact J_3 _ 0 (iR_c (n := 0) (a := 0) (b := 10) (by decide +kernel) (by decide +kernel)) (Nat.lt_succ_self _) H locs ls hP hD hS (lv_sub hl [1, 2, 3, 0] rfl)
set_option maxHeartbeats 8000000 in
set_option maxRecDepth 100000 in
theorem s_X7_looked_v2 (l : Launch) (dC : Nat → ClassId) (dI : Nat → Nat → Nat) (cI cJ cZ cM : ClassId) (h : Nat) (r : Nat → Nat) (i : Nat → Int32) (j : Nat → Int64) (f14 : Nat → Int32) (g34 : Nat → Int64) (hI : mR i) (hf14 : aR f14 0 10) : k_Mi l yX7_looked wsX7_looked ({ frames := 3, cells := 0, slots := 0, locals := 87 }) (dC, dI) vwCl (tyy cI cJ cZ cM) [(h, .inr (7, oM r i j)), ((r 14), .inl (cI, 2, .inl f14)), ((r 34), .inl (cJ, 20, .inr (.inl g34)))] [.ref h] 0 0 (fun (u9 : SU) => [(h, .inr (7, oM r (upd (upd i 8 (u9.1 0)) 9 (u9.1 1)) j)), ((r 14), .inl (cI, 2, .inl f14)), ((r 34), .inl (cJ, 20, .inr (.inl g34)))]) (fun (r9 : Int32) (u9 : SU) => (iR r9 0 9) ∧ (iR (u9.1 0) 0 6)) := by
  refine fun sz => k_enter (cc := cX7_looked) (maxL := 2) (ret := some (.int)) (Qc := fun A => va_Qi (fun (r9 : Int32) (u9 : SU) => (iR r9 0 9) ∧ (iR (u9.1 0) 0 6)) (fun u => k_B (dC, dI) vwCl (tyy cI cJ cZ cM) A ((fun (u9 : SU) => [(h, .inr (7, oM r (upd (upd i 8 (u9.1 0)) 9 (u9.1 1)) j)), ((r 14), .inl (cI, 2, .inl f14)), ((r 34), .inl (cJ, 20, .inr (.inl g34)))]) u)) A) sz (by decide +kernel) rfl (Nat.le_of_ble_eq_true rfl) (fun p e s m args below meth c A ls H locs B hP hD hS hl => ?_)
  obtain ⟨hx, hb, hml, hown, hts, hr, hlk, hnm, hK, hA, hN, hC⟩ := id B
  have hown : s.vm.findClass RX7 = some m.cls := hown
  have hl : lv_has ls 2 [(0, .ref h)] := hl
  have w_0 : (Cond.fieldLink RX7 36 "WishSeaModel" "faultKind" "I").before args s = true := hts _ (List.mem_of_getElem? (i := 1) rfl)
  have w_1 : (Cond.fieldLink RX7 20 "WishSeaModel" "sign" "I").before args s = true := hts _ (List.mem_of_getElem? (i := 2) rfl)
  have w_2 : (Cond.fieldLink RX7 23 "WishSeaModel" "signAt" "I").before args s = true := hts _ (List.mem_of_getElem? (i := 4) rfl)
  have w_3 : (Cond.fieldLink RX7 32 "WishSeaModel" "word" "J").before args s = true := hts _ (List.mem_of_getElem? (i := 3) rfl)
  have hinX7 : ∀ w ∈ u_ws RX7 TX7 92, w ∈ wsX7_looked := fun _ h => List.mem_cons_of_mem _ (List.mem_append_right _ h)
  refine lv_aload_n hx hb dX7_looked_0 rfl (lv_at hl 0 rfl) ?_
  refine k_cv (wc := [(h, .inr (7, oM r i j))]) (wr := [((r 14), .inl (cI, 2, .inl f14)), ((r 34), .inl (cJ, 20, .inr (.inl g34)))]) (fun hPc hDc hFc => va_runV (As := []) (rest := []) ⟨hx, hb, hml, hown, hts⟩ (s_X7_lex_v6 l dC dI cI cJ cZ cM h r i j hI H.size) (cwV 0 hts gX7_looked_X7_lex rfl rfl rfl (by decide +kernel) ⟨(Nat.le_of_ble_eq_true rfl), (Nat.le_of_ble_eq_true rfl)⟩) (k_pV hPc hDc hK hN hC hS hFc hP (q0 := 0) (ci := 7) rfl rfl) rfl rfl hl.1 rfl (lv_room (Nat.le_of_ble_eq_true rfl)) dX7_looked_1 ⟨(Nat.le_of_ble_eq_true rfl), (Nat.le_of_ble_eq_true rfl)⟩) hP hD hS hA [0] [1, 2] rfl rfl rfl rfl (by decide) (fun _ => rfl) 0 0 rfl rfl (fun u_1 H locs hw hP hD hS => ?_)
  have g_1_0 := hw
  have hP : va_P (dC, dI) vwCl [((r 14), .inl (cI, 2, .inl f14)), ((r 34), .inl (cJ, 20, .inr (.inl g34))), (h, .inr (7, oM r (upd (upd i 8 (u_1.1 0)) 9 (u_1.1 1)) j))] H := hP
  have hD : va_D A [((r 14), .inl (cI, 2, .inl f14)), ((r 34), .inl (cJ, 20, .inr (.inl g34))), (h, .inr (7, oM r (upd (upd i 8 (u_1.1 0)) 9 (u_1.1 1)) j))] := hD
  refine lv_aload_n hx hb dX7_looked_4 rfl (lv_at hl 0 rfl) ?_
  refine k_get (D := (dC, dI)) (ci := 7) (v := .int (u_1.1 0)) (C := RX7) (T := TX7) (N := 92) hx hb hts hinX7 hown hK hP 2 rfl rfl 8 (by decide) w_0 rfl rfl dX7_looked_5 ?_
  refine lv_if_le (tgt := 13) hx hb dX7_looked_8 (by decide) (fun c_8 => ?_) (fun c_8 => ?_)
  · have c_8 : (u_1.1 0) ≤ 0 := c_8
    have f_13_1 : iR (u_1.1 0) 0 0 := iR_leL c_8 g_1_0 (iR_c (n := 0) (a := 0) (b := 0) (by decide +kernel) (by decide +kernel)) (by decide +kernel)
    refine lv_aload_n hx hb dX7_looked_13 rfl (lv_at hl 0 rfl) ?_
    have f_14_2 : iR (i 3) 0 3 := hI 3
    refine k_get (D := (dC, dI)) (ci := 7) (v := .int (i 3)) (C := RX7) (T := TX7) (N := 92) hx hb hts hinX7 hown hK hP 2 rfl rfl 3 (by decide) w_1 rfl rfl dX7_looked_14 ?_
    refine lv_iconst (v := 1) hx hb dX7_looked_17 (by decide +kernel) ?_
    have J_32 : ∀   (H : Heap) (locs : List Loc) (ls : Array Slot), va_P (dC, dI) vwCl [(h, .inr (7, oM r (upd (upd i 8 (u_1.1 0)) 9 (u_1.1 1)) j)), ((r 14), .inl (cI, 2, .inl f14)), ((r 34), .inl (cJ, 20, .inr (.inl g34)))] H → va_D A [(h, .inr (7, oM r (upd (upd i 8 (u_1.1 0)) 9 (u_1.1 1)) j)), ((r 14), .inl (cI, 2, .inl f14)), ((r 34), .inl (cJ, 20, .inr (.inl g34)))] → va_S A s.heap H locs → lv_has ls 2 [(0, .ref h)] → W p l e ({ frames := 3, cells := 0, slots := 0, locals := 87 }) s m args below meth c H locs 0 0 (MQ below (va_Qi (fun (r9 : Int32) (u9 : SU) => (iR r9 0 9) ∧ (iR (u9.1 0) 0 6)) (fun u => k_B (dC, dI) vwCl (tyy cI cJ cZ cM) A ((fun (u9 : SU) => [(h, .inr (7, oM r (upd (upd i 8 (u9.1 0)) 9 (u9.1 1)) j)), ((r 14), .inl (cI, 2, .inl f14)), ((r 34), .inl (cJ, 20, .inr (.inl g34)))]) u)) A) args s 0 0 A) (F0 m 32 ls []) := by
      intro   H locs ls hP hD hS hl
      refine lv_aload_n hx hb dX7_looked_32 rfl (lv_at hl 0 rfl) ?_
      refine lv_iconst (v := 1) hx hb dX7_looked_33 (by decide +kernel) ?_
      refine lv_aload_n hx hb dX7_looked_34 rfl (lv_at hl 0 rfl) ?_
      have f_35_1 : iR (i 4) 0 1600 := hI 4
      refine k_get (D := (dC, dI)) (ci := 7) (v := .int (i 4)) (C := RX7) (T := TX7) (N := 92) hx hb hts hinX7 hown hK hP 0 rfl rfl 4 (by decide) w_2 rfl rfl dX7_looked_35 ?_
      refine k_cv (wc := [(h, .inr (7, oM r (upd (upd i 8 (u_1.1 0)) 9 (u_1.1 1)) j))]) (wr := [((r 14), .inl (cI, 2, .inl f14)), ((r 34), .inl (cJ, 20, .inr (.inl g34)))]) (fun hPc hDc hFc => va_runV (As := [.int 1, .int (i 4)]) (rest := []) ⟨hx, hb, hml, hown, hts⟩ (s_X7_blame_v8 l dC dI cI cJ cZ cM h r (upd (upd i 8 (u_1.1 0)) 9 (u_1.1 1)) j 1 (i 4) (iR_c (n := 1) (a := 1) (b := 6) (by decide +kernel) (by decide +kernel)) (mR_upd 9 (mR_upd 8 hI (show iR _ (loI 8) (hiI 8) from (iR_w f_13_1 (by decide +kernel)))) (show iR _ (loI 9) (hiI 9) from (iR_top _))) H.size) (cwV 2 hts gX7_looked_X7_blame rfl rfl rfl (by decide +kernel) ⟨(Nat.le_of_ble_eq_true rfl), (Nat.le_of_ble_eq_true rfl)⟩) (k_pV hPc hDc hK hN hC hS hFc hP (q0 := 0) (ci := 7) rfl rfl) rfl rfl hl.1 rfl (lv_room (Nat.le_of_ble_eq_true rfl)) dX7_looked_38 ⟨(Nat.le_of_ble_eq_true rfl), (Nat.le_of_ble_eq_true rfl)⟩) hP hD hS hA [0] [1, 2] rfl rfl rfl rfl (by decide) (fun _ => rfl) 0 0 rfl rfl (fun u_38 H locs hw hP hD hS => ?_)
      have g_38_0 := hw
      have hP : va_P (dC, dI) vwCl [((r 14), .inl (cI, 2, .inl f14)), ((r 34), .inl (cJ, 20, .inr (.inl g34))), (h, .inr (7, oM r (upd (upd i 8 (u_38.1 0)) 9 (u_38.1 1)) j))] H := hP
      have hD : va_D A [((r 14), .inl (cI, 2, .inl f14)), ((r 34), .inl (cJ, 20, .inr (.inl g34))), (h, .inr (7, oM r (upd (upd i 8 (u_38.1 0)) 9 (u_38.1 1)) j))] := hD
      refine lv_aload_n hx hb dX7_looked_41 rfl (lv_at hl 0 rfl) ?_
      refine k_get (D := (dC, dI)) (ci := 7) (v := .int (u_38.1 0)) (C := RX7) (T := TX7) (N := 92) hx hb hts hinX7 hown hK hP 2 rfl rfl 8 (by decide) w_0 rfl rfl dX7_looked_42 ?_
      have J_61p38 : ∀  (q61p38_0 : 0 < (u_38.1 0)) (H : Heap) (locs : List Loc) (ls : Array Slot), va_P (dC, dI) vwCl [(h, .inr (7, oM r (upd (upd i 8 (u_38.1 0)) 9 (u_38.1 1)) j)), ((r 14), .inl (cI, 2, .inl f14)), ((r 34), .inl (cJ, 20, .inr (.inl g34)))] H → va_D A [(h, .inr (7, oM r (upd (upd i 8 (u_38.1 0)) 9 (u_38.1 1)) j)), ((r 14), .inl (cI, 2, .inl f14)), ((r 34), .inl (cJ, 20, .inr (.inl g34)))] → va_S A s.heap H locs → lv_has ls 2 [(0, .ref h)] → W p l e ({ frames := 3, cells := 0, slots := 0, locals := 87 }) s m args below meth c H locs 0 0 (MQ below (va_Qi (fun (r9 : Int32) (u9 : SU) => (iR r9 0 9) ∧ (iR (u9.1 0) 0 6)) (fun u => k_B (dC, dI) vwCl (tyy cI cJ cZ cM) A ((fun (u9 : SU) => [(h, .inr (7, oM r (upd (upd i 8 (u9.1 0)) 9 (u9.1 1)) j)), ((r 14), .inl (cI, 2, .inl f14)), ((r 34), .inl (cJ, 20, .inr (.inl g34)))]) u)) A) args s 0 0 A) (F0 m 61 ls [.int 0]) := by
        intro  q61p38_0 H locs ls hP hD hS hl
        refine lv_istore_n (lv' := [(1, .int 0), (0, .ref h)]) hx hb dX7_looked_61 rfl hl (by decide) rfl (fun ls hl => ?_)
        refine lv_aload_n hx hb dX7_looked_62 rfl (lv_at hl 1 rfl) ?_
        refine k_get (D := (dC, dI)) (ci := 7) (v := .int (u_38.1 0)) (C := RX7) (T := TX7) (N := 92) hx hb hts hinX7 hown hK hP 0 rfl rfl 8 (by decide) w_0 rfl rfl dX7_looked_63 ?_
        refine lv_if_ne (tgt := 83) hx hb dX7_looked_66 (by decide) (fun c_66p38 => ?_) (fun c_66p38 => ?_)
        · have c_66p38 : ¬ (u_38.1 0) = 0 := c_66p38
          refine lv_aload_n hx hb dX7_looked_83 rfl (lv_at hl 1 rfl) ?_
          refine k_get (D := (dC, dI)) (ci := 7) (v := .int (u_38.1 0)) (C := RX7) (T := TX7) (N := 92) hx hb hts hinX7 hown hK hP 0 rfl rfl 8 (by decide) w_0 rfl rfl dX7_looked_84 ?_
          refine lv_if_le (tgt := 94) hx hb dX7_looked_87 (by decide) (fun c_87p38p66 => ?_) (fun c_87p38p66 => ?_)
          · exact iR_cl (iR_leL (a' := 1) (b' := 0) c_87p38p66 g_38_0 (iR_c (n := 0) (a := 0) (b := 0) (by decide +kernel) (by decide +kernel)) (by decide +kernel)) (by decide +kernel)
          · have c_87p38p66 : 0 < (u_38.1 0) := i_nle c_87p38p66
            refine lv_iconst (v := 0) hx hb dX7_looked_90 (by decide +kernel) ?_
            refine lv_goto (tgt := 95) hx hb dX7_looked_91 (by decide) ?_
            exact k_ri B hP hD hS dX7_looked_95 ((fun k9 => match k9 with | 0 => (u_38.1 0) | 1 => (u_38.1 1) | _ => 0), (fun _ => 0), (fun _ => (fun _ => 0)), (fun _ => (fun _ => 0)), (fun _ => 0)) [0, 1, 2] rfl rfl rfl (Nat.le_of_ble_eq_true rfl) (Nat.le_of_ble_eq_true rfl) ⟨(show iR 0 0 9 from (iR_c (n := 0) (a := 0) (b := 9) (by decide +kernel) (by decide +kernel))), (show iR (u_38.1 0) 0 6 from (iR_w g_38_0 (by decide +kernel)))⟩
        · exact iR_cl (iR_eqL (a' := 1) (b' := 0) c_66p38 g_38_0 (iR_c (n := 0) (a := 0) (b := 0) (by decide +kernel) (by decide +kernel)) (by decide +kernel)) (by decide +kernel)
      refine lv_if_le (tgt := 52) hx hb dX7_looked_45 (by decide) (fun c_45p38 => ?_) (fun c_45p38 => ?_)
      · exact iR_cl (iR_leL (a' := 1) (b' := 0) c_45p38 g_38_0 (iR_c (n := 0) (a := 0) (b := 0) (by decide +kernel) (by decide +kernel)) (by decide +kernel)) (by decide +kernel)
      · have c_45p38 : 0 < (u_38.1 0) := i_nle c_45p38
        refine lv_iconst (v := 0) hx hb dX7_looked_48 (by decide +kernel) ?_
        refine lv_goto (tgt := 61) hx hb dX7_looked_49 (by decide) ?_
        exact J_61p38  c_45p38 H locs ls (hP.sub [2, 0, 1] rfl) (hD.sub [2, 0, 1] (by decide +kernel) rfl) hS (lv_sub hl [0] rfl)
    refine lv_icmp_ne (tgt := 32) hx hb dX7_looked_18 (by decide) (fun c_18 => ?_) (fun c_18 => ?_)
    · have c_18 : ¬ (i 3) = 1 := c_18
      exact J_32   H locs ls (hP.sub [2, 0, 1] rfl) (hD.sub [2, 0, 1] (by decide +kernel) rfl) hS (lv_sub hl [0] rfl)
    · have c_18 : (i 3) = 1 := c_18
      have f_21_3 : iR (i 3) 1 1 := iR_eqL c_18 f_14_2 (iR_c (n := 1) (a := 1) (b := 1) (by decide +kernel) (by decide +kernel)) (by decide +kernel)
      refine lv_aload_n hx hb dX7_looked_21 rfl (lv_at hl 0 rfl) ?_
      refine lv_aload_n hx hb dX7_looked_22 rfl (lv_at hl 0 rfl) ?_
      refine k_get (D := (dC, dI)) (ci := 7) (v := .long (j 7)) (C := RX7) (T := TX7) (N := 92) hx hb hts hinX7 hown hK hP 2 rfl rfl 7 (by decide) w_3 rfl rfl dX7_looked_23 ?_
      refine k_ci (wc := []) (wr := [((r 14), .inl (cI, 2, .inl f14)), ((r 34), .inl (cJ, 20, .inr (.inl g34))), (h, .inr (7, oM r (upd (upd i 8 (u_1.1 0)) 9 (u_1.1 1)) j))]) (fun hPc hDc hFc => va_runV (As := [.long (j 7)]) (rest := []) ⟨hx, hb, hml, hown, hts⟩ (s_X7_isOwn_v7 l dC dI cI cJ cZ cM h (j 7) H.size) (cwV 1 hts gX7_looked_X7_isOwn rfl rfl rfl (by decide +kernel) ⟨(Nat.le_of_ble_eq_true rfl), (Nat.le_of_ble_eq_true rfl)⟩) (k_pV hPc hDc hK hN hC hS hFc hP (q0 := 2) (ci := 7) rfl rfl) rfl rfl hl.1 rfl (lv_room (Nat.le_of_ble_eq_true rfl)) dX7_looked_26 ⟨(Nat.le_of_ble_eq_true rfl), (Nat.le_of_ble_eq_true rfl)⟩) hP hD hS hA [] [0, 1, 2] rfl rfl rfl rfl (by decide) (fun _ => rfl) 0 0 rfl rfl (fun r_26 u_26 H locs hw hP hD hS => ?_)
      have g_26_0 := hw
      have hP : va_P (dC, dI) vwCl [((r 14), .inl (cI, 2, .inl f14)), ((r 34), .inl (cJ, 20, .inr (.inl g34))), (h, .inr (7, oM r (upd (upd i 8 (u_1.1 0)) 9 (u_1.1 1)) j))] H := hP
      have hD : va_D A [((r 14), .inl (cI, 2, .inl f14)), ((r 34), .inl (cJ, 20, .inr (.inl g34))), (h, .inr (7, oM r (upd (upd i 8 (u_1.1 0)) 9 (u_1.1 1)) j))] := hD
      refine lv_if_eq (tgt := 41) hx hb dX7_looked_29 (by decide) (fun c_29 => ?_) (fun c_29 => ?_)
      · have c_29 : r_26 = 0 := c_29
        have f_41_4 : iR r_26 0 0 := iR_eqL c_29 g_26_0 (iR_c (n := 0) (a := 0) (b := 0) (by decide +kernel) (by decide +kernel)) (by decide +kernel)
        refine lv_aload_n hx hb dX7_looked_41 rfl (lv_at hl 0 rfl) ?_
        refine k_get (D := (dC, dI)) (ci := 7) (v := .int (u_1.1 0)) (C := RX7) (T := TX7) (N := 92) hx hb hts hinX7 hown hK hP 2 rfl rfl 8 (by decide) w_0 rfl rfl dX7_looked_42 ?_
        have J_61p29 : ∀ (j61p29_S0 : Int32) (hj61p29_S0 : iR j61p29_S0 (-1) 9) (H : Heap) (locs : List Loc) (ls : Array Slot), va_P (dC, dI) vwCl [(h, .inr (7, oM r (upd (upd i 8 (u_1.1 0)) 9 (u_1.1 1)) j)), ((r 14), .inl (cI, 2, .inl f14)), ((r 34), .inl (cJ, 20, .inr (.inl g34)))] H → va_D A [(h, .inr (7, oM r (upd (upd i 8 (u_1.1 0)) 9 (u_1.1 1)) j)), ((r 14), .inl (cI, 2, .inl f14)), ((r 34), .inl (cJ, 20, .inr (.inl g34)))] → va_S A s.heap H locs → lv_has ls 2 [(0, .ref h)] → W p l e ({ frames := 3, cells := 0, slots := 0, locals := 87 }) s m args below meth c H locs 0 0 (MQ below (va_Qi (fun (r9 : Int32) (u9 : SU) => (iR r9 0 9) ∧ (iR (u9.1 0) 0 6)) (fun u => k_B (dC, dI) vwCl (tyy cI cJ cZ cM) A ((fun (u9 : SU) => [(h, .inr (7, oM r (upd (upd i 8 (u9.1 0)) 9 (u9.1 1)) j)), ((r 14), .inl (cI, 2, .inl f14)), ((r 34), .inl (cJ, 20, .inr (.inl g34)))]) u)) A) args s 0 0 A) (F0 m 61 ls [.int j61p29_S0]) := by
          intro j61p29_S0 hj61p29_S0 H locs ls hP hD hS hl
          refine lv_istore_n (lv' := [(1, .int j61p29_S0), (0, .ref h)]) hx hb dX7_looked_61 rfl hl (by decide) rfl (fun ls hl => ?_)
          refine lv_aload_n hx hb dX7_looked_62 rfl (lv_at hl 1 rfl) ?_
          refine k_get (D := (dC, dI)) (ci := 7) (v := .int (u_1.1 0)) (C := RX7) (T := TX7) (N := 92) hx hb hts hinX7 hown hK hP 0 rfl rfl 8 (by decide) w_0 rfl rfl dX7_looked_63 ?_
          refine lv_if_ne (tgt := 83) hx hb dX7_looked_66 (by decide) (fun c_66p29 => ?_) (fun c_66p29 => ?_)
          · exact absurd (i_eqc f_13_1 (iR_c (n := 0) (a := 0) (b := 0) (by decide +kernel) (by decide +kernel))) c_66p29
          · have c_66p29 : (u_1.1 0) = 0 := c_66p29
            refine lv_iload_n hx hb dX7_looked_69 rfl (lv_at hl 0 rfl) ?_
            refine lv_iconst (v := (-1)) hx hb dX7_looked_70 (by decide +kernel) ?_
            refine lv_icmp_ne (tgt := 83) hx hb dX7_looked_71 (by decide) (fun c_71p29 => ?_) (fun c_71p29 => ?_)
            · have c_71p29 : ¬ j61p29_S0 = (-1) := c_71p29
              have f_83p29_1 : iR j61p29_S0 0 9 := iR_neL c_71p29 hj61p29_S0 (iR_c (n := (-1)) (a := (-1)) (b := (-1)) (by decide +kernel) (by decide +kernel)) (by decide +kernel)
              refine lv_aload_n hx hb dX7_looked_83 rfl (lv_at hl 1 rfl) ?_
              refine k_get (D := (dC, dI)) (ci := 7) (v := .int (u_1.1 0)) (C := RX7) (T := TX7) (N := 92) hx hb hts hinX7 hown hK hP 0 rfl rfl 8 (by decide) w_0 rfl rfl dX7_looked_84 ?_
              refine lv_if_le (tgt := 94) hx hb dX7_looked_87 (by decide) (fun c_87p29p71 => ?_) (fun c_87p29p71 => ?_)
              · have c_87p29p71 : (u_1.1 0) ≤ 0 := c_87p29p71
                refine lv_iload_n hx hb dX7_looked_94 rfl (lv_at hl 0 rfl) ?_
                exact k_ri B hP hD hS dX7_looked_95 ((fun k9 => match k9 with | 0 => (u_1.1 0) | 1 => (u_1.1 1) | _ => 0), (fun _ => 0), (fun _ => (fun _ => 0)), (fun _ => (fun _ => 0)), (fun _ => 0)) [0, 1, 2] rfl rfl rfl (Nat.le_of_ble_eq_true rfl) (Nat.le_of_ble_eq_true rfl) ⟨(show iR j61p29_S0 0 9 from f_83p29_1), (show iR (u_1.1 0) 0 6 from (iR_w f_13_1 (by decide +kernel)))⟩
              · exact iR_cl (iR_ltL (a' := 0) (b' := (-1)) (i_nle c_87p29p71) (iR_c (n := 0) (a := 0) (b := 0) (by decide +kernel) (by decide +kernel)) f_13_1 (by decide +kernel)) (by decide +kernel)
            · have c_71p29 : j61p29_S0 = (-1) := c_71p29
              have f_74p29_1 : iR j61p29_S0 (-1) (-1) := iR_eqL c_71p29 hj61p29_S0 (iR_c (n := (-1)) (a := (-1)) (b := (-1)) (by decide +kernel) (by decide +kernel)) (by decide +kernel)
              refine lv_aload_n hx hb dX7_looked_74 rfl (lv_at hl 1 rfl) ?_
              refine lv_iconst (v := 3) hx hb dX7_looked_75 (by decide +kernel) ?_
              refine lv_aload_n hx hb dX7_looked_76 rfl (lv_at hl 1 rfl) ?_
              have f_77p29_2 : iR (i 4) 0 1600 := hI 4
              refine k_get (D := (dC, dI)) (ci := 7) (v := .int (i 4)) (C := RX7) (T := TX7) (N := 92) hx hb hts hinX7 hown hK hP 0 rfl rfl 4 (by decide) w_2 rfl rfl dX7_looked_77 ?_
              refine k_cv (wc := [(h, .inr (7, oM r (upd (upd i 8 (u_1.1 0)) 9 (u_1.1 1)) j))]) (wr := [((r 14), .inl (cI, 2, .inl f14)), ((r 34), .inl (cJ, 20, .inr (.inl g34)))]) (fun hPc hDc hFc => va_runV (As := [.int 3, .int (i 4)]) (rest := []) ⟨hx, hb, hml, hown, hts⟩ (s_X7_blame_v8 l dC dI cI cJ cZ cM h r (upd (upd i 8 (u_1.1 0)) 9 (u_1.1 1)) j 3 (i 4) (iR_c (n := 3) (a := 1) (b := 6) (by decide +kernel) (by decide +kernel)) (mR_upd 9 (mR_upd 8 hI (show iR _ (loI 8) (hiI 8) from (iR_w f_13_1 (by decide +kernel)))) (show iR _ (loI 9) (hiI 9) from (iR_top _))) H.size) (cwV 2 hts gX7_looked_X7_blame rfl rfl rfl (by decide +kernel) ⟨(Nat.le_of_ble_eq_true rfl), (Nat.le_of_ble_eq_true rfl)⟩) (k_pV hPc hDc hK hN hC hS hFc hP (q0 := 0) (ci := 7) rfl rfl) rfl rfl hl.1 rfl (lv_room (Nat.le_of_ble_eq_true rfl)) dX7_looked_80 ⟨(Nat.le_of_ble_eq_true rfl), (Nat.le_of_ble_eq_true rfl)⟩) hP hD hS hA [0] [1, 2] rfl rfl rfl rfl (by decide) (fun _ => rfl) 0 0 rfl rfl (fun u_80p29 H locs hw hP hD hS => ?_)
              have g_80p29_0 := hw
              have hP : va_P (dC, dI) vwCl [((r 14), .inl (cI, 2, .inl f14)), ((r 34), .inl (cJ, 20, .inr (.inl g34))), (h, .inr (7, oM r (upd (upd i 8 (u_80p29.1 0)) 9 (u_80p29.1 1)) j))] H := hP
              have hD : va_D A [((r 14), .inl (cI, 2, .inl f14)), ((r 34), .inl (cJ, 20, .inr (.inl g34))), (h, .inr (7, oM r (upd (upd i 8 (u_80p29.1 0)) 9 (u_80p29.1 1)) j))] := hD
              refine lv_aload_n hx hb dX7_looked_83 rfl (lv_at hl 1 rfl) ?_
              refine k_get (D := (dC, dI)) (ci := 7) (v := .int (u_80p29.1 0)) (C := RX7) (T := TX7) (N := 92) hx hb hts hinX7 hown hK hP 2 rfl rfl 8 (by decide) w_0 rfl rfl dX7_looked_84 ?_
              refine lv_if_le (tgt := 94) hx hb dX7_looked_87 (by decide) (fun c_87p29p80 => ?_) (fun c_87p29p80 => ?_)
              · exact iR_cl (iR_leL (a' := 1) (b' := 0) c_87p29p80 g_80p29_0 (iR_c (n := 0) (a := 0) (b := 0) (by decide +kernel) (by decide +kernel)) (by decide +kernel)) (by decide +kernel)
              · have c_87p29p80 : 0 < (u_80p29.1 0) := i_nle c_87p29p80
                refine lv_iconst (v := 0) hx hb dX7_looked_90 (by decide +kernel) ?_
                refine lv_goto (tgt := 95) hx hb dX7_looked_91 (by decide) ?_
                exact k_ri B hP hD hS dX7_looked_95 ((fun k9 => match k9 with | 0 => (u_80p29.1 0) | 1 => (u_80p29.1 1) | _ => 0), (fun _ => 0), (fun _ => (fun _ => 0)), (fun _ => (fun _ => 0)), (fun _ => 0)) [2, 0, 1] rfl rfl rfl (Nat.le_of_ble_eq_true rfl) (Nat.le_of_ble_eq_true rfl) ⟨(show iR 0 0 9 from (iR_c (n := 0) (a := 0) (b := 9) (by decide +kernel) (by decide +kernel))), (show iR (u_80p29.1 0) 0 6 from (iR_w g_80p29_0 (by decide +kernel)))⟩
        refine lv_if_le (tgt := 52) hx hb dX7_looked_45 (by decide) (fun c_45p29 => ?_) (fun c_45p29 => ?_)
        · have c_45p29 : (u_1.1 0) ≤ 0 := c_45p29
          refine lv_aload_n hx hb dX7_looked_52 rfl (lv_at hl 0 rfl) ?_
          refine lv_iconst (v := 0) hx hb dX7_looked_53 (by decide +kernel) ?_
          refine lv_aload_n hx hb dX7_looked_54 rfl (lv_at hl 0 rfl) ?_
          refine k_get (D := (dC, dI)) (ci := 7) (v := .long (j 7)) (C := RX7) (T := TX7) (N := 92) hx hb hts hinX7 hown hK hP 2 rfl rfl 7 (by decide) w_3 rfl rfl dX7_looked_55 ?_
          refine k_ci (wc := [(h, .inr (7, oM r (upd (upd i 8 (u_1.1 0)) 9 (u_1.1 1)) j)), ((r 14), .inl (cI, 2, .inl f14)), ((r 34), .inl (cJ, 20, .inr (.inl g34)))]) (wr := []) (fun hPc hDc hFc => va_runV (As := [.int 0, .long (j 7)]) (rest := []) ⟨hx, hb, hml, hown, hts⟩ (s_X7_named_v4 l dC dI cI cJ cZ cM h r (upd (upd i 8 (u_1.1 0)) 9 (u_1.1 1)) j (j 7) f14 g34 (mR_upd 9 (mR_upd 8 hI (show iR _ (loI 8) (hiI 8) from (iR_w f_13_1 (by decide +kernel)))) (show iR _ (loI 9) (hiI 9) from (iR_top _))) hf14 H.size) (cwV 2 hts gX7_looked_X7_named rfl rfl rfl (by decide +kernel) ⟨(Nat.le_of_ble_eq_true rfl), (Nat.le_of_ble_eq_true rfl)⟩) (k_pV hPc hDc hK hN hC hS hFc hP (q0 := 2) (ci := 7) rfl rfl) rfl rfl hl.1 rfl (lv_room (Nat.le_of_ble_eq_true rfl)) dX7_looked_58 ⟨(Nat.le_of_ble_eq_true rfl), (Nat.le_of_ble_eq_true rfl)⟩) hP hD hS hA [2, 0, 1] [] rfl rfl rfl rfl (by decide) (fun _ => rfl) 0 0 rfl rfl (fun r_58p29 u_58p29 H locs hw hP hD hS => ?_)
          have g_58p29_0 := hw
          have hP : va_P (dC, dI) vwCl [(h, .inr (7, oM r (upd (upd i 8 (u_1.1 0)) 9 (u_1.1 1)) j)), ((r 14), .inl (cI, 2, .inl f14)), ((r 34), .inl (cJ, 20, .inr (.inl g34)))] H := hP
          have hD : va_D A [(h, .inr (7, oM r (upd (upd i 8 (u_1.1 0)) 9 (u_1.1 1)) j)), ((r 14), .inl (cI, 2, .inl f14)), ((r 34), .inl (cJ, 20, .inr (.inl g34)))] := hD
          exact J_61p29 r_58p29 g_58p29_0 H locs ls hP hD hS (lv_sub hl [0] rfl)
        · exact iR_cl (iR_ltL (a' := 0) (b' := (-1)) (i_nle c_45p29) (iR_c (n := 0) (a := 0) (b := 0) (by decide +kernel) (by decide +kernel)) f_13_1 (by decide +kernel)) (by decide +kernel)
      · have c_29 : ¬ r_26 = 0 := c_29
        have f_32_4 : iR r_26 1 1 := iR_neL c_29 g_26_0 (iR_c (n := 0) (a := 0) (b := 0) (by decide +kernel) (by decide +kernel)) (by decide +kernel)
        exact J_32   H locs ls (hP.sub [2, 0, 1] rfl) (hD.sub [2, 0, 1] (by decide +kernel) rfl) hS (lv_sub hl [0] rfl)
  · have c_8 : 0 < (u_1.1 0) := i_nle c_8
    have f_11_1 : iR (u_1.1 0) 1 6 := iR_ltR c_8 (iR_c (n := 0) (a := 0) (b := 0) (by decide +kernel) (by decide +kernel)) g_1_0 (by decide +kernel)
    refine lv_iconst (v := 0) hx hb dX7_looked_11 (by decide +kernel) ?_
    exact k_ri B hP hD hS dX7_looked_12 ((fun k9 => match k9 with | 0 => (u_1.1 0) | 1 => (u_1.1 1) | _ => 0), (fun _ => 0), (fun _ => (fun _ => 0)), (fun _ => (fun _ => 0)), (fun _ => 0)) [2, 0, 1] rfl rfl rfl (Nat.le_of_ble_eq_true rfl) (Nat.le_of_ble_eq_true rfl) ⟨(show iR 0 0 9 from (iR_c (n := 0) (a := 0) (b := 9) (by decide +kernel) (by decide +kernel))), (show iR (u_1.1 0) 0 6 from (iR_w f_11_1 (by decide +kernel)))⟩
set_option maxHeartbeats 8000000 in
set_option maxRecDepth 100000 in
theorem s_X7_firsting_v0 (l : Launch) (dC : Nat → ClassId) (dI : Nat → Nat → Nat) (cI cJ cZ cM : ClassId) (h : Nat) (r : Nat → Nat) (i : Nat → Int32) (j : Nat → Int64) (f0 : Nat → Int32) (f14 : Nat → Int32) (f23 : Nat → Int32) (g34 : Nat → Int64) (hI : mR i) (hf0 : aR f0 0 255) (hf14 : aR f14 0 10) (hf23 : aR f23 0 1023) : k_Mv l yX7_firsting wsX7_firsting ({ frames := 4, cells := 0, slots := 0, locals := 108 }) (dC, dI) vwCl (tyy cI cJ cZ cM) [(h, .inr (7, oM r i j)), ((r 0), .inl (cI, 1800, .inl f0)), ((r 14), .inl (cI, 2, .inl f14)), ((r 23), .inl (cI, 2, .inl f23)), ((r 34), .inl (cJ, 20, .inr (.inl g34)))] [.ref h] 0 0 (fun (u9 : SU) => [(h, .inr (7, oM r (upd (upd (upd (upd (upd (upd (upd i 3 (u9.1 0)) 4 (u9.1 1)) 5 (u9.1 2)) 6 (u9.1 3)) 8 (u9.1 4)) 9 (u9.1 5)) 12 (u9.1 6)) (vp_updL j 7 (u9.2.1 0)))), ((r 0), .inl (cI, 1800, .inl f0)), ((r 14), .inl (cI, 2, .inl f14)), ((r 23), .inl (cI, 2, .inl (u9.2.2.1 0))), ((r 34), .inl (cJ, 20, .inr (.inl g34)))]) (fun (u9 : SU) => (iR (u9.1 0) 0 3) ∧ (iR (u9.1 1) 0 1600) ∧ (iR (u9.1 2) 0 1600) ∧ (iR (u9.1 3) 0 9999) ∧ (iR (u9.1 4) 0 6) ∧ (aR (u9.2.2.1 0) 0 1023)) := by
  refine fun sz => k_enter (cc := cX7_firsting) (maxL := 2) (ret := none) (Qc := fun A => va_Qv (fun (u9 : SU) => (iR (u9.1 0) 0 3) ∧ (iR (u9.1 1) 0 1600) ∧ (iR (u9.1 2) 0 1600) ∧ (iR (u9.1 3) 0 9999) ∧ (iR (u9.1 4) 0 6) ∧ (aR (u9.2.2.1 0) 0 1023)) (fun u => k_B (dC, dI) vwCl (tyy cI cJ cZ cM) A ((fun (u9 : SU) => [(h, .inr (7, oM r (upd (upd (upd (upd (upd (upd (upd i 3 (u9.1 0)) 4 (u9.1 1)) 5 (u9.1 2)) 6 (u9.1 3)) 8 (u9.1 4)) 9 (u9.1 5)) 12 (u9.1 6)) (vp_updL j 7 (u9.2.1 0)))), ((r 0), .inl (cI, 1800, .inl f0)), ((r 14), .inl (cI, 2, .inl f14)), ((r 23), .inl (cI, 2, .inl (u9.2.2.1 0))), ((r 34), .inl (cJ, 20, .inr (.inl g34)))]) u)) A) sz (by decide +kernel) rfl (Nat.le_of_ble_eq_true rfl) (fun p e s m args below meth c A ls H locs B hP hD hS hl => ?_)
  obtain ⟨hx, hb, hml, hown, hts, hr, hlk, hnm, hK, hA, hN, hC⟩ := id B
  have hown : s.vm.findClass RX7 = some m.cls := hown
  have hl : lv_has ls 2 [(0, .ref h)] := hl
  have w_0 : (Cond.fieldLink RX7 36 "WishSeaModel" "faultKind" "I").before args s = true := hts _ (List.mem_of_getElem? (i := 1) rfl)
  have w_1 : (Cond.fieldLink RX7 81 "WishSeaModel" "firstOnes" "[I").before args s = true := hts _ (List.mem_of_getElem? (i := 2) rfl)
  have w_2 : (Cond.fieldLink RX7 124 "WishSeaModel" "in" "I").before args s = true := hts _ (List.mem_of_getElem? (i := 3) rfl)
  have w_3 : (Cond.fieldLink RX7 23 "WishSeaModel" "signAt" "I").before args s = true := hts _ (List.mem_of_getElem? (i := 4) rfl)
  have hinX7 : ∀ w ∈ u_ws RX7 TX7 92, w ∈ wsX7_firsting := fun _ h => List.mem_cons_of_mem _ (List.mem_append_right _ h)
  refine lv_aload_n hx hb dX7_firsting_0 rfl (lv_at hl 0 rfl) ?_
  refine lv_iconst (v := 0) hx hb dX7_firsting_1 (by decide +kernel) ?_
  refine k_ci (wc := [(h, .inr (7, oM r i j)), ((r 0), .inl (cI, 1800, .inl f0))]) (wr := [((r 14), .inl (cI, 2, .inl f14)), ((r 23), .inl (cI, 2, .inl f23)), ((r 34), .inl (cJ, 20, .inr (.inl g34)))]) (fun hPc hDc hFc => va_runV (As := [.int 0]) (rest := []) ⟨hx, hb, hml, hown, hts⟩ (s_X7_counts_v4 l dC dI cI cJ cZ cM h r i j f0 hI hf0 H.size) (cwV 1 hts gX7_firsting_X7_counts rfl rfl rfl (by decide +kernel) ⟨(Nat.le_of_ble_eq_true rfl), (Nat.le_of_ble_eq_true rfl)⟩) (k_pV hPc hDc hK hN hC hS hFc hP (q0 := 0) (ci := 7) rfl rfl) rfl rfl hl.1 rfl (lv_room (Nat.le_of_ble_eq_true rfl)) dX7_firsting_2 ⟨(Nat.le_of_ble_eq_true rfl), (Nat.le_of_ble_eq_true rfl)⟩) hP hD hS hA [0, 1] [2, 3, 4] rfl rfl rfl rfl (by decide) (fun _ => rfl) 0 0 rfl rfl (fun r_2 u_2 H locs hw hP hD hS => ?_)
  obtain ⟨g_2_0, g_2_1, g_2_2, g_2_3, g_2_4⟩ := hw
  have hP : va_P (dC, dI) vwCl [((r 14), .inl (cI, 2, .inl f14)), ((r 23), .inl (cI, 2, .inl f23)), ((r 34), .inl (cJ, 20, .inr (.inl g34))), (h, .inr (7, oM r (upd (upd (upd (upd (upd i 3 (u_2.1 0)) 4 (u_2.1 1)) 5 (u_2.1 2)) 6 (u_2.1 3)) 12 (u_2.1 4)) (vp_updL j 7 (u_2.2.1 0)))), ((r 0), .inl (cI, 1800, .inl f0))] H := hP
  have hD : va_D A [((r 14), .inl (cI, 2, .inl f14)), ((r 23), .inl (cI, 2, .inl f23)), ((r 34), .inl (cJ, 20, .inr (.inl g34))), (h, .inr (7, oM r (upd (upd (upd (upd (upd i 3 (u_2.1 0)) 4 (u_2.1 1)) 5 (u_2.1 2)) 6 (u_2.1 3)) 12 (u_2.1 4)) (vp_updL j 7 (u_2.2.1 0)))), ((r 0), .inl (cI, 1800, .inl f0))] := hD
  refine lv_if_ne (tgt := 9) hx hb dX7_firsting_5 (by decide) (fun c_5 => ?_) (fun c_5 => ?_)
  · have c_5 : ¬ r_2 = 0 := c_5
    have f_9_1 : iR r_2 1 1 := iR_neL c_5 g_2_0 (iR_c (n := 0) (a := 0) (b := 0) (by decide +kernel) (by decide +kernel)) (by decide +kernel)
    refine lv_aload_n hx hb dX7_firsting_9 rfl (lv_at hl 0 rfl) ?_
    refine k_ci (wc := [(h, .inr (7, oM r (upd (upd (upd (upd (upd i 3 (u_2.1 0)) 4 (u_2.1 1)) 5 (u_2.1 2)) 6 (u_2.1 3)) 12 (u_2.1 4)) (vp_updL j 7 (u_2.2.1 0)))), ((r 14), .inl (cI, 2, .inl f14)), ((r 34), .inl (cJ, 20, .inr (.inl g34)))]) (wr := [((r 23), .inl (cI, 2, .inl f23)), ((r 0), .inl (cI, 1800, .inl f0))]) (fun hPc hDc hFc => va_runV (As := []) (rest := []) ⟨hx, hb, hml, hown, hts⟩ (s_X7_looked_v2 l dC dI cI cJ cZ cM h r (upd (upd (upd (upd (upd i 3 (u_2.1 0)) 4 (u_2.1 1)) 5 (u_2.1 2)) 6 (u_2.1 3)) 12 (u_2.1 4)) (vp_updL j 7 (u_2.2.1 0)) f14 g34 (mR_upd 12 (mR_upd 6 (mR_upd 5 (mR_upd 4 (mR_upd 3 hI (show iR _ (loI 3) (hiI 3) from g_2_1)) (show iR _ (loI 4) (hiI 4) from g_2_2)) (show iR _ (loI 5) (hiI 5) from g_2_3)) (show iR _ (loI 6) (hiI 6) from g_2_4)) (show iR _ (loI 12) (hiI 12) from (iR_top _))) hf14 H.size) (cwV 0 hts gX7_firsting_X7_looked rfl rfl rfl (by decide +kernel) ⟨(Nat.le_of_ble_eq_true rfl), (Nat.le_of_ble_eq_true rfl)⟩) (k_pV hPc hDc hK hN hC hS hFc hP (q0 := 3) (ci := 7) rfl rfl) rfl rfl hl.1 rfl (lv_room (Nat.le_of_ble_eq_true rfl)) dX7_firsting_10 ⟨(Nat.le_of_ble_eq_true rfl), (Nat.le_of_ble_eq_true rfl)⟩) hP hD hS hA [3, 0, 2] [1, 4] rfl rfl rfl rfl (by decide) (fun _ => rfl) 0 0 rfl rfl (fun r_10 u_10 H locs hw hP hD hS => ?_)
    obtain ⟨g_10_0, g_10_1⟩ := hw
    have hP : va_P (dC, dI) vwCl [((r 23), .inl (cI, 2, .inl f23)), ((r 0), .inl (cI, 1800, .inl f0)), (h, .inr (7, oM r (upd (upd (upd (upd (upd (upd (upd i 3 (u_2.1 0)) 4 (u_2.1 1)) 5 (u_2.1 2)) 6 (u_2.1 3)) 8 (u_10.1 0)) 9 (u_10.1 1)) 12 (u_2.1 4)) (vp_updL j 7 (u_2.2.1 0)))), ((r 14), .inl (cI, 2, .inl f14)), ((r 34), .inl (cJ, 20, .inr (.inl g34)))] H := hP
    have hD : va_D A [((r 23), .inl (cI, 2, .inl f23)), ((r 0), .inl (cI, 1800, .inl f0)), (h, .inr (7, oM r (upd (upd (upd (upd (upd (upd (upd i 3 (u_2.1 0)) 4 (u_2.1 1)) 5 (u_2.1 2)) 6 (u_2.1 3)) 8 (u_10.1 0)) 9 (u_10.1 1)) 12 (u_2.1 4)) (vp_updL j 7 (u_2.2.1 0)))), ((r 14), .inl (cI, 2, .inl f14)), ((r 34), .inl (cJ, 20, .inr (.inl g34)))] := hD
    refine lv_istore_n (lv' := [(1, .int r_10), (0, .ref h)]) hx hb dX7_firsting_13 rfl hl (by decide) rfl (fun ls hl => ?_)
    refine lv_aload_n hx hb dX7_firsting_14 rfl (lv_at hl 1 rfl) ?_
    refine k_get (D := (dC, dI)) (ci := 7) (v := .int (u_10.1 0)) (C := RX7) (T := TX7) (N := 92) hx hb hts hinX7 hown hK hP 2 rfl rfl 8 (by decide) w_0 rfl rfl dX7_firsting_15 ?_
    have J_47 : ∀ (j47_M0_8 : Int32) (j47_M0_9 : Int32) (hj47_M0_8 : iR j47_M0_8 0 6) (H : Heap) (locs : List Loc) (ls : Array Slot), va_P (dC, dI) vwCl [(h, .inr (7, oM r (upd (upd (upd (upd (upd (upd (upd i 3 (u_2.1 0)) 4 (u_2.1 1)) 5 (u_2.1 2)) 6 (u_2.1 3)) 8 j47_M0_8) 9 j47_M0_9) 12 (u_2.1 4)) (vp_updL j 7 (u_2.2.1 0)))), ((r 0), .inl (cI, 1800, .inl f0)), ((r 14), .inl (cI, 2, .inl f14)), ((r 23), .inl (cI, 2, .inl f23)), ((r 34), .inl (cJ, 20, .inr (.inl g34)))] H → va_D A [(h, .inr (7, oM r (upd (upd (upd (upd (upd (upd (upd i 3 (u_2.1 0)) 4 (u_2.1 1)) 5 (u_2.1 2)) 6 (u_2.1 3)) 8 j47_M0_8) 9 j47_M0_9) 12 (u_2.1 4)) (vp_updL j 7 (u_2.2.1 0)))), ((r 0), .inl (cI, 1800, .inl f0)), ((r 14), .inl (cI, 2, .inl f14)), ((r 23), .inl (cI, 2, .inl f23)), ((r 34), .inl (cJ, 20, .inr (.inl g34)))] → va_S A s.heap H locs → lv_has ls 2 [(0, .ref h), (1, .int r_10)] → W p l e ({ frames := 4, cells := 0, slots := 0, locals := 108 }) s m args below meth c H locs 0 0 (MQ below (va_Qv (fun (u9 : SU) => (iR (u9.1 0) 0 3) ∧ (iR (u9.1 1) 0 1600) ∧ (iR (u9.1 2) 0 1600) ∧ (iR (u9.1 3) 0 9999) ∧ (iR (u9.1 4) 0 6) ∧ (aR (u9.2.2.1 0) 0 1023)) (fun u => k_B (dC, dI) vwCl (tyy cI cJ cZ cM) A ((fun (u9 : SU) => [(h, .inr (7, oM r (upd (upd (upd (upd (upd (upd (upd i 3 (u9.1 0)) 4 (u9.1 1)) 5 (u9.1 2)) 6 (u9.1 3)) 8 (u9.1 4)) 9 (u9.1 5)) 12 (u9.1 6)) (vp_updL j 7 (u9.2.1 0)))), ((r 0), .inl (cI, 1800, .inl f0)), ((r 14), .inl (cI, 2, .inl f14)), ((r 23), .inl (cI, 2, .inl (u9.2.2.1 0))), ((r 34), .inl (cJ, 20, .inr (.inl g34)))]) u)) A) args s 0 0 A) (F0 m 47 ls []) := by
      intro j47_M0_8 j47_M0_9 hj47_M0_8 H locs ls hP hD hS hl
      refine lv_aload_n hx hb dX7_firsting_47 rfl (lv_at hl 0 rfl) ?_
      refine k_get (D := (dC, dI)) (ci := 7) (v := .int j47_M0_8) (C := RX7) (T := TX7) (N := 92) hx hb hts hinX7 hown hK hP 0 rfl rfl 8 (by decide) w_0 rfl rfl dX7_firsting_48 ?_
      refine lv_if_le (tgt := 55) hx hb dX7_firsting_51 (by decide) (fun c_51 => ?_) (fun c_51 => ?_)
      · have c_51 : j47_M0_8 ≤ 0 := c_51
        have f_55_1 : iR j47_M0_8 0 0 := iR_leL c_51 hj47_M0_8 (iR_c (n := 0) (a := 0) (b := 0) (by decide +kernel) (by decide +kernel)) (by decide +kernel)
        refine lv_aload_n hx hb dX7_firsting_55 rfl (lv_at hl 0 rfl) ?_
        refine k_cv (wc := [(h, .inr (7, oM r (upd (upd (upd (upd (upd (upd (upd i 3 (u_2.1 0)) 4 (u_2.1 1)) 5 (u_2.1 2)) 6 (u_2.1 3)) 8 j47_M0_8) 9 j47_M0_9) 12 (u_2.1 4)) (vp_updL j 7 (u_2.2.1 0)))), ((r 0), .inl (cI, 1800, .inl f0))]) (wr := [((r 14), .inl (cI, 2, .inl f14)), ((r 23), .inl (cI, 2, .inl f23)), ((r 34), .inl (cJ, 20, .inr (.inl g34)))]) (fun hPc hDc hFc => va_runV (As := []) (rest := []) ⟨hx, hb, hml, hown, hts⟩ (s_X7_ahead_v8 l dC dI cI cJ cZ cM h r (upd (upd (upd (upd (upd (upd (upd i 3 (u_2.1 0)) 4 (u_2.1 1)) 5 (u_2.1 2)) 6 (u_2.1 3)) 8 j47_M0_8) 9 j47_M0_9) 12 (u_2.1 4)) (vp_updL j 7 (u_2.2.1 0)) f0 (mR_upd 12 (mR_upd 9 (mR_upd 8 (mR_upd 6 (mR_upd 5 (mR_upd 4 (mR_upd 3 hI (show iR _ (loI 3) (hiI 3) from g_2_1)) (show iR _ (loI 4) (hiI 4) from g_2_2)) (show iR _ (loI 5) (hiI 5) from g_2_3)) (show iR _ (loI 6) (hiI 6) from g_2_4)) (show iR _ (loI 8) (hiI 8) from (iR_w f_55_1 (by decide +kernel)))) (show iR _ (loI 9) (hiI 9) from (iR_top _))) (show iR _ (loI 12) (hiI 12) from (iR_top _))) hf0 H.size) (cwV 0 hts gX7_firsting_X7_ahead rfl rfl rfl (by decide +kernel) ⟨(Nat.le_of_ble_eq_true rfl), (Nat.le_of_ble_eq_true rfl)⟩) (k_pV hPc hDc hK hN hC hS hFc hP (q0 := 0) (ci := 7) rfl rfl) rfl rfl hl.1 rfl (lv_room (Nat.le_of_ble_eq_true rfl)) dX7_firsting_56 ⟨(Nat.le_of_ble_eq_true rfl), (Nat.le_of_ble_eq_true rfl)⟩) hP hD hS hA [0, 1] [2, 3, 4] rfl rfl rfl rfl (by decide) (fun _ => rfl) 0 0 rfl rfl (fun u_56 H locs hw hP hD hS => ?_)
        obtain ⟨g_56_0, g_56_1, g_56_2, g_56_3, g_56_4, g_56_5, g_56_6, g_56_7, g_56_8, g_56_9⟩ := hw
        have hP : va_P (dC, dI) vwCl [((r 14), .inl (cI, 2, .inl f14)), ((r 23), .inl (cI, 2, .inl f23)), ((r 34), .inl (cJ, 20, .inr (.inl g34))), (h, .inr (7, oM r (upd (upd (upd (upd (upd (upd (upd i 3 (u_56.1 0)) 4 (u_56.1 1)) 5 (u_56.1 2)) 6 (u_56.1 3)) 8 j47_M0_8) 9 j47_M0_9) 12 (u_56.1 4)) (vp_updL j 7 (u_56.2.1 0)))), ((r 0), .inl (cI, 1800, .inl f0))] H := hP
        have hD : va_D A [((r 14), .inl (cI, 2, .inl f14)), ((r 23), .inl (cI, 2, .inl f23)), ((r 34), .inl (cJ, 20, .inr (.inl g34))), (h, .inr (7, oM r (upd (upd (upd (upd (upd (upd (upd i 3 (u_56.1 0)) 4 (u_56.1 1)) 5 (u_56.1 2)) 6 (u_56.1 3)) 8 j47_M0_8) 9 j47_M0_9) 12 (u_56.1 4)) (vp_updL j 7 (u_56.2.1 0)))), ((r 0), .inl (cI, 1800, .inl f0))] := hD
        have g_56_0 : (u_2.1 2) ≤ (u_56.1 1) := g_56_0
        have g_56_1 : (u_56.1 1) ≤ (u_56.1 2) := g_56_1
        have g_56_7 : TM (u_56.1 2) (u_56.1 0) ≤ TM (u_2.1 2) (u_2.1 0) := g_56_7
        have g_56_8 : ((u_56.1 0) = 0) ∨ (((u_2.1 2) < (u_56.1 2)) ∧ ((u_56.1 1) < (u_56.1 2)) ∧ ((u_56.1 1) < (i 2))) := g_56_8
        have g_56_9 : ((u_2.1 0) = 0) ∨ ((TM (u_56.1 2) (u_56.1 0) < TM (u_2.1 2) (u_2.1 0))) := g_56_9
        refine lv_aload_n hx hb dX7_firsting_59 rfl (lv_at hl 0 rfl) ?_
        refine k_get (D := (dC, dI)) (ci := 7) (v := .ref (r 23)) (C := RX7) (T := TX7) (N := 92) hx hb hts hinX7 hown hK hP 3 rfl rfl 23 (by decide) w_1 rfl rfl dX7_firsting_60 ?_
        refine lv_aload_n hx hb dX7_firsting_63 rfl (lv_at hl 0 rfl) ?_
        have f_64_2 : iR (i 37) 0 1 := hI 37
        refine k_get (D := (dC, dI)) (ci := 7) (v := .int (i 37)) (C := RX7) (T := TX7) (N := 92) hx hb hts hinX7 hown hK hP 3 rfl rfl 37 (by decide) w_2 rfl rfl dX7_firsting_64 ?_
        refine lv_dup2_11 hx hb dX7_firsting_67 rfl rfl ?_
        refine va_iald hx hb hK hP 1 0 rfl rfl (iR_vp f_64_2 (by decide +kernel)) dX7_firsting_68 ?_
        have f_68_3 : iR (f23 (i 37).toNatClampNeg) 0 1023 := hf23 _
        refine lv_iconst (v := 1) hx hb dX7_firsting_69 (by decide +kernel) ?_
        refine lv_iload_n hx hb dX7_firsting_70 rfl (lv_at hl 1 rfl) ?_
        refine lv_ishl hx hb dX7_firsting_71 ?_
        refine lv_topi (fun y_71 ey_71 => ?_)
        have f_71_4 : iR y_71 1 512 := iR_shl 9 ey_71 (iR_c (n := 1) (a := 1) (b := 1) (by decide +kernel) (by decide +kernel)) g_10_0 (by decide +kernel)
        refine lv_ior hx hb dX7_firsting_72 ?_
        refine lv_topi (fun y_72 ey_72 => ?_)
        have f_72_5 : iR y_72 0 1023 := iR_or 10 ey_72 f_68_3 f_71_4 (by decide +kernel)
        refine s_iast (g := (upd f23 (i 37).toNatClampNeg y_72)) (ws' := [((r 14), .inl (cI, 2, .inl f14)), ((r 23), .inl (cI, 2, .inl (upd f23 (i 37).toNatClampNeg y_72))), ((r 34), .inl (cJ, 20, .inr (.inl g34))), (h, .inr (7, oM r (upd (upd (upd (upd (upd (upd (upd i 3 (u_56.1 0)) 4 (u_56.1 1)) 5 (u_56.1 2)) 6 (u_56.1 3)) 8 j47_M0_8) 9 j47_M0_9) 12 (u_56.1 4)) (vp_updL j 7 (u_56.2.1 0)))), ((r 0), .inl (cI, 1800, .inl f0))]) hx hb hK hP hD hS 1 0 rfl rfl (iR_vp f_64_2 (by decide +kernel)) rfl rfl dX7_firsting_73 (fun H locs hP hD hS => ?_)
        exact k_rv B hP hD hS dX7_firsting_74 ((fun k9 => match k9 with | 0 => (u_56.1 0) | 1 => (u_56.1 1) | 2 => (u_56.1 2) | 3 => (u_56.1 3) | 4 => j47_M0_8 | 5 => j47_M0_9 | 6 => (u_56.1 4) | _ => 0), (fun k9 => match k9 with | 0 => (u_56.2.1 0) | _ => 0), (fun k9 => match k9 with | 0 => (upd f23 (i 37).toNatClampNeg y_72) | _ => (fun _ => 0)), (fun _ => (fun _ => 0)), (fun _ => 0)) [3, 4, 0, 1, 2] rfl rfl (Nat.le_of_ble_eq_true rfl) (Nat.le_of_ble_eq_true rfl) ⟨(show iR (u_56.1 0) 0 3 from g_56_2), (show iR (u_56.1 1) 0 1600 from g_56_3), (show iR (u_56.1 2) 0 1600 from g_56_4), (show iR (u_56.1 3) 0 9999 from g_56_5), (show iR j47_M0_8 0 6 from (iR_w f_55_1 (by decide +kernel))), (show aR (upd f23 (i 37).toNatClampNeg y_72) 0 1023 from (aR_upd _ hf23 f_72_5))⟩
      · have c_51 : 0 < j47_M0_8 := i_nle c_51
        have f_54_1 : iR j47_M0_8 1 6 := iR_ltR c_51 (iR_c (n := 0) (a := 0) (b := 0) (by decide +kernel) (by decide +kernel)) hj47_M0_8 (by decide +kernel)
        exact k_rv B hP hD hS dX7_firsting_54 ((fun k9 => match k9 with | 0 => (u_2.1 0) | 1 => (u_2.1 1) | 2 => (u_2.1 2) | 3 => (u_2.1 3) | 4 => j47_M0_8 | 5 => j47_M0_9 | 6 => (u_2.1 4) | _ => 0), (fun k9 => match k9 with | 0 => (u_2.2.1 0) | _ => 0), (fun k9 => match k9 with | 0 => f23 | _ => (fun _ => 0)), (fun _ => (fun _ => 0)), (fun _ => 0)) [0, 1, 2, 3, 4] rfl rfl (Nat.le_of_ble_eq_true rfl) (Nat.le_of_ble_eq_true rfl) ⟨(show iR (u_2.1 0) 0 3 from g_2_1), (show iR (u_2.1 1) 0 1600 from g_2_2), (show iR (u_2.1 2) 0 1600 from g_2_3), (show iR (u_2.1 3) 0 9999 from g_2_4), (show iR j47_M0_8 0 6 from (iR_w f_54_1 (by decide +kernel))), (show aR f23 0 1023 from hf23)⟩
    refine lv_if_ne (tgt := 47) hx hb dX7_firsting_18 (by decide) (fun c_18 => ?_) (fun c_18 => ?_)
    · have c_18 : ¬ (u_10.1 0) = 0 := c_18
      have f_47_2 : iR (u_10.1 0) 1 6 := iR_neL c_18 g_10_1 (iR_c (n := 0) (a := 0) (b := 0) (by decide +kernel) (by decide +kernel)) (by decide +kernel)
      exact J_47 (u_10.1 0) (u_10.1 1) (iR_w f_47_2 (by decide +kernel)) H locs ls (hP.sub [2, 1, 3, 0, 4] rfl) (hD.sub [2, 1, 3, 0, 4] (by decide +kernel) rfl) hS (lv_sub hl [1, 0] rfl)
    · have c_18 : (u_10.1 0) = 0 := c_18
      have f_21_2 : iR (u_10.1 0) 0 0 := iR_eqL c_18 g_10_1 (iR_c (n := 0) (a := 0) (b := 0) (by decide +kernel) (by decide +kernel)) (by decide +kernel)
      refine lv_aload_n hx hb dX7_firsting_21 rfl (lv_at hl 1 rfl) ?_
      refine k_get (D := (dC, dI)) (ci := 7) (v := .ref (r 23)) (C := RX7) (T := TX7) (N := 92) hx hb hts hinX7 hown hK hP 2 rfl rfl 23 (by decide) w_1 rfl rfl dX7_firsting_22 ?_
      refine lv_aload_n hx hb dX7_firsting_25 rfl (lv_at hl 1 rfl) ?_
      have f_26_3 : iR (i 37) 0 1 := hI 37
      refine k_get (D := (dC, dI)) (ci := 7) (v := .int (i 37)) (C := RX7) (T := TX7) (N := 92) hx hb hts hinX7 hown hK hP 2 rfl rfl 37 (by decide) w_2 rfl rfl dX7_firsting_26 ?_
      refine va_iald hx hb hK hP 0 0 rfl rfl (iR_vp f_26_3 (by decide +kernel)) dX7_firsting_29 ?_
      have f_29_4 : iR (f23 (i 37).toNatClampNeg) 0 1023 := hf23 _
      refine lv_iload_n hx hb dX7_firsting_30 rfl (lv_at hl 0 rfl) ?_
      refine lv_ishr hx hb dX7_firsting_31 ?_
      refine lv_topi (fun y_31 ey_31 => ?_)
      have f_31_5 : iR y_31 0 1023 := iR_shr 0 ey_31 f_29_4 g_10_0 (by decide +kernel)
      refine lv_iconst (v := 1) hx hb dX7_firsting_32 (by decide +kernel) ?_
      refine lv_iand hx hb dX7_firsting_33 ?_
      refine lv_topi (fun y_33 ey_33 => ?_)
      have f_33_6 : iR y_33 0 1 := iR_andR ey_33 (iR_c (n := 1) (a := 1) (b := 1) (by decide +kernel) (by decide +kernel)) (by decide +kernel)
      refine lv_iconst (v := 1) hx hb dX7_firsting_34 (by decide +kernel) ?_
      refine lv_icmp_ne (tgt := 47) hx hb dX7_firsting_35 (by decide) (fun c_35 => ?_) (fun c_35 => ?_)
      · have c_35 : ¬ y_33 = 1 := c_35
        have f_47_7 : iR y_33 0 0 := iR_neL c_35 f_33_6 (iR_c (n := 1) (a := 1) (b := 1) (by decide +kernel) (by decide +kernel)) (by decide +kernel)
        exact J_47 (u_10.1 0) (u_10.1 1) (iR_w f_21_2 (by decide +kernel)) H locs ls (hP.sub [2, 1, 3, 0, 4] rfl) (hD.sub [2, 1, 3, 0, 4] (by decide +kernel) rfl) hS (lv_sub hl [1, 0] rfl)
      · have c_35 : y_33 = 1 := c_35
        have f_38_7 : iR y_33 1 1 := iR_eqL c_35 f_33_6 (iR_c (n := 1) (a := 1) (b := 1) (by decide +kernel) (by decide +kernel)) (by decide +kernel)
        refine lv_aload_n hx hb dX7_firsting_38 rfl (lv_at hl 1 rfl) ?_
        refine lv_iconst (v := 3) hx hb dX7_firsting_39 (by decide +kernel) ?_
        refine lv_aload_n hx hb dX7_firsting_40 rfl (lv_at hl 1 rfl) ?_
        refine k_get (D := (dC, dI)) (ci := 7) (v := .int (u_2.1 1)) (C := RX7) (T := TX7) (N := 92) hx hb hts hinX7 hown hK hP 2 rfl rfl 4 (by decide) w_3 rfl rfl dX7_firsting_41 ?_
        refine k_cv (wc := [(h, .inr (7, oM r (upd (upd (upd (upd (upd (upd (upd i 3 (u_2.1 0)) 4 (u_2.1 1)) 5 (u_2.1 2)) 6 (u_2.1 3)) 8 (u_10.1 0)) 9 (u_10.1 1)) 12 (u_2.1 4)) (vp_updL j 7 (u_2.2.1 0))))]) (wr := [((r 23), .inl (cI, 2, .inl f23)), ((r 0), .inl (cI, 1800, .inl f0)), ((r 14), .inl (cI, 2, .inl f14)), ((r 34), .inl (cJ, 20, .inr (.inl g34)))]) (fun hPc hDc hFc => va_runV (As := [.int 3, .int (u_2.1 1)]) (rest := []) ⟨hx, hb, hml, hown, hts⟩ (s_X7_blame_v10 l dC dI cI cJ cZ cM h r (upd (upd (upd (upd (upd (upd (upd i 3 (u_2.1 0)) 4 (u_2.1 1)) 5 (u_2.1 2)) 6 (u_2.1 3)) 8 (u_10.1 0)) 9 (u_10.1 1)) 12 (u_2.1 4)) (vp_updL j 7 (u_2.2.1 0)) 3 (u_2.1 1) (iR_c (n := 3) (a := 1) (b := 6) (by decide +kernel) (by decide +kernel)) (mR_upd 12 (mR_upd 9 (mR_upd 8 (mR_upd 6 (mR_upd 5 (mR_upd 4 (mR_upd 3 hI (show iR _ (loI 3) (hiI 3) from g_2_1)) (show iR _ (loI 4) (hiI 4) from g_2_2)) (show iR _ (loI 5) (hiI 5) from g_2_3)) (show iR _ (loI 6) (hiI 6) from g_2_4)) (show iR _ (loI 8) (hiI 8) from (iR_w f_21_2 (by decide +kernel)))) (show iR _ (loI 9) (hiI 9) from (iR_top _))) (show iR _ (loI 12) (hiI 12) from (iR_top _))) H.size) (cwV 2 hts gX7_firsting_X7_blame rfl rfl rfl (by decide +kernel) ⟨(Nat.le_of_ble_eq_true rfl), (Nat.le_of_ble_eq_true rfl)⟩) (k_pV hPc hDc hK hN hC hS hFc hP (q0 := 2) (ci := 7) rfl rfl) rfl rfl hl.1 rfl (lv_room (Nat.le_of_ble_eq_true rfl)) dX7_firsting_44 ⟨(Nat.le_of_ble_eq_true rfl), (Nat.le_of_ble_eq_true rfl)⟩) hP hD hS hA [2] [0, 1, 3, 4] rfl rfl rfl rfl (by decide) (fun _ => rfl) 0 0 rfl rfl (fun u_44 H locs hw hP hD hS => ?_)
        have g_44_0 := hw
        have hP : va_P (dC, dI) vwCl [((r 23), .inl (cI, 2, .inl f23)), ((r 0), .inl (cI, 1800, .inl f0)), ((r 14), .inl (cI, 2, .inl f14)), ((r 34), .inl (cJ, 20, .inr (.inl g34))), (h, .inr (7, oM r (upd (upd (upd (upd (upd (upd (upd i 3 (u_2.1 0)) 4 (u_2.1 1)) 5 (u_2.1 2)) 6 (u_2.1 3)) 8 (u_44.1 0)) 9 (u_44.1 1)) 12 (u_2.1 4)) (vp_updL j 7 (u_2.2.1 0))))] H := hP
        have hD : va_D A [((r 23), .inl (cI, 2, .inl f23)), ((r 0), .inl (cI, 1800, .inl f0)), ((r 14), .inl (cI, 2, .inl f14)), ((r 34), .inl (cJ, 20, .inr (.inl g34))), (h, .inr (7, oM r (upd (upd (upd (upd (upd (upd (upd i 3 (u_2.1 0)) 4 (u_2.1 1)) 5 (u_2.1 2)) 6 (u_2.1 3)) 8 (u_44.1 0)) 9 (u_44.1 1)) 12 (u_2.1 4)) (vp_updL j 7 (u_2.2.1 0))))] := hD
        exact J_47 (u_44.1 0) (u_44.1 1) (iR_w g_44_0 (by decide +kernel)) H locs ls (hP.sub [4, 1, 2, 0, 3] rfl) (hD.sub [4, 1, 2, 0, 3] (by decide +kernel) rfl) hS (lv_sub hl [1, 0] rfl)
  · have c_5 : r_2 = 0 := c_5
    have f_8_1 : iR r_2 0 0 := iR_eqL c_5 g_2_0 (iR_c (n := 0) (a := 0) (b := 0) (by decide +kernel) (by decide +kernel)) (by decide +kernel)
    exact k_rv B hP hD hS dX7_firsting_8 ((fun k9 => match k9 with | 0 => (u_2.1 0) | 1 => (u_2.1 1) | 2 => (u_2.1 2) | 3 => (u_2.1 3) | 4 => (i 8) | 5 => (i 9) | 6 => (u_2.1 4) | _ => 0), (fun k9 => match k9 with | 0 => (u_2.2.1 0) | _ => 0), (fun k9 => match k9 with | 0 => f23 | _ => (fun _ => 0)), (fun _ => (fun _ => 0)), (fun _ => 0)) [3, 4, 0, 1, 2] rfl rfl (Nat.le_of_ble_eq_true rfl) (Nat.le_of_ble_eq_true rfl) ⟨(show iR (u_2.1 0) 0 3 from g_2_1), (show iR (u_2.1 1) 0 1600 from g_2_2), (show iR (u_2.1 2) 0 1600 from g_2_3), (show iR (u_2.1 3) 0 9999 from g_2_4), (show iR (i 8) 0 6 from (hI 8)), (show aR f23 0 1023 from hf23)⟩
