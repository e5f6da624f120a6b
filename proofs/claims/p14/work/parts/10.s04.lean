set_option maxHeartbeats 8000000 in
set_option maxRecDepth 100000 in
theorem s_X7_counts_v1 (l : Launch) (dC : Nat → ClassId) (dI : Nat → Nat → Nat) (cI cJ cZ cM : ClassId) (h : Nat) (r : Nat → Nat) (i : Nat → Int32) (j : Nat → Int64) (f0 : Nat → Int32) (hI : mR i) (hf0 : aR f0 0 255) : k_Mi l yX7_counts wsX7_counts ({ frames := 3, cells := 0, slots := 0, locals := 87 }) (dC, dI) vwCl (tyy cI cJ cZ cM) [(h, .inr (7, oM r i j)), ((r 0), .inl (cI, 1800, .inl f0))] [.ref h, .int 0] 0 0 (fun (u9 : SU) => [(h, .inr (7, oM r (upd (upd (upd (upd (upd i 3 (u9.1 0)) 4 (u9.1 1)) 5 (u9.1 2)) 6 (u9.1 3)) 12 (u9.1 4)) (vp_updL j 7 (u9.2.1 0)))), ((r 0), .inl (cI, 1800, .inl f0))]) (fun (r9 : Int32) (u9 : SU) => (iR r9 0 1) ∧ (iR (u9.1 0) 0 3) ∧ (iR (u9.1 1) 0 1600) ∧ (iR (u9.1 2) 0 1600) ∧ (iR (u9.1 3) 0 9999)) := by
  refine fun sz => k_enter (cc := cX7_counts) (maxL := 2) (ret := some (.boolean)) (Qc := fun A => va_Qi (fun (r9 : Int32) (u9 : SU) => (iR r9 0 1) ∧ (iR (u9.1 0) 0 3) ∧ (iR (u9.1 1) 0 1600) ∧ (iR (u9.1 2) 0 1600) ∧ (iR (u9.1 3) 0 9999)) (fun u => k_B (dC, dI) vwCl (tyy cI cJ cZ cM) A ((fun (u9 : SU) => [(h, .inr (7, oM r (upd (upd (upd (upd (upd i 3 (u9.1 0)) 4 (u9.1 1)) 5 (u9.1 2)) 6 (u9.1 3)) 12 (u9.1 4)) (vp_updL j 7 (u9.2.1 0)))), ((r 0), .inl (cI, 1800, .inl f0))]) u)) A) sz (by decide +kernel) rfl (Nat.le_of_ble_eq_true rfl) (fun p e s m args below meth c A ls H locs B hP hD hS hl => ?_)
  obtain ⟨hx, hb, hml, hown, hts, hr, hlk, hnm, hK, hA, hN, hC⟩ := id B
  have hown : s.vm.findClass RX7 = some m.cls := hown
  have hl : lv_has ls 2 [(0, .ref h), (1, .int 0)] := hl
  have w_0 : (Cond.fieldLink RX7 36 "WishSeaModel" "faultKind" "I").before args s = true := hts _ (List.mem_of_getElem? (i := 1) rfl)
  have hinX7 : ∀ w ∈ u_ws RX7 TX7 92, w ∈ wsX7_counts := fun _ h => List.mem_cons_of_mem _ (List.mem_append_right _ h)
  refine lv_aload_n hx hb dX7_counts_0 rfl (lv_at hl 0 rfl) ?_
  have f_1_1 : iR (i 8) 0 6 := hI 8
  refine k_get (D := (dC, dI)) (ci := 7) (v := .int (i 8)) (C := RX7) (T := TX7) (N := 92) hx hb hts hinX7 hown hK hP 0 rfl rfl 8 (by decide) w_0 rfl rfl dX7_counts_1 ?_
  refine lv_if_ne (tgt := 21) hx hb dX7_counts_4 (by decide) (fun c_4 => ?_) (fun c_4 => ?_)
  · have c_4 : ¬ (i 8) = 0 := c_4
    have f_21_2 : iR (i 8) 1 6 := iR_neL c_4 f_1_1 (iR_c (n := 0) (a := 0) (b := 0) (by decide +kernel) (by decide +kernel)) (by decide +kernel)
    refine lv_aload_n hx hb dX7_counts_21 rfl (lv_at hl 0 rfl) ?_
    refine k_get (D := (dC, dI)) (ci := 7) (v := .int (i 8)) (C := RX7) (T := TX7) (N := 92) hx hb hts hinX7 hown hK hP 0 rfl rfl 8 (by decide) w_0 rfl rfl dX7_counts_22 ?_
    refine lv_if_ne (tgt := 32) hx hb dX7_counts_25 (by decide) (fun c_25p4 => ?_) (fun c_25p4 => ?_)
    · have c_25p4 : ¬ (i 8) = 0 := c_25p4
      refine lv_aload_n hx hb dX7_counts_32 rfl (lv_at hl 0 rfl) ?_
      refine k_get (D := (dC, dI)) (ci := 7) (v := .int (i 8)) (C := RX7) (T := TX7) (N := 92) hx hb hts hinX7 hown hK hP 0 rfl rfl 8 (by decide) w_0 rfl rfl dX7_counts_33 ?_
      refine lv_if_ne (tgt := 43) hx hb dX7_counts_36 (by decide) (fun c_36p4p25 => ?_) (fun c_36p4p25 => ?_)
      · have c_36p4p25 : ¬ (i 8) = 0 := c_36p4p25
        refine lv_iconst (v := 0) hx hb dX7_counts_43 (by decide +kernel) ?_
        exact k_ri B hP hD hS dX7_counts_44 ((fun k9 => match k9 with | 0 => (i 3) | 1 => (i 4) | 2 => (i 5) | 3 => (i 6) | 4 => (i 12) | _ => 0), (fun k9 => match k9 with | 0 => (j 7) | _ => 0), (fun _ => (fun _ => 0)), (fun _ => (fun _ => 0)), (fun _ => 0)) [0, 1] rfl rfl rfl (Nat.le_of_ble_eq_true rfl) (Nat.le_of_ble_eq_true rfl) ⟨(show iR 0 0 1 from (iR_c (n := 0) (a := 0) (b := 1) (by decide +kernel) (by decide +kernel))), (show iR (i 3) 0 3 from (hI 3)), (show iR (i 4) 0 1600 from (hI 4)), (show iR (i 5) 0 1600 from (hI 5)), (show iR (i 6) 0 9999 from (hI 6))⟩
      · exact iR_cl (iR_eqL (a' := 1) (b' := 0) c_36p4p25 f_21_2 (iR_c (n := 0) (a := 0) (b := 0) (by decide +kernel) (by decide +kernel)) (by decide +kernel)) (by decide +kernel)
    · exact iR_cl (iR_eqL (a' := 1) (b' := 0) c_25p4 f_21_2 (iR_c (n := 0) (a := 0) (b := 0) (by decide +kernel) (by decide +kernel)) (by decide +kernel)) (by decide +kernel)
  · have c_4 : (i 8) = 0 := c_4
    have f_7_2 : iR (i 8) 0 0 := iR_eqL c_4 f_1_1 (iR_c (n := 0) (a := 0) (b := 0) (by decide +kernel) (by decide +kernel)) (by decide +kernel)
    refine lv_iload_n hx hb dX7_counts_7 rfl (lv_at hl 1 rfl) ?_
    refine lv_if_eq (tgt := 21) hx hb dX7_counts_8 (by decide) (fun _ => ?_) (fun q9 => absurd q9 (by decide +kernel))
    refine lv_aload_n hx hb dX7_counts_21 rfl (lv_at hl 0 rfl) ?_
    refine k_get (D := (dC, dI)) (ci := 7) (v := .int (i 8)) (C := RX7) (T := TX7) (N := 92) hx hb hts hinX7 hown hK hP 0 rfl rfl 8 (by decide) w_0 rfl rfl dX7_counts_22 ?_
    refine lv_if_ne (tgt := 32) hx hb dX7_counts_25 (by decide) (fun c_25p8 => ?_) (fun c_25p8 => ?_)
    · exact absurd (i_eqc f_7_2 (iR_c (n := 0) (a := 0) (b := 0) (by decide +kernel) (by decide +kernel))) c_25p8
    · have c_25p8 : (i 8) = 0 := c_25p8
      refine lv_aload_n hx hb dX7_counts_28 rfl (lv_at hl 0 rfl) ?_
      refine k_cv (wc := [(h, .inr (7, oM r i j)), ((r 0), .inl (cI, 1800, .inl f0))]) (wr := []) (fun hPc hDc hFc => va_runV (As := []) (rest := []) ⟨hx, hb, hml, hown, hts⟩ (s_X7_ahead_v1 l dC dI cI cJ cZ cM h r i j f0 hI hf0 H.size) (cwV 0 hts gX7_counts_X7_ahead rfl rfl rfl (by decide +kernel) ⟨(Nat.le_of_ble_eq_true rfl), (Nat.le_of_ble_eq_true rfl)⟩) (k_pV hPc hDc hK hN hC hS hFc hP (q0 := 0) (ci := 7) rfl rfl) rfl rfl hl.1 rfl (lv_room (Nat.le_of_ble_eq_true rfl)) dX7_counts_29 ⟨(Nat.le_of_ble_eq_true rfl), (Nat.le_of_ble_eq_true rfl)⟩) hP hD hS hA [0, 1] [] rfl rfl rfl rfl (by decide) (fun _ => rfl) 0 0 rfl rfl (fun u_29p8 H locs hw hP hD hS => ?_)
      obtain ⟨g_29p8_0, g_29p8_1, g_29p8_2, g_29p8_3, g_29p8_4, g_29p8_5, g_29p8_6, g_29p8_7, g_29p8_8, g_29p8_9⟩ := hw
      have hP : va_P (dC, dI) vwCl [(h, .inr (7, oM r (upd (upd (upd (upd (upd i 3 (u_29p8.1 0)) 4 (u_29p8.1 1)) 5 (u_29p8.1 2)) 6 (u_29p8.1 3)) 12 (u_29p8.1 4)) (vp_updL j 7 (u_29p8.2.1 0)))), ((r 0), .inl (cI, 1800, .inl f0))] H := hP
      have hD : va_D A [(h, .inr (7, oM r (upd (upd (upd (upd (upd i 3 (u_29p8.1 0)) 4 (u_29p8.1 1)) 5 (u_29p8.1 2)) 6 (u_29p8.1 3)) 12 (u_29p8.1 4)) (vp_updL j 7 (u_29p8.2.1 0)))), ((r 0), .inl (cI, 1800, .inl f0))] := hD
      refine lv_aload_n hx hb dX7_counts_32 rfl (lv_at hl 0 rfl) ?_
      refine k_get (D := (dC, dI)) (ci := 7) (v := .int (i 8)) (C := RX7) (T := TX7) (N := 92) hx hb hts hinX7 hown hK hP 0 rfl rfl 8 (by decide) w_0 rfl rfl dX7_counts_33 ?_
      refine lv_if_ne (tgt := 43) hx hb dX7_counts_36 (by decide) (fun c_36p8p29 => ?_) (fun c_36p8p29 => ?_)
      · exact absurd (i_eqc f_7_2 (iR_c (n := 0) (a := 0) (b := 0) (by decide +kernel) (by decide +kernel))) c_36p8p29
      · have c_36p8p29 : (i 8) = 0 := c_36p8p29
        refine lv_iconst (v := 1) hx hb dX7_counts_39 (by decide +kernel) ?_
        refine lv_goto (tgt := 44) hx hb dX7_counts_40 (by decide) ?_
        exact k_ri B hP hD hS dX7_counts_44 ((fun k9 => match k9 with | 0 => (u_29p8.1 0) | 1 => (u_29p8.1 1) | 2 => (u_29p8.1 2) | 3 => (u_29p8.1 3) | 4 => (u_29p8.1 4) | _ => 0), (fun k9 => match k9 with | 0 => (u_29p8.2.1 0) | _ => 0), (fun _ => (fun _ => 0)), (fun _ => (fun _ => 0)), (fun _ => 0)) [0, 1] rfl rfl rfl (Nat.le_of_ble_eq_true rfl) (Nat.le_of_ble_eq_true rfl) ⟨(show iR 1 0 1 from (iR_c (n := 1) (a := 0) (b := 1) (by decide +kernel) (by decide +kernel))), (show iR (u_29p8.1 0) 0 3 from g_29p8_2), (show iR (u_29p8.1 1) 0 1600 from g_29p8_3), (show iR (u_29p8.1 2) 0 1600 from g_29p8_4), (show iR (u_29p8.1 3) 0 9999 from g_29p8_5)⟩
set_option maxHeartbeats 8000000 in
set_option maxRecDepth 100000 in
theorem s_X7_blame_v3 (l : Launch) (dC : Nat → ClassId) (dI : Nat → Nat → Nat) (cI cJ cZ cM : ClassId) (h : Nat) (r : Nat → Nat) (i : Nat → Int32) (j : Nat → Int64) (x1 : Int32) (x2 : Int32) (hx1 : iR x1 1 6) (hI : mR i) : k_Mv l yX7_blame wsX7_blame ({ frames := 1, cells := 0, slots := 0, locals := 40 }) (dC, dI) vwCl (tyy cI cJ cZ cM) [(h, .inr (7, oM r i j))] [.ref h, .int x1, .int x2] 0 0 (fun (u9 : SU) => [(h, .inr (7, oM r (upd (upd i 8 (u9.1 0)) 9 (u9.1 1)) j))]) (fun (u9 : SU) => (iR (u9.1 0) 1 6)) := by
  refine fun sz => k_enter (cc := cX7_blame) (maxL := 3) (ret := none) (Qc := fun A => va_Qv (fun (u9 : SU) => (iR (u9.1 0) 1 6)) (fun u => k_B (dC, dI) vwCl (tyy cI cJ cZ cM) A ((fun (u9 : SU) => [(h, .inr (7, oM r (upd (upd i 8 (u9.1 0)) 9 (u9.1 1)) j))]) u)) A) sz (by decide +kernel) rfl (Nat.le_of_ble_eq_true rfl) (fun p e s m args below meth c A ls H locs B hP hD hS hl => ?_)
  obtain ⟨hx, hb, hml, hown, hts, hr, hlk, hnm, hK, hA, hN, hC⟩ := id B
  have hown : s.vm.findClass RX7 = some m.cls := hown
  have hl : lv_has ls 3 [(0, .ref h), (1, .int x1), (2, .int x2)] := hl
  have w_0 : (Cond.fieldLink RX7 36 "WishSeaModel" "faultKind" "I").before args s = true := hts _ (List.mem_of_getElem? (i := 1) rfl)
  have w_1 : (Cond.fieldLink RX7 39 "WishSeaModel" "faultPlace" "I").before args s = true := hts _ (List.mem_of_getElem? (i := 2) rfl)
  have hinX7 : ∀ w ∈ u_ws RX7 TX7 92, w ∈ wsX7_blame := fun _ h => List.mem_cons_of_mem _ (List.mem_append_right _ h)
  refine lv_aload_n hx hb dX7_blame_0 rfl (lv_at hl 0 rfl) ?_
  have f_1_1 : iR (i 8) 0 6 := hI 8
  refine k_get (D := (dC, dI)) (ci := 7) (v := .int (i 8)) (C := RX7) (T := TX7) (N := 92) hx hb hts hinX7 hown hK hP 0 rfl rfl 8 (by decide) w_0 rfl rfl dX7_blame_1 ?_
  refine lv_if_le (tgt := 8) hx hb dX7_blame_4 (by decide) (fun c_4 => ?_) (fun c_4 => ?_)
  · have c_4 : (i 8) ≤ 0 := c_4
    have f_8_2 : iR (i 8) 0 0 := iR_leL c_4 f_1_1 (iR_c (n := 0) (a := 0) (b := 0) (by decide +kernel) (by decide +kernel)) (by decide +kernel)
    refine lv_aload_n hx hb dX7_blame_8 rfl (lv_at hl 0 rfl) ?_
    refine lv_iload_n hx hb dX7_blame_9 rfl (lv_at hl 1 rfl) ?_
    refine k_put (D := (dC, dI)) (ci := 7) (v := .int x1) (C := RX7) (T := TX7) (N := 92) (ws' := [(h, .inr (7, oM r (upd i 8 x1) j))]) hx hb hts hinX7 tyX7 tyX7_ok nmX7 hown hK hP hD hS 0 rfl rfl 8 (by decide) w_0 rfl rfl rfl rfl (Nat.le_of_ble_eq_true rfl) rfl dX7_blame_10 (fun H locs hP hD hS => ?_)
    refine lv_aload_n hx hb dX7_blame_13 rfl (lv_at hl 0 rfl) ?_
    refine lv_iload_n hx hb dX7_blame_14 rfl (lv_at hl 2 rfl) ?_
    refine k_put (D := (dC, dI)) (ci := 7) (v := .int x2) (C := RX7) (T := TX7) (N := 92) (ws' := [(h, .inr (7, oM r (upd (upd i 8 x1) 9 x2) j))]) hx hb hts hinX7 tyX7 tyX7_ok nmX7 hown hK hP hD hS 0 rfl rfl 9 (by decide) w_1 rfl rfl rfl rfl (Nat.le_of_ble_eq_true rfl) rfl dX7_blame_15 (fun H locs hP hD hS => ?_)
    exact k_rv B hP hD hS dX7_blame_18 ((fun k9 => match k9 with | 0 => x1 | 1 => x2 | _ => 0), (fun _ => 0), (fun _ => (fun _ => 0)), (fun _ => (fun _ => 0)), (fun _ => 0)) [0] rfl rfl (Nat.le_of_ble_eq_true rfl) (Nat.le_of_ble_eq_true rfl) (show iR x1 1 6 from hx1)
  · have c_4 : 0 < (i 8) := i_nle c_4
    have f_7_2 : iR (i 8) 1 6 := iR_ltR c_4 (iR_c (n := 0) (a := 0) (b := 0) (by decide +kernel) (by decide +kernel)) f_1_1 (by decide +kernel)
    exact k_rv B hP hD hS dX7_blame_7 ((fun k9 => match k9 with | 0 => (i 8) | 1 => (i 9) | _ => 0), (fun _ => 0), (fun _ => (fun _ => 0)), (fun _ => (fun _ => 0)), (fun _ => 0)) [0] rfl rfl (Nat.le_of_ble_eq_true rfl) (Nat.le_of_ble_eq_true rfl) (show iR (i 8) 1 6 from f_7_2)
set_option maxHeartbeats 8000000 in
set_option maxRecDepth 100000 in
theorem s_X7_lex_v2 (l : Launch) (dC : Nat → ClassId) (dI : Nat → Nat → Nat) (cI cJ cZ cM : ClassId) (h : Nat) (r : Nat → Nat) (i : Nat → Int32) (j : Nat → Int64) (hI : mR i) : k_Mv l yX7_lex wsX7_lex ({ frames := 2, cells := 0, slots := 0, locals := 62 }) (dC, dI) vwCl (tyy cI cJ cZ cM) [(h, .inr (7, oM r i j))] [.ref h] 0 0 (fun (u9 : SU) => [(h, .inr (7, oM r (upd (upd i 8 (u9.1 0)) 9 (u9.1 1)) j))]) (fun (u9 : SU) => (iR (u9.1 0) 0 6)) := by
  refine fun sz => k_enter (cc := cX7_lex) (maxL := 1) (ret := none) (Qc := fun A => va_Qv (fun (u9 : SU) => (iR (u9.1 0) 0 6)) (fun u => k_B (dC, dI) vwCl (tyy cI cJ cZ cM) A ((fun (u9 : SU) => [(h, .inr (7, oM r (upd (upd i 8 (u9.1 0)) 9 (u9.1 1)) j))]) u)) A) sz (by decide +kernel) rfl (Nat.le_of_ble_eq_true rfl) (fun p e s m args below meth c A ls H locs B hP hD hS hl => ?_)
  obtain ⟨hx, hb, hml, hown, hts, hr, hlk, hnm, hK, hA, hN, hC⟩ := id B
  have hown : s.vm.findClass RX7 = some m.cls := hown
  have hl : lv_has ls 1 [(0, .ref h)] := hl
  have w_0 : (Cond.fieldLink RX7 48 "WishSeaModel" "lexAt" "I").before args s = true := hts _ (List.mem_of_getElem? (i := 1) rfl)
  have hinX7 : ∀ w ∈ u_ws RX7 TX7 92, w ∈ wsX7_lex := fun _ h => List.mem_cons_of_mem _ (List.mem_append_right _ h)
  refine lv_aload_n hx hb dX7_lex_0 rfl (lv_at hl 0 rfl) ?_
  refine k_get (D := (dC, dI)) (ci := 7) (v := .int (i 12)) (C := RX7) (T := TX7) (N := 92) hx hb hts hinX7 hown hK hP 0 rfl rfl 12 (by decide) w_0 rfl rfl dX7_lex_1 ?_
  refine lv_iconst (v := (-1)) hx hb dX7_lex_4 (by decide +kernel) ?_
  refine lv_icmp_eq (tgt := 17) hx hb dX7_lex_5 (by decide) (fun c_5 => ?_) (fun c_5 => ?_)
  · have c_5 : (i 12) = (-1) := c_5
    have f_17_1 : iR (i 12) (-1) (-1) := iR_eqL c_5 (iR_top _) (iR_c (n := (-1)) (a := (-1)) (b := (-1)) (by decide +kernel) (by decide +kernel)) (by decide +kernel)
    exact k_rv B hP hD hS dX7_lex_17 ((fun k9 => match k9 with | 0 => (i 8) | 1 => (i 9) | _ => 0), (fun _ => 0), (fun _ => (fun _ => 0)), (fun _ => (fun _ => 0)), (fun _ => 0)) [0] rfl rfl (Nat.le_of_ble_eq_true rfl) (Nat.le_of_ble_eq_true rfl) (show iR (i 8) 0 6 from (hI 8))
  · have c_5 : ¬ (i 12) = (-1) := c_5
    refine lv_aload_n hx hb dX7_lex_8 rfl (lv_at hl 0 rfl) ?_
    refine lv_iconst (v := 1) hx hb dX7_lex_9 (by decide +kernel) ?_
    refine lv_aload_n hx hb dX7_lex_10 rfl (lv_at hl 0 rfl) ?_
    refine k_get (D := (dC, dI)) (ci := 7) (v := .int (i 12)) (C := RX7) (T := TX7) (N := 92) hx hb hts hinX7 hown hK hP 0 rfl rfl 12 (by decide) w_0 rfl rfl dX7_lex_11 ?_
    refine k_cv (wc := [(h, .inr (7, oM r i j))]) (wr := []) (fun hPc hDc hFc => va_runV (As := [.int 1, .int (i 12)]) (rest := []) ⟨hx, hb, hml, hown, hts⟩ (s_X7_blame_v1 l dC dI cI cJ cZ cM h r i j 1 (i 12) (iR_c (n := 1) (a := 1) (b := 6) (by decide +kernel) (by decide +kernel)) hI H.size) (cwV 2 hts gX7_lex_X7_blame rfl rfl rfl (by decide +kernel) ⟨(Nat.le_of_ble_eq_true rfl), (Nat.le_of_ble_eq_true rfl)⟩) (k_pV hPc hDc hK hN hC hS hFc hP (q0 := 0) (ci := 7) rfl rfl) rfl rfl hl.1 rfl (lv_room (Nat.le_of_ble_eq_true rfl)) dX7_lex_14 ⟨(Nat.le_of_ble_eq_true rfl), (Nat.le_of_ble_eq_true rfl)⟩) hP hD hS hA [0] [] rfl rfl rfl rfl (by decide) (fun _ => rfl) 0 0 rfl rfl (fun u_14 H locs hw hP hD hS => ?_)
    have g_14_0 := hw
    have hP : va_P (dC, dI) vwCl [(h, .inr (7, oM r (upd (upd i 8 (u_14.1 0)) 9 (u_14.1 1)) j))] H := hP
    have hD : va_D A [(h, .inr (7, oM r (upd (upd i 8 (u_14.1 0)) 9 (u_14.1 1)) j))] := hD
    exact k_rv B hP hD hS dX7_lex_17 ((fun k9 => match k9 with | 0 => (u_14.1 0) | 1 => (u_14.1 1) | _ => 0), (fun _ => 0), (fun _ => (fun _ => 0)), (fun _ => (fun _ => 0)), (fun _ => 0)) [0] rfl rfl (Nat.le_of_ble_eq_true rfl) (Nat.le_of_ble_eq_true rfl) (show iR (u_14.1 0) 0 6 from (iR_w g_14_0 (by decide +kernel)))
set_option maxHeartbeats 8000000 in
set_option maxRecDepth 100000 in
theorem s_X7_number_v1 (l : Launch) (dC : Nat → ClassId) (dI : Nat → Nat → Nat) (cI cJ cZ cM : ClassId) (h : Nat) (r : Nat → Nat) (i : Nat → Int32) (j : Nat → Int64) (x1 : Int32) (x2 : Int32) (f0 : Nat → Int32) (hI : mR i) (hf0 : aR f0 0 255) : k_Mi l yX7_number wsX7_number ({ frames := 3, cells := 0, slots := 0, locals := 87 }) (dC, dI) vwCl (tyy cI cJ cZ cM) [(h, .inr (7, oM r i j)), ((r 0), .inl (cI, 1800, .inl f0))] [.ref h, .int x1, .int x2] 0 0 (fun (u9 : SU) => [(h, .inr (7, oM r (upd (upd (upd (upd (upd (upd (upd i 3 (u9.1 0)) 4 (u9.1 1)) 5 (u9.1 2)) 6 (u9.1 3)) 8 (u9.1 4)) 9 (u9.1 5)) 12 (u9.1 6)) (vp_updL j 7 (u9.2.1 0)))), ((r 0), .inl (cI, 1800, .inl f0))]) (fun (r9 : Int32) (u9 : SU) => (iR r9 0 9999) ∧ (iR (u9.1 0) 0 3) ∧ (iR (u9.1 1) 0 1600) ∧ (iR (u9.1 2) 0 1600) ∧ (iR (u9.1 3) 0 9999) ∧ (iR (u9.1 4) 0 6) ∧ ((0 < (u9.1 4)) ∨ ((x1 ≤ r9) ∧ (r9 ≤ x2)))) := by
  refine fun sz => k_enter (cc := cX7_number) (maxL := 4) (ret := some (.int)) (Qc := fun A => va_Qi (fun (r9 : Int32) (u9 : SU) => (iR r9 0 9999) ∧ (iR (u9.1 0) 0 3) ∧ (iR (u9.1 1) 0 1600) ∧ (iR (u9.1 2) 0 1600) ∧ (iR (u9.1 3) 0 9999) ∧ (iR (u9.1 4) 0 6) ∧ ((0 < (u9.1 4)) ∨ ((x1 ≤ r9) ∧ (r9 ≤ x2)))) (fun u => k_B (dC, dI) vwCl (tyy cI cJ cZ cM) A ((fun (u9 : SU) => [(h, .inr (7, oM r (upd (upd (upd (upd (upd (upd (upd i 3 (u9.1 0)) 4 (u9.1 1)) 5 (u9.1 2)) 6 (u9.1 3)) 8 (u9.1 4)) 9 (u9.1 5)) 12 (u9.1 6)) (vp_updL j 7 (u9.2.1 0)))), ((r 0), .inl (cI, 1800, .inl f0))]) u)) A) sz (by decide +kernel) rfl (Nat.le_of_ble_eq_true rfl) (fun p e s m args below meth c A ls H locs B hP hD hS hl => ?_)
  obtain ⟨hx, hb, hml, hown, hts, hr, hlk, hnm, hK, hA, hN, hC⟩ := id B
  have hown : s.vm.findClass RX7 = some m.cls := hown
  have hl : lv_has ls 4 [(0, .ref h), (1, .int x1), (2, .int x2)] := hl
  have w_0 : (Cond.fieldLink RX7 36 "WishSeaModel" "faultKind" "I").before args s = true := hts _ (List.mem_of_getElem? (i := 1) rfl)
  have w_1 : (Cond.fieldLink RX7 20 "WishSeaModel" "sign" "I").before args s = true := hts _ (List.mem_of_getElem? (i := 2) rfl)
  have w_2 : (Cond.fieldLink RX7 29 "WishSeaModel" "value" "I").before args s = true := hts _ (List.mem_of_getElem? (i := 4) rfl)
  have w_3 : (Cond.fieldLink RX7 23 "WishSeaModel" "signAt" "I").before args s = true := hts _ (List.mem_of_getElem? (i := 3) rfl)
  have hinX7 : ∀ w ∈ u_ws RX7 TX7 92, w ∈ wsX7_number := fun _ h => List.mem_cons_of_mem _ (List.mem_append_right _ h)
  refine lv_aload_n hx hb dX7_number_0 rfl (lv_at hl 0 rfl) ?_
  refine k_cv (wc := [(h, .inr (7, oM r i j))]) (wr := [((r 0), .inl (cI, 1800, .inl f0))]) (fun hPc hDc hFc => va_runV (As := []) (rest := []) ⟨hx, hb, hml, hown, hts⟩ (s_X7_lex_v1 l dC dI cI cJ cZ cM h r i j hI H.size) (cwV 0 hts gX7_number_X7_lex rfl rfl rfl (by decide +kernel) ⟨(Nat.le_of_ble_eq_true rfl), (Nat.le_of_ble_eq_true rfl)⟩) (k_pV hPc hDc hK hN hC hS hFc hP (q0 := 0) (ci := 7) rfl rfl) rfl rfl hl.1 rfl (lv_room (Nat.le_of_ble_eq_true rfl)) dX7_number_1 ⟨(Nat.le_of_ble_eq_true rfl), (Nat.le_of_ble_eq_true rfl)⟩) hP hD hS hA [0] [1] rfl rfl rfl rfl (by decide) (fun _ => rfl) 0 0 rfl rfl (fun u_1 H locs hw hP hD hS => ?_)
  have g_1_0 := hw
  have hP : va_P (dC, dI) vwCl [((r 0), .inl (cI, 1800, .inl f0)), (h, .inr (7, oM r (upd (upd i 8 (u_1.1 0)) 9 (u_1.1 1)) j))] H := hP
  have hD : va_D A [((r 0), .inl (cI, 1800, .inl f0)), (h, .inr (7, oM r (upd (upd i 8 (u_1.1 0)) 9 (u_1.1 1)) j))] := hD
  refine lv_aload_n hx hb dX7_number_4 rfl (lv_at hl 0 rfl) ?_
  refine k_get (D := (dC, dI)) (ci := 7) (v := .int (u_1.1 0)) (C := RX7) (T := TX7) (N := 92) hx hb hts hinX7 hown hK hP 1 rfl rfl 8 (by decide) w_0 rfl rfl dX7_number_5 ?_
  refine lv_if_le (tgt := 13) hx hb dX7_number_8 (by decide) (fun c_8 => ?_) (fun c_8 => ?_)
  · have c_8 : (u_1.1 0) ≤ 0 := c_8
    have f_13_1 : iR (u_1.1 0) 0 0 := iR_leL c_8 g_1_0 (iR_c (n := 0) (a := 0) (b := 0) (by decide +kernel) (by decide +kernel)) (by decide +kernel)
    refine lv_aload_n hx hb dX7_number_13 rfl (lv_at hl 0 rfl) ?_
    have f_14_2 : iR (i 3) 0 3 := hI 3
    refine k_get (D := (dC, dI)) (ci := 7) (v := .int (i 3)) (C := RX7) (T := TX7) (N := 92) hx hb hts hinX7 hown hK hP 1 rfl rfl 3 (by decide) w_1 rfl rfl dX7_number_14 ?_
    refine lv_iconst (v := 2) hx hb dX7_number_17 (by decide +kernel) ?_
    refine lv_icmp_eq (tgt := 30) hx hb dX7_number_18 (by decide) (fun c_18 => ?_) (fun c_18 => ?_)
    · have c_18 : (i 3) = 2 := c_18
      have f_30_3 : iR (i 3) 2 2 := iR_eqL c_18 f_14_2 (iR_c (n := 2) (a := 2) (b := 2) (by decide +kernel) (by decide +kernel)) (by decide +kernel)
      refine lv_aload_n hx hb dX7_number_30 rfl (lv_at hl 0 rfl) ?_
      refine k_get (D := (dC, dI)) (ci := 7) (v := .int (u_1.1 0)) (C := RX7) (T := TX7) (N := 92) hx hb hts hinX7 hown hK hP 1 rfl rfl 8 (by decide) w_0 rfl rfl dX7_number_31 ?_
      refine lv_if_ne (tgt := 58) hx hb dX7_number_34 (by decide) (fun c_34p18 => ?_) (fun c_34p18 => ?_)
      · exact absurd (i_eqc f_13_1 (iR_c (n := 0) (a := 0) (b := 0) (by decide +kernel) (by decide +kernel))) c_34p18
      · have c_34p18 : (u_1.1 0) = 0 := c_34p18
        refine lv_aload_n hx hb dX7_number_37 rfl (lv_at hl 0 rfl) ?_
        have f_38p18_4 : iR (i 6) 0 9999 := hI 6
        refine k_get (D := (dC, dI)) (ci := 7) (v := .int (i 6)) (C := RX7) (T := TX7) (N := 92) hx hb hts hinX7 hown hK hP 1 rfl rfl 6 (by decide) w_2 rfl rfl dX7_number_38 ?_
        refine lv_iload_n hx hb dX7_number_41 rfl (lv_at hl 1 rfl) ?_
        refine lv_iload_n hx hb dX7_number_42 rfl (lv_at hl 2 rfl) ?_
        refine k_ci (wc := []) (wr := [((r 0), .inl (cI, 1800, .inl f0)), (h, .inr (7, oM r (upd (upd i 8 (u_1.1 0)) 9 (u_1.1 1)) j))]) (fun hPc hDc hFc => va_runS (As := [.int (i 6), .int x1, .int x2]) (rest := []) ⟨hx, hb, hml, hown, hts⟩ (s_X7_is_v0 l dC dI cI cJ cZ cM (i 6) x1 x2 H.size) (va_cwS 3 hts gX7_number_X7_is rfl rfl rfl (by decide +kernel) ⟨(Nat.le_of_ble_eq_true rfl), (Nat.le_of_ble_eq_true rfl)⟩) (k_pS hPc hDc hK hN hC hS hFc) rfl rfl hl.1 rfl (lv_room (Nat.le_of_ble_eq_true rfl)) dX7_number_43 ⟨(Nat.le_of_ble_eq_true rfl), (Nat.le_of_ble_eq_true rfl)⟩) hP hD hS hA [] [0, 1] rfl rfl rfl rfl (by decide) (fun _ => rfl) 0 0 rfl rfl (fun r_43p18 u_43p18 H locs hw hP hD hS => ?_)
        obtain ⟨g_43p18_0, g_43p18_1⟩ := hw
        have hP : va_P (dC, dI) vwCl [((r 0), .inl (cI, 1800, .inl f0)), (h, .inr (7, oM r (upd (upd i 8 (u_1.1 0)) 9 (u_1.1 1)) j))] H := hP
        have hD : va_D A [((r 0), .inl (cI, 1800, .inl f0)), (h, .inr (7, oM r (upd (upd i 8 (u_1.1 0)) 9 (u_1.1 1)) j))] := hD
        refine lv_if_ne (tgt := 58) hx hb dX7_number_46 (by decide) (fun c_46p18 => ?_) (fun c_46p18 => ?_)
        · have c_46p18 : ¬ r_43p18 = 0 := c_46p18
          have f_58p18_5 : iR r_43p18 1 1 := iR_neL c_46p18 g_43p18_0 (iR_c (n := 0) (a := 0) (b := 0) (by decide +kernel) (by decide +kernel)) (by decide +kernel)
          obtain ⟨d_46p18_1_0, d_46p18_1_1⟩ := g_43p18_1.resolve_left c_46p18
          have f_58p18_6 : iR x1 (-2147483648) 9999 := iR_leL d_46p18_1_0 (iR_top _) f_38p18_4 (by decide +kernel)
          have f_58p18_7 : iR x2 0 2147483647 := iR_leR d_46p18_1_1 f_38p18_4 (iR_top _) (by decide +kernel)
          refine lv_aload_n hx hb dX7_number_58 rfl (lv_at hl 0 rfl) ?_
          refine k_get (D := (dC, dI)) (ci := 7) (v := .int (i 6)) (C := RX7) (T := TX7) (N := 92) hx hb hts hinX7 hown hK hP 1 rfl rfl 6 (by decide) w_2 rfl rfl dX7_number_59 ?_
          refine lv_istore_n (lv' := [(3, .int (i 6)), (0, .ref h), (1, .int x1), (2, .int x2)]) hx hb dX7_number_62 rfl hl (by decide) rfl (fun ls hl => ?_)
          refine lv_aload_n hx hb dX7_number_63 rfl (lv_at hl 1 rfl) ?_
          refine k_get (D := (dC, dI)) (ci := 7) (v := .int (u_1.1 0)) (C := RX7) (T := TX7) (N := 92) hx hb hts hinX7 hown hK hP 1 rfl rfl 8 (by decide) w_0 rfl rfl dX7_number_64 ?_
          refine lv_if_ne (tgt := 74) hx hb dX7_number_67 (by decide) (fun c_67p18p46 => ?_) (fun c_67p18p46 => ?_)
          · exact absurd (i_eqc f_13_1 (iR_c (n := 0) (a := 0) (b := 0) (by decide +kernel) (by decide +kernel))) c_67p18p46
          · have c_67p18p46 : (u_1.1 0) = 0 := c_67p18p46
            refine lv_aload_n hx hb dX7_number_70 rfl (lv_at hl 1 rfl) ?_
            refine k_cv (wc := [(h, .inr (7, oM r (upd (upd i 8 (u_1.1 0)) 9 (u_1.1 1)) j)), ((r 0), .inl (cI, 1800, .inl f0))]) (wr := []) (fun hPc hDc hFc => va_runV (As := []) (rest := []) ⟨hx, hb, hml, hown, hts⟩ (s_X7_ahead_v1 l dC dI cI cJ cZ cM h r (upd (upd i 8 (u_1.1 0)) 9 (u_1.1 1)) j f0 (mR_upd 9 (mR_upd 8 hI (show iR _ (loI 8) (hiI 8) from (iR_w f_13_1 (by decide +kernel)))) (show iR _ (loI 9) (hiI 9) from (iR_top _))) hf0 H.size) (cwV 0 hts gX7_number_X7_ahead rfl rfl rfl (by decide +kernel) ⟨(Nat.le_of_ble_eq_true rfl), (Nat.le_of_ble_eq_true rfl)⟩) (k_pV hPc hDc hK hN hC hS hFc hP (q0 := 1) (ci := 7) rfl rfl) rfl rfl hl.1 rfl (lv_room (Nat.le_of_ble_eq_true rfl)) dX7_number_71 ⟨(Nat.le_of_ble_eq_true rfl), (Nat.le_of_ble_eq_true rfl)⟩) hP hD hS hA [1, 0] [] rfl rfl rfl rfl (by decide) (fun _ => rfl) 0 0 rfl rfl (fun u_71p18p46 H locs hw hP hD hS => ?_)
            obtain ⟨g_71p18p46_0, g_71p18p46_1, g_71p18p46_2, g_71p18p46_3, g_71p18p46_4, g_71p18p46_5, g_71p18p46_6, g_71p18p46_7, g_71p18p46_8, g_71p18p46_9⟩ := hw
            have hP : va_P (dC, dI) vwCl [(h, .inr (7, oM r (upd (upd (upd (upd (upd (upd (upd i 3 (u_71p18p46.1 0)) 4 (u_71p18p46.1 1)) 5 (u_71p18p46.1 2)) 6 (u_71p18p46.1 3)) 8 (u_1.1 0)) 9 (u_1.1 1)) 12 (u_71p18p46.1 4)) (vp_updL j 7 (u_71p18p46.2.1 0)))), ((r 0), .inl (cI, 1800, .inl f0))] H := hP
            have hD : va_D A [(h, .inr (7, oM r (upd (upd (upd (upd (upd (upd (upd i 3 (u_71p18p46.1 0)) 4 (u_71p18p46.1 1)) 5 (u_71p18p46.1 2)) 6 (u_71p18p46.1 3)) 8 (u_1.1 0)) 9 (u_1.1 1)) 12 (u_71p18p46.1 4)) (vp_updL j 7 (u_71p18p46.2.1 0)))), ((r 0), .inl (cI, 1800, .inl f0))] := hD
            obtain d71p18p46_2_0 := g_71p18p46_9.resolve_left (i_nef f_30_3 (iR_c (n := 0) (a := 0) (b := 0) (by decide +kernel) (by decide +kernel)) (by decide +kernel))
            refine lv_iload_n hx hb dX7_number_74 rfl (lv_at hl 0 rfl) ?_
            exact k_ri B hP hD hS dX7_number_75 ((fun k9 => match k9 with | 0 => (u_71p18p46.1 0) | 1 => (u_71p18p46.1 1) | 2 => (u_71p18p46.1 2) | 3 => (u_71p18p46.1 3) | 4 => (u_1.1 0) | 5 => (u_1.1 1) | 6 => (u_71p18p46.1 4) | _ => 0), (fun k9 => match k9 with | 0 => (u_71p18p46.2.1 0) | _ => 0), (fun _ => (fun _ => 0)), (fun _ => (fun _ => 0)), (fun _ => 0)) [0, 1] rfl rfl rfl (Nat.le_of_ble_eq_true rfl) (Nat.le_of_ble_eq_true rfl) ⟨(show iR (i 6) 0 9999 from f_38p18_4), (show iR (u_71p18p46.1 0) 0 3 from g_71p18p46_2), (show iR (u_71p18p46.1 1) 0 1600 from g_71p18p46_3), (show iR (u_71p18p46.1 2) 0 1600 from g_71p18p46_4), (show iR (u_71p18p46.1 3) 0 9999 from g_71p18p46_5), (show iR (u_1.1 0) 0 6 from (iR_w f_13_1 (by decide +kernel))), (show (0 < (u_1.1 0)) ∨ ((x1 ≤ (i 6)) ∧ ((i 6) ≤ x2)) from (Or.inr ⟨d_46p18_1_0, d_46p18_1_1⟩))⟩
        · have c_46p18 : r_43p18 = 0 := c_46p18
          have f_49p18_5 : iR r_43p18 0 0 := iR_eqL c_46p18 g_43p18_0 (iR_c (n := 0) (a := 0) (b := 0) (by decide +kernel) (by decide +kernel)) (by decide +kernel)
          refine lv_aload_n hx hb dX7_number_49 rfl (lv_at hl 0 rfl) ?_
          refine lv_iconst (v := 4) hx hb dX7_number_50 (by decide +kernel) ?_
          refine lv_aload_n hx hb dX7_number_51 rfl (lv_at hl 0 rfl) ?_
          have f_52p18_6 : iR (i 4) 0 1600 := hI 4
          refine k_get (D := (dC, dI)) (ci := 7) (v := .int (i 4)) (C := RX7) (T := TX7) (N := 92) hx hb hts hinX7 hown hK hP 1 rfl rfl 4 (by decide) w_3 rfl rfl dX7_number_52 ?_
          refine k_cv (wc := [(h, .inr (7, oM r (upd (upd i 8 (u_1.1 0)) 9 (u_1.1 1)) j))]) (wr := [((r 0), .inl (cI, 1800, .inl f0))]) (fun hPc hDc hFc => va_runV (As := [.int 4, .int (i 4)]) (rest := []) ⟨hx, hb, hml, hown, hts⟩ (s_X7_blame_v2 l dC dI cI cJ cZ cM h r (upd (upd i 8 (u_1.1 0)) 9 (u_1.1 1)) j 4 (i 4) (iR_c (n := 4) (a := 1) (b := 6) (by decide +kernel) (by decide +kernel)) (mR_upd 9 (mR_upd 8 hI (show iR _ (loI 8) (hiI 8) from (iR_w f_13_1 (by decide +kernel)))) (show iR _ (loI 9) (hiI 9) from (iR_top _))) H.size) (cwV 2 hts gX7_number_X7_blame rfl rfl rfl (by decide +kernel) ⟨(Nat.le_of_ble_eq_true rfl), (Nat.le_of_ble_eq_true rfl)⟩) (k_pV hPc hDc hK hN hC hS hFc hP (q0 := 1) (ci := 7) rfl rfl) rfl rfl hl.1 rfl (lv_room (Nat.le_of_ble_eq_true rfl)) dX7_number_55 ⟨(Nat.le_of_ble_eq_true rfl), (Nat.le_of_ble_eq_true rfl)⟩) hP hD hS hA [1] [0] rfl rfl rfl rfl (by decide) (fun _ => rfl) 0 0 rfl rfl (fun u_55p18 H locs hw hP hD hS => ?_)
          have g_55p18_0 := hw
          have hP : va_P (dC, dI) vwCl [((r 0), .inl (cI, 1800, .inl f0)), (h, .inr (7, oM r (upd (upd i 8 (u_55p18.1 0)) 9 (u_55p18.1 1)) j))] H := hP
          have hD : va_D A [((r 0), .inl (cI, 1800, .inl f0)), (h, .inr (7, oM r (upd (upd i 8 (u_55p18.1 0)) 9 (u_55p18.1 1)) j))] := hD
          refine lv_aload_n hx hb dX7_number_58 rfl (lv_at hl 0 rfl) ?_
          refine k_get (D := (dC, dI)) (ci := 7) (v := .int (i 6)) (C := RX7) (T := TX7) (N := 92) hx hb hts hinX7 hown hK hP 1 rfl rfl 6 (by decide) w_2 rfl rfl dX7_number_59 ?_
          refine lv_istore_n (lv' := [(3, .int (i 6)), (0, .ref h), (1, .int x1), (2, .int x2)]) hx hb dX7_number_62 rfl hl (by decide) rfl (fun ls hl => ?_)
          refine lv_aload_n hx hb dX7_number_63 rfl (lv_at hl 1 rfl) ?_
          refine k_get (D := (dC, dI)) (ci := 7) (v := .int (u_55p18.1 0)) (C := RX7) (T := TX7) (N := 92) hx hb hts hinX7 hown hK hP 1 rfl rfl 8 (by decide) w_0 rfl rfl dX7_number_64 ?_
          refine lv_if_ne (tgt := 74) hx hb dX7_number_67 (by decide) (fun c_67p18p55 => ?_) (fun c_67p18p55 => ?_)
          · have c_67p18p55 : ¬ (u_55p18.1 0) = 0 := c_67p18p55
            refine lv_iload_n hx hb dX7_number_74 rfl (lv_at hl 0 rfl) ?_
            exact k_ri B hP hD hS dX7_number_75 ((fun k9 => match k9 with | 0 => (i 3) | 1 => (i 4) | 2 => (i 5) | 3 => (i 6) | 4 => (u_55p18.1 0) | 5 => (u_55p18.1 1) | 6 => (i 12) | _ => 0), (fun k9 => match k9 with | 0 => (j 7) | _ => 0), (fun _ => (fun _ => 0)), (fun _ => (fun _ => 0)), (fun _ => 0)) [1, 0] rfl rfl rfl (Nat.le_of_ble_eq_true rfl) (Nat.le_of_ble_eq_true rfl) ⟨(show iR (i 6) 0 9999 from f_38p18_4), (show iR (i 3) 0 3 from (iR_w f_30_3 (by decide +kernel))), (show iR (i 4) 0 1600 from f_52p18_6), (show iR (i 5) 0 1600 from (hI 5)), (show iR (i 6) 0 9999 from f_38p18_4), (show iR (u_55p18.1 0) 0 6 from (iR_w g_55p18_0 (by decide +kernel))), (show (0 < (u_55p18.1 0)) ∨ ((x1 ≤ (i 6)) ∧ ((i 6) ≤ x2)) from (Or.inl (i_ltf (iR_c (n := 0) (a := 0) (b := 0) (by decide +kernel) (by decide +kernel)) g_55p18_0 (by decide +kernel))))⟩
          · exact iR_cl (iR_eqL (a' := 1) (b' := 0) c_67p18p55 g_55p18_0 (iR_c (n := 0) (a := 0) (b := 0) (by decide +kernel) (by decide +kernel)) (by decide +kernel)) (by decide +kernel)
    · have c_18 : ¬ (i 3) = 2 := c_18
      refine lv_aload_n hx hb dX7_number_21 rfl (lv_at hl 0 rfl) ?_
      refine lv_iconst (v := 1) hx hb dX7_number_22 (by decide +kernel) ?_
      refine lv_aload_n hx hb dX7_number_23 rfl (lv_at hl 0 rfl) ?_
      have f_24_3 : iR (i 4) 0 1600 := hI 4
      refine k_get (D := (dC, dI)) (ci := 7) (v := .int (i 4)) (C := RX7) (T := TX7) (N := 92) hx hb hts hinX7 hown hK hP 1 rfl rfl 4 (by decide) w_3 rfl rfl dX7_number_24 ?_
      refine k_cv (wc := [(h, .inr (7, oM r (upd (upd i 8 (u_1.1 0)) 9 (u_1.1 1)) j))]) (wr := [((r 0), .inl (cI, 1800, .inl f0))]) (fun hPc hDc hFc => va_runV (As := [.int 1, .int (i 4)]) (rest := []) ⟨hx, hb, hml, hown, hts⟩ (s_X7_blame_v2 l dC dI cI cJ cZ cM h r (upd (upd i 8 (u_1.1 0)) 9 (u_1.1 1)) j 1 (i 4) (iR_c (n := 1) (a := 1) (b := 6) (by decide +kernel) (by decide +kernel)) (mR_upd 9 (mR_upd 8 hI (show iR _ (loI 8) (hiI 8) from (iR_w f_13_1 (by decide +kernel)))) (show iR _ (loI 9) (hiI 9) from (iR_top _))) H.size) (cwV 2 hts gX7_number_X7_blame rfl rfl rfl (by decide +kernel) ⟨(Nat.le_of_ble_eq_true rfl), (Nat.le_of_ble_eq_true rfl)⟩) (k_pV hPc hDc hK hN hC hS hFc hP (q0 := 1) (ci := 7) rfl rfl) rfl rfl hl.1 rfl (lv_room (Nat.le_of_ble_eq_true rfl)) dX7_number_27 ⟨(Nat.le_of_ble_eq_true rfl), (Nat.le_of_ble_eq_true rfl)⟩) hP hD hS hA [1] [0] rfl rfl rfl rfl (by decide) (fun _ => rfl) 0 0 rfl rfl (fun u_27 H locs hw hP hD hS => ?_)
      have g_27_0 := hw
      have hP : va_P (dC, dI) vwCl [((r 0), .inl (cI, 1800, .inl f0)), (h, .inr (7, oM r (upd (upd i 8 (u_27.1 0)) 9 (u_27.1 1)) j))] H := hP
      have hD : va_D A [((r 0), .inl (cI, 1800, .inl f0)), (h, .inr (7, oM r (upd (upd i 8 (u_27.1 0)) 9 (u_27.1 1)) j))] := hD
      refine lv_aload_n hx hb dX7_number_30 rfl (lv_at hl 0 rfl) ?_
      refine k_get (D := (dC, dI)) (ci := 7) (v := .int (u_27.1 0)) (C := RX7) (T := TX7) (N := 92) hx hb hts hinX7 hown hK hP 1 rfl rfl 8 (by decide) w_0 rfl rfl dX7_number_31 ?_
      refine lv_if_ne (tgt := 58) hx hb dX7_number_34 (by decide) (fun c_34p27 => ?_) (fun c_34p27 => ?_)
      · have c_34p27 : ¬ (u_27.1 0) = 0 := c_34p27
        refine lv_aload_n hx hb dX7_number_58 rfl (lv_at hl 0 rfl) ?_
        have f_59p27p34_4 : iR (i 6) 0 9999 := hI 6
        refine k_get (D := (dC, dI)) (ci := 7) (v := .int (i 6)) (C := RX7) (T := TX7) (N := 92) hx hb hts hinX7 hown hK hP 1 rfl rfl 6 (by decide) w_2 rfl rfl dX7_number_59 ?_
        refine lv_istore_n (lv' := [(3, .int (i 6)), (0, .ref h), (1, .int x1), (2, .int x2)]) hx hb dX7_number_62 rfl hl (by decide) rfl (fun ls hl => ?_)
        refine lv_aload_n hx hb dX7_number_63 rfl (lv_at hl 1 rfl) ?_
        refine k_get (D := (dC, dI)) (ci := 7) (v := .int (u_27.1 0)) (C := RX7) (T := TX7) (N := 92) hx hb hts hinX7 hown hK hP 1 rfl rfl 8 (by decide) w_0 rfl rfl dX7_number_64 ?_
        refine lv_if_ne (tgt := 74) hx hb dX7_number_67 (by decide) (fun c_67p27p34 => ?_) (fun c_67p27p34 => ?_)
        · have c_67p27p34 : ¬ (u_27.1 0) = 0 := c_67p27p34
          refine lv_iload_n hx hb dX7_number_74 rfl (lv_at hl 0 rfl) ?_
          exact k_ri B hP hD hS dX7_number_75 ((fun k9 => match k9 with | 0 => (i 3) | 1 => (i 4) | 2 => (i 5) | 3 => (i 6) | 4 => (u_27.1 0) | 5 => (u_27.1 1) | 6 => (i 12) | _ => 0), (fun k9 => match k9 with | 0 => (j 7) | _ => 0), (fun _ => (fun _ => 0)), (fun _ => (fun _ => 0)), (fun _ => 0)) [1, 0] rfl rfl rfl (Nat.le_of_ble_eq_true rfl) (Nat.le_of_ble_eq_true rfl) ⟨(show iR (i 6) 0 9999 from f_59p27p34_4), (show iR (i 3) 0 3 from f_14_2), (show iR (i 4) 0 1600 from f_24_3), (show iR (i 5) 0 1600 from (hI 5)), (show iR (i 6) 0 9999 from f_59p27p34_4), (show iR (u_27.1 0) 0 6 from (iR_w g_27_0 (by decide +kernel))), (show (0 < (u_27.1 0)) ∨ ((x1 ≤ (i 6)) ∧ ((i 6) ≤ x2)) from (Or.inl (i_ltf (iR_c (n := 0) (a := 0) (b := 0) (by decide +kernel) (by decide +kernel)) g_27_0 (by decide +kernel))))⟩
        · exact iR_cl (iR_eqL (a' := 1) (b' := 0) c_67p27p34 g_27_0 (iR_c (n := 0) (a := 0) (b := 0) (by decide +kernel) (by decide +kernel)) (by decide +kernel)) (by decide +kernel)
      · exact iR_cl (iR_eqL (a' := 1) (b' := 0) c_34p27 g_27_0 (iR_c (n := 0) (a := 0) (b := 0) (by decide +kernel) (by decide +kernel)) (by decide +kernel)) (by decide +kernel)
  · have c_8 : 0 < (u_1.1 0) := i_nle c_8
    have f_11_1 : iR (u_1.1 0) 1 6 := iR_ltR c_8 (iR_c (n := 0) (a := 0) (b := 0) (by decide +kernel) (by decide +kernel)) g_1_0 (by decide +kernel)
    refine lv_iconst (v := 0) hx hb dX7_number_11 (by decide +kernel) ?_
    exact k_ri B hP hD hS dX7_number_12 ((fun k9 => match k9 with | 0 => (i 3) | 1 => (i 4) | 2 => (i 5) | 3 => (i 6) | 4 => (u_1.1 0) | 5 => (u_1.1 1) | 6 => (i 12) | _ => 0), (fun k9 => match k9 with | 0 => (j 7) | _ => 0), (fun _ => (fun _ => 0)), (fun _ => (fun _ => 0)), (fun _ => 0)) [1, 0] rfl rfl rfl (Nat.le_of_ble_eq_true rfl) (Nat.le_of_ble_eq_true rfl) ⟨(show iR 0 0 9999 from (iR_c (n := 0) (a := 0) (b := 9999) (by decide +kernel) (by decide +kernel))), (show iR (i 3) 0 3 from (hI 3)), (show iR (i 4) 0 1600 from (hI 4)), (show iR (i 5) 0 1600 from (hI 5)), (show iR (i 6) 0 9999 from (hI 6)), (show iR (u_1.1 0) 0 6 from (iR_w f_11_1 (by decide +kernel))), (show (0 < (u_1.1 0)) ∨ ((x1 ≤ 0) ∧ (0 ≤ x2)) from (Or.inl c_8))⟩
set_option maxHeartbeats 8000000 in
set_option maxRecDepth 100000 in
theorem s_X7_telling_v0 (l : Launch) (dC : Nat → ClassId) (dI : Nat → Nat → Nat) (cI cJ cZ cM : ClassId) (h : Nat) (r : Nat → Nat) (i : Nat → Int32) (j : Nat → Int64) (x1 : Int32) (f0 : Nat → Int32) (f30 : Nat → Int32) (f31 : Nat → Int32) (hI : mR i) (hf0 : aR f0 0 255) (hf30 : aR f30 0 999) (hf31 : aR f31 0 999) : k_Mv l yX7_telling wsX7_telling ({ frames := 4, cells := 0, slots := 0, locals := 110 }) (dC, dI) vwCl (tyy cI cJ cZ cM) [(h, .inr (7, oM r i j)), ((r 0), .inl (cI, 1800, .inl f0)), ((r 30), .inl (cI, 2, .inl f30)), ((r 31), .inl (cI, 2, .inl f31))] [.ref h, .int x1] 0 0 (fun (u9 : SU) => [(h, .inr (7, oM r (upd (upd (upd (upd (upd (upd (upd i 3 (u9.1 0)) 4 (u9.1 1)) 5 (u9.1 2)) 6 (u9.1 3)) 8 (u9.1 4)) 9 (u9.1 5)) 12 (u9.1 6)) (vp_updL j 7 (u9.2.1 0)))), ((r 0), .inl (cI, 1800, .inl f0)), ((r 30), .inl (cI, 2, .inl (u9.2.2.1 0))), ((r 31), .inl (cI, 2, .inl (u9.2.2.1 1)))]) (fun (u9 : SU) => (iR (u9.1 0) 0 3) ∧ (iR (u9.1 1) 0 1600) ∧ (iR (u9.1 2) 0 1600) ∧ (iR (u9.1 3) 0 9999) ∧ (iR (u9.1 4) 0 6) ∧ (aR (u9.2.2.1 0) 0 999) ∧ (aR (u9.2.2.1 1) 0 999)) := by
  refine fun sz => k_enter (cc := cX7_telling) (maxL := 3) (ret := none) (Qc := fun A => va_Qv (fun (u9 : SU) => (iR (u9.1 0) 0 3) ∧ (iR (u9.1 1) 0 1600) ∧ (iR (u9.1 2) 0 1600) ∧ (iR (u9.1 3) 0 9999) ∧ (iR (u9.1 4) 0 6) ∧ (aR (u9.2.2.1 0) 0 999) ∧ (aR (u9.2.2.1 1) 0 999)) (fun u => k_B (dC, dI) vwCl (tyy cI cJ cZ cM) A ((fun (u9 : SU) => [(h, .inr (7, oM r (upd (upd (upd (upd (upd (upd (upd i 3 (u9.1 0)) 4 (u9.1 1)) 5 (u9.1 2)) 6 (u9.1 3)) 8 (u9.1 4)) 9 (u9.1 5)) 12 (u9.1 6)) (vp_updL j 7 (u9.2.1 0)))), ((r 0), .inl (cI, 1800, .inl f0)), ((r 30), .inl (cI, 2, .inl (u9.2.2.1 0))), ((r 31), .inl (cI, 2, .inl (u9.2.2.1 1)))]) u)) A) sz (by decide +kernel) rfl (Nat.le_of_ble_eq_true rfl) (fun p e s m args below meth c A ls H locs B hP hD hS hl => ?_)
  obtain ⟨hx, hb, hml, hown, hts, hr, hlk, hnm, hK, hA, hN, hC⟩ := id B
  have hown : s.vm.findClass RX7 = some m.cls := hown
  have hl : lv_has ls 3 [(0, .ref h), (1, .int x1)] := hl
  have w_0 : (Cond.fieldLink RX7 36 "WishSeaModel" "faultKind" "I").before args s = true := hts _ (List.mem_of_getElem? (i := 1) rfl)
  have w_1 : (Cond.fieldLink RX7 105 "WishSeaModel" "calming" "[I").before args s = true := hts _ (List.mem_of_getElem? (i := 4) rfl)
  have w_2 : (Cond.fieldLink RX7 124 "WishSeaModel" "in" "I").before args s = true := hts _ (List.mem_of_getElem? (i := 3) rfl)
  have w_3 : (Cond.fieldLink RX7 102 "WishSeaModel" "bearing" "[I").before args s = true := hts _ (List.mem_of_getElem? (i := 2) rfl)
  have hinX7 : ∀ w ∈ u_ws RX7 TX7 92, w ∈ wsX7_telling := fun _ h => List.mem_cons_of_mem _ (List.mem_append_right _ h)
  refine lv_aload_n hx hb dX7_telling_0 rfl (lv_at hl 0 rfl) ?_
  refine lv_iconst (v := 0) hx hb dX7_telling_1 (by decide +kernel) ?_
  refine k_ci (wc := [(h, .inr (7, oM r i j)), ((r 0), .inl (cI, 1800, .inl f0))]) (wr := [((r 30), .inl (cI, 2, .inl f30)), ((r 31), .inl (cI, 2, .inl f31))]) (fun hPc hDc hFc => va_runV (As := [.int 0]) (rest := []) ⟨hx, hb, hml, hown, hts⟩ (s_X7_counts_v1 l dC dI cI cJ cZ cM h r i j f0 hI hf0 H.size) (cwV 1 hts gX7_telling_X7_counts rfl rfl rfl (by decide +kernel) ⟨(Nat.le_of_ble_eq_true rfl), (Nat.le_of_ble_eq_true rfl)⟩) (k_pV hPc hDc hK hN hC hS hFc hP (q0 := 0) (ci := 7) rfl rfl) rfl rfl hl.1 rfl (lv_room (Nat.le_of_ble_eq_true rfl)) dX7_telling_2 ⟨(Nat.le_of_ble_eq_true rfl), (Nat.le_of_ble_eq_true rfl)⟩) hP hD hS hA [0, 1] [2, 3] rfl rfl rfl rfl (by decide) (fun _ => rfl) 0 0 rfl rfl (fun r_2 u_2 H locs hw hP hD hS => ?_)
  obtain ⟨g_2_0, g_2_1, g_2_2, g_2_3, g_2_4⟩ := hw
  have hP : va_P (dC, dI) vwCl [((r 30), .inl (cI, 2, .inl f30)), ((r 31), .inl (cI, 2, .inl f31)), (h, .inr (7, oM r (upd (upd (upd (upd (upd i 3 (u_2.1 0)) 4 (u_2.1 1)) 5 (u_2.1 2)) 6 (u_2.1 3)) 12 (u_2.1 4)) (vp_updL j 7 (u_2.2.1 0)))), ((r 0), .inl (cI, 1800, .inl f0))] H := hP
  have hD : va_D A [((r 30), .inl (cI, 2, .inl f30)), ((r 31), .inl (cI, 2, .inl f31)), (h, .inr (7, oM r (upd (upd (upd (upd (upd i 3 (u_2.1 0)) 4 (u_2.1 1)) 5 (u_2.1 2)) 6 (u_2.1 3)) 12 (u_2.1 4)) (vp_updL j 7 (u_2.2.1 0)))), ((r 0), .inl (cI, 1800, .inl f0))] := hD
  refine lv_if_ne (tgt := 9) hx hb dX7_telling_5 (by decide) (fun c_5 => ?_) (fun c_5 => ?_)
  · have c_5 : ¬ r_2 = 0 := c_5
    have f_9_1 : iR r_2 1 1 := iR_neL c_5 g_2_0 (iR_c (n := 0) (a := 0) (b := 0) (by decide +kernel) (by decide +kernel)) (by decide +kernel)
    refine lv_iload_n hx hb dX7_telling_9 rfl (lv_at hl 1 rfl) ?_
    refine lv_if_eq (tgt := 24) hx hb dX7_telling_10 (by decide) (fun c_10 => ?_) (fun c_10 => ?_)
    · have c_10 : x1 = 0 := c_10
      have f_24_2 : iR x1 0 0 := iR_eqL c_10 (iR_top _) (iR_c (n := 0) (a := 0) (b := 0) (by decide +kernel) (by decide +kernel)) (by decide +kernel)
      refine lv_aload_n hx hb dX7_telling_24 rfl (lv_at hl 0 rfl) ?_
      refine lv_iconst (v := 0) hx hb dX7_telling_25 (by decide +kernel) ?_
      refine lv_sipush (v := 999) hx hb dX7_telling_26 (by decide +kernel) ?_
      refine k_ci (wc := [(h, .inr (7, oM r (upd (upd (upd (upd (upd i 3 (u_2.1 0)) 4 (u_2.1 1)) 5 (u_2.1 2)) 6 (u_2.1 3)) 12 (u_2.1 4)) (vp_updL j 7 (u_2.2.1 0)))), ((r 0), .inl (cI, 1800, .inl f0))]) (wr := [((r 30), .inl (cI, 2, .inl f30)), ((r 31), .inl (cI, 2, .inl f31))]) (fun hPc hDc hFc => va_runV (As := [.int 0, .int 999]) (rest := []) ⟨hx, hb, hml, hown, hts⟩ (s_X7_number_v1 l dC dI cI cJ cZ cM h r (upd (upd (upd (upd (upd i 3 (u_2.1 0)) 4 (u_2.1 1)) 5 (u_2.1 2)) 6 (u_2.1 3)) 12 (u_2.1 4)) (vp_updL j 7 (u_2.2.1 0)) 0 999 f0 (mR_upd 12 (mR_upd 6 (mR_upd 5 (mR_upd 4 (mR_upd 3 hI (show iR _ (loI 3) (hiI 3) from g_2_1)) (show iR _ (loI 4) (hiI 4) from g_2_2)) (show iR _ (loI 5) (hiI 5) from g_2_3)) (show iR _ (loI 6) (hiI 6) from g_2_4)) (show iR _ (loI 12) (hiI 12) from (iR_top _))) hf0 H.size) (cwV 2 hts gX7_telling_X7_number rfl rfl rfl (by decide +kernel) ⟨(Nat.le_of_ble_eq_true rfl), (Nat.le_of_ble_eq_true rfl)⟩) (k_pV hPc hDc hK hN hC hS hFc hP (q0 := 2) (ci := 7) rfl rfl) rfl rfl hl.1 rfl (lv_room (Nat.le_of_ble_eq_true rfl)) dX7_telling_29 ⟨(Nat.le_of_ble_eq_true rfl), (Nat.le_of_ble_eq_true rfl)⟩) hP hD hS hA [2, 3] [0, 1] rfl rfl rfl rfl (by decide) (fun _ => rfl) 0 0 rfl rfl (fun r_29 u_29 H locs hw hP hD hS => ?_)
      obtain ⟨g_29_0, g_29_1, g_29_2, g_29_3, g_29_4, g_29_5, g_29_6⟩ := hw
      have hP : va_P (dC, dI) vwCl [((r 30), .inl (cI, 2, .inl f30)), ((r 31), .inl (cI, 2, .inl f31)), (h, .inr (7, oM r (upd (upd (upd (upd (upd (upd (upd i 3 (u_29.1 0)) 4 (u_29.1 1)) 5 (u_29.1 2)) 6 (u_29.1 3)) 8 (u_29.1 4)) 9 (u_29.1 5)) 12 (u_29.1 6)) (vp_updL j 7 (u_29.2.1 0)))), ((r 0), .inl (cI, 1800, .inl f0))] H := hP
      have hD : va_D A [((r 30), .inl (cI, 2, .inl f30)), ((r 31), .inl (cI, 2, .inl f31)), (h, .inr (7, oM r (upd (upd (upd (upd (upd (upd (upd i 3 (u_29.1 0)) 4 (u_29.1 1)) 5 (u_29.1 2)) 6 (u_29.1 3)) 8 (u_29.1 4)) 9 (u_29.1 5)) 12 (u_29.1 6)) (vp_updL j 7 (u_29.2.1 0)))), ((r 0), .inl (cI, 1800, .inl f0))] := hD
      refine lv_istore_n (lv' := [(2, .int r_29), (0, .ref h), (1, .int x1)]) hx hb dX7_telling_32 rfl hl (by decide) rfl (fun ls hl => ?_)
      refine lv_aload_n hx hb dX7_telling_33 rfl (lv_at hl 1 rfl) ?_
      refine k_get (D := (dC, dI)) (ci := 7) (v := .int (u_29.1 4)) (C := RX7) (T := TX7) (N := 92) hx hb hts hinX7 hown hK hP 2 rfl rfl 8 (by decide) w_0 rfl rfl dX7_telling_34 ?_
      refine lv_if_le (tgt := 41) hx hb dX7_telling_37 (by decide) (fun c_37p29 => ?_) (fun c_37p29 => ?_)
      · have c_37p29 : (u_29.1 4) ≤ 0 := c_37p29
        have f_41p29_3 : iR (u_29.1 4) 0 0 := iR_leL c_37p29 g_29_5 (iR_c (n := 0) (a := 0) (b := 0) (by decide +kernel) (by decide +kernel)) (by decide +kernel)
        obtain ⟨d_37p29_1_0, d_37p29_1_1⟩ := g_29_6.resolve_left (i_lenl c_37p29)
        have f_41p29_4 : iR r_29 0 999 := iR_leL d_37p29_1_1 g_29_0 (iR_c (n := 999) (a := 999) (b := 999) (by decide +kernel) (by decide +kernel)) (by decide +kernel)
        refine lv_iload_n hx hb dX7_telling_41 rfl (lv_at hl 2 rfl) ?_
        refine lv_if_eq (tgt := 58) hx hb dX7_telling_42 (by decide) (fun c_42p29 => ?_) (fun c_42p29 => ?_)
        · have c_42p29 : x1 = 0 := c_42p29
          refine lv_aload_n hx hb dX7_telling_58 rfl (lv_at hl 1 rfl) ?_
          refine k_get (D := (dC, dI)) (ci := 7) (v := .ref (r 31)) (C := RX7) (T := TX7) (N := 92) hx hb hts hinX7 hown hK hP 2 rfl rfl 31 (by decide) w_1 rfl rfl dX7_telling_59 ?_
          refine lv_aload_n hx hb dX7_telling_62 rfl (lv_at hl 1 rfl) ?_
          have f_63p29_5 : iR (i 37) 0 1 := hI 37
          refine k_get (D := (dC, dI)) (ci := 7) (v := .int (i 37)) (C := RX7) (T := TX7) (N := 92) hx hb hts hinX7 hown hK hP 2 rfl rfl 37 (by decide) w_2 rfl rfl dX7_telling_63 ?_
          refine lv_iload_n hx hb dX7_telling_66 rfl (lv_at hl 0 rfl) ?_
          refine s_iast (g := (upd f31 (i 37).toNatClampNeg r_29)) (ws' := [((r 30), .inl (cI, 2, .inl f30)), ((r 31), .inl (cI, 2, .inl (upd f31 (i 37).toNatClampNeg r_29))), (h, .inr (7, oM r (upd (upd (upd (upd (upd (upd (upd i 3 (u_29.1 0)) 4 (u_29.1 1)) 5 (u_29.1 2)) 6 (u_29.1 3)) 8 (u_29.1 4)) 9 (u_29.1 5)) 12 (u_29.1 6)) (vp_updL j 7 (u_29.2.1 0)))), ((r 0), .inl (cI, 1800, .inl f0))]) hx hb hK hP hD hS 1 0 rfl rfl (iR_vp f_63p29_5 (by decide +kernel)) rfl rfl dX7_telling_67 (fun H locs hP hD hS => ?_)
          exact k_rv B hP hD hS dX7_telling_68 ((fun k9 => match k9 with | 0 => (u_29.1 0) | 1 => (u_29.1 1) | 2 => (u_29.1 2) | 3 => (u_29.1 3) | 4 => (u_29.1 4) | 5 => (u_29.1 5) | 6 => (u_29.1 6) | _ => 0), (fun k9 => match k9 with | 0 => (u_29.2.1 0) | _ => 0), (fun k9 => match k9 with | 0 => f30 | 1 => (upd f31 (i 37).toNatClampNeg r_29) | _ => (fun _ => 0)), (fun _ => (fun _ => 0)), (fun _ => 0)) [2, 3, 0, 1] rfl rfl (Nat.le_of_ble_eq_true rfl) (Nat.le_of_ble_eq_true rfl) ⟨(show iR (u_29.1 0) 0 3 from g_29_1), (show iR (u_29.1 1) 0 1600 from g_29_2), (show iR (u_29.1 2) 0 1600 from g_29_3), (show iR (u_29.1 3) 0 9999 from g_29_4), (show iR (u_29.1 4) 0 6 from (iR_w f_41p29_3 (by decide +kernel))), (show aR f30 0 999 from hf30), (show aR (upd f31 (i 37).toNatClampNeg r_29) 0 999 from (aR_upd _ hf31 f_41p29_4))⟩
        · exact absurd (i_eqc f_24_2 (iR_c (n := 0) (a := 0) (b := 0) (by decide +kernel) (by decide +kernel))) c_42p29
      · have c_37p29 : 0 < (u_29.1 4) := i_nle c_37p29
        have f_40p29_3 : iR (u_29.1 4) 1 6 := iR_ltR c_37p29 (iR_c (n := 0) (a := 0) (b := 0) (by decide +kernel) (by decide +kernel)) g_29_5 (by decide +kernel)
        exact k_rv B hP hD hS dX7_telling_40 ((fun k9 => match k9 with | 0 => (u_29.1 0) | 1 => (u_29.1 1) | 2 => (u_29.1 2) | 3 => (u_29.1 3) | 4 => (u_29.1 4) | 5 => (u_29.1 5) | 6 => (u_29.1 6) | _ => 0), (fun k9 => match k9 with | 0 => (u_29.2.1 0) | _ => 0), (fun k9 => match k9 with | 0 => f30 | 1 => f31 | _ => (fun _ => 0)), (fun _ => (fun _ => 0)), (fun _ => 0)) [2, 3, 0, 1] rfl rfl (Nat.le_of_ble_eq_true rfl) (Nat.le_of_ble_eq_true rfl) ⟨(show iR (u_29.1 0) 0 3 from g_29_1), (show iR (u_29.1 1) 0 1600 from g_29_2), (show iR (u_29.1 2) 0 1600 from g_29_3), (show iR (u_29.1 3) 0 9999 from g_29_4), (show iR (u_29.1 4) 0 6 from (iR_w f_40p29_3 (by decide +kernel))), (show aR f30 0 999 from hf30), (show aR f31 0 999 from hf31)⟩
    · have c_10 : ¬ x1 = 0 := c_10
      refine lv_aload_n hx hb dX7_telling_13 rfl (lv_at hl 0 rfl) ?_
      refine lv_iconst (v := 1) hx hb dX7_telling_14 (by decide +kernel) ?_
      refine lv_sipush (v := 999) hx hb dX7_telling_15 (by decide +kernel) ?_
      refine k_ci (wc := [(h, .inr (7, oM r (upd (upd (upd (upd (upd i 3 (u_2.1 0)) 4 (u_2.1 1)) 5 (u_2.1 2)) 6 (u_2.1 3)) 12 (u_2.1 4)) (vp_updL j 7 (u_2.2.1 0)))), ((r 0), .inl (cI, 1800, .inl f0))]) (wr := [((r 30), .inl (cI, 2, .inl f30)), ((r 31), .inl (cI, 2, .inl f31))]) (fun hPc hDc hFc => va_runV (As := [.int 1, .int 999]) (rest := []) ⟨hx, hb, hml, hown, hts⟩ (s_X7_number_v1 l dC dI cI cJ cZ cM h r (upd (upd (upd (upd (upd i 3 (u_2.1 0)) 4 (u_2.1 1)) 5 (u_2.1 2)) 6 (u_2.1 3)) 12 (u_2.1 4)) (vp_updL j 7 (u_2.2.1 0)) 1 999 f0 (mR_upd 12 (mR_upd 6 (mR_upd 5 (mR_upd 4 (mR_upd 3 hI (show iR _ (loI 3) (hiI 3) from g_2_1)) (show iR _ (loI 4) (hiI 4) from g_2_2)) (show iR _ (loI 5) (hiI 5) from g_2_3)) (show iR _ (loI 6) (hiI 6) from g_2_4)) (show iR _ (loI 12) (hiI 12) from (iR_top _))) hf0 H.size) (cwV 2 hts gX7_telling_X7_number rfl rfl rfl (by decide +kernel) ⟨(Nat.le_of_ble_eq_true rfl), (Nat.le_of_ble_eq_true rfl)⟩) (k_pV hPc hDc hK hN hC hS hFc hP (q0 := 2) (ci := 7) rfl rfl) rfl rfl hl.1 rfl (lv_room (Nat.le_of_ble_eq_true rfl)) dX7_telling_18 ⟨(Nat.le_of_ble_eq_true rfl), (Nat.le_of_ble_eq_true rfl)⟩) hP hD hS hA [2, 3] [0, 1] rfl rfl rfl rfl (by decide) (fun _ => rfl) 0 0 rfl rfl (fun r_18 u_18 H locs hw hP hD hS => ?_)
      obtain ⟨g_18_0, g_18_1, g_18_2, g_18_3, g_18_4, g_18_5, g_18_6⟩ := hw
      have hP : va_P (dC, dI) vwCl [((r 30), .inl (cI, 2, .inl f30)), ((r 31), .inl (cI, 2, .inl f31)), (h, .inr (7, oM r (upd (upd (upd (upd (upd (upd (upd i 3 (u_18.1 0)) 4 (u_18.1 1)) 5 (u_18.1 2)) 6 (u_18.1 3)) 8 (u_18.1 4)) 9 (u_18.1 5)) 12 (u_18.1 6)) (vp_updL j 7 (u_18.2.1 0)))), ((r 0), .inl (cI, 1800, .inl f0))] H := hP
      have hD : va_D A [((r 30), .inl (cI, 2, .inl f30)), ((r 31), .inl (cI, 2, .inl f31)), (h, .inr (7, oM r (upd (upd (upd (upd (upd (upd (upd i 3 (u_18.1 0)) 4 (u_18.1 1)) 5 (u_18.1 2)) 6 (u_18.1 3)) 8 (u_18.1 4)) 9 (u_18.1 5)) 12 (u_18.1 6)) (vp_updL j 7 (u_18.2.1 0)))), ((r 0), .inl (cI, 1800, .inl f0))] := hD
      refine lv_goto (tgt := 32) hx hb dX7_telling_21 (by decide) ?_
      refine lv_istore_n (lv' := [(2, .int r_18), (0, .ref h), (1, .int x1)]) hx hb dX7_telling_32 rfl hl (by decide) rfl (fun ls hl => ?_)
      refine lv_aload_n hx hb dX7_telling_33 rfl (lv_at hl 1 rfl) ?_
      refine k_get (D := (dC, dI)) (ci := 7) (v := .int (u_18.1 4)) (C := RX7) (T := TX7) (N := 92) hx hb hts hinX7 hown hK hP 2 rfl rfl 8 (by decide) w_0 rfl rfl dX7_telling_34 ?_
      refine lv_if_le (tgt := 41) hx hb dX7_telling_37 (by decide) (fun c_37p21 => ?_) (fun c_37p21 => ?_)
      · have c_37p21 : (u_18.1 4) ≤ 0 := c_37p21
        have f_41p21_2 : iR (u_18.1 4) 0 0 := iR_leL c_37p21 g_18_5 (iR_c (n := 0) (a := 0) (b := 0) (by decide +kernel) (by decide +kernel)) (by decide +kernel)
        obtain ⟨d_37p21_1_0, d_37p21_1_1⟩ := g_18_6.resolve_left (i_lenl c_37p21)
        have f_41p21_3 : iR r_18 1 9999 := iR_leR d_37p21_1_0 (iR_c (n := 1) (a := 1) (b := 1) (by decide +kernel) (by decide +kernel)) g_18_0 (by decide +kernel)
        have f_41p21_4 : iR r_18 1 999 := iR_leL d_37p21_1_1 f_41p21_3 (iR_c (n := 999) (a := 999) (b := 999) (by decide +kernel) (by decide +kernel)) (by decide +kernel)
        refine lv_iload_n hx hb dX7_telling_41 rfl (lv_at hl 2 rfl) ?_
        refine lv_if_eq (tgt := 58) hx hb dX7_telling_42 (by decide) (fun c_42p21 => ?_) (fun c_42p21 => ?_)
        · exact (i_noall (by have r0 : ¬ x1.toInt = 0 := i_ti_ne rfl (by decide) c_10; have r1 : x1.toInt = 0 := i_ti_eq rfl (by decide) c_42p21; omega)).elim
        · have c_42p21 : ¬ x1 = 0 := c_42p21
          refine lv_aload_n hx hb dX7_telling_45 rfl (lv_at hl 1 rfl) ?_
          refine k_get (D := (dC, dI)) (ci := 7) (v := .ref (r 30)) (C := RX7) (T := TX7) (N := 92) hx hb hts hinX7 hown hK hP 2 rfl rfl 30 (by decide) w_3 rfl rfl dX7_telling_46 ?_
          refine lv_aload_n hx hb dX7_telling_49 rfl (lv_at hl 1 rfl) ?_
          have f_50p21_5 : iR (i 37) 0 1 := hI 37
          refine k_get (D := (dC, dI)) (ci := 7) (v := .int (i 37)) (C := RX7) (T := TX7) (N := 92) hx hb hts hinX7 hown hK hP 2 rfl rfl 37 (by decide) w_2 rfl rfl dX7_telling_50 ?_
          refine lv_iload_n hx hb dX7_telling_53 rfl (lv_at hl 0 rfl) ?_
          refine s_iast (g := (upd f30 (i 37).toNatClampNeg r_18)) (ws' := [((r 30), .inl (cI, 2, .inl (upd f30 (i 37).toNatClampNeg r_18))), ((r 31), .inl (cI, 2, .inl f31)), (h, .inr (7, oM r (upd (upd (upd (upd (upd (upd (upd i 3 (u_18.1 0)) 4 (u_18.1 1)) 5 (u_18.1 2)) 6 (u_18.1 3)) 8 (u_18.1 4)) 9 (u_18.1 5)) 12 (u_18.1 6)) (vp_updL j 7 (u_18.2.1 0)))), ((r 0), .inl (cI, 1800, .inl f0))]) hx hb hK hP hD hS 0 0 rfl rfl (iR_vp f_50p21_5 (by decide +kernel)) rfl rfl dX7_telling_54 (fun H locs hP hD hS => ?_)
          refine lv_goto (tgt := 68) hx hb dX7_telling_55 (by decide) ?_
          exact k_rv B hP hD hS dX7_telling_68 ((fun k9 => match k9 with | 0 => (u_18.1 0) | 1 => (u_18.1 1) | 2 => (u_18.1 2) | 3 => (u_18.1 3) | 4 => (u_18.1 4) | 5 => (u_18.1 5) | 6 => (u_18.1 6) | _ => 0), (fun k9 => match k9 with | 0 => (u_18.2.1 0) | _ => 0), (fun k9 => match k9 with | 0 => (upd f30 (i 37).toNatClampNeg r_18) | 1 => f31 | _ => (fun _ => 0)), (fun _ => (fun _ => 0)), (fun _ => 0)) [2, 3, 0, 1] rfl rfl (Nat.le_of_ble_eq_true rfl) (Nat.le_of_ble_eq_true rfl) ⟨(show iR (u_18.1 0) 0 3 from g_18_1), (show iR (u_18.1 1) 0 1600 from g_18_2), (show iR (u_18.1 2) 0 1600 from g_18_3), (show iR (u_18.1 3) 0 9999 from g_18_4), (show iR (u_18.1 4) 0 6 from (iR_w f_41p21_2 (by decide +kernel))), (show aR (upd f30 (i 37).toNatClampNeg r_18) 0 999 from (aR_upd _ hf30 (iR_w f_41p21_4 (by decide +kernel)))), (show aR f31 0 999 from hf31)⟩
      · have c_37p21 : 0 < (u_18.1 4) := i_nle c_37p21
        have f_40p21_2 : iR (u_18.1 4) 1 6 := iR_ltR c_37p21 (iR_c (n := 0) (a := 0) (b := 0) (by decide +kernel) (by decide +kernel)) g_18_5 (by decide +kernel)
        exact k_rv B hP hD hS dX7_telling_40 ((fun k9 => match k9 with | 0 => (u_18.1 0) | 1 => (u_18.1 1) | 2 => (u_18.1 2) | 3 => (u_18.1 3) | 4 => (u_18.1 4) | 5 => (u_18.1 5) | 6 => (u_18.1 6) | _ => 0), (fun k9 => match k9 with | 0 => (u_18.2.1 0) | _ => 0), (fun k9 => match k9 with | 0 => f30 | 1 => f31 | _ => (fun _ => 0)), (fun _ => (fun _ => 0)), (fun _ => 0)) [2, 3, 0, 1] rfl rfl (Nat.le_of_ble_eq_true rfl) (Nat.le_of_ble_eq_true rfl) ⟨(show iR (u_18.1 0) 0 3 from g_18_1), (show iR (u_18.1 1) 0 1600 from g_18_2), (show iR (u_18.1 2) 0 1600 from g_18_3), (show iR (u_18.1 3) 0 9999 from g_18_4), (show iR (u_18.1 4) 0 6 from (iR_w f_40p21_2 (by decide +kernel))), (show aR f30 0 999 from hf30), (show aR f31 0 999 from hf31)⟩
  · have c_5 : r_2 = 0 := c_5
    have f_8_1 : iR r_2 0 0 := iR_eqL c_5 g_2_0 (iR_c (n := 0) (a := 0) (b := 0) (by decide +kernel) (by decide +kernel)) (by decide +kernel)
    exact k_rv B hP hD hS dX7_telling_8 ((fun k9 => match k9 with | 0 => (u_2.1 0) | 1 => (u_2.1 1) | 2 => (u_2.1 2) | 3 => (u_2.1 3) | 4 => (i 8) | 5 => (i 9) | 6 => (u_2.1 4) | _ => 0), (fun k9 => match k9 with | 0 => (u_2.2.1 0) | _ => 0), (fun k9 => match k9 with | 0 => f30 | 1 => f31 | _ => (fun _ => 0)), (fun _ => (fun _ => 0)), (fun _ => 0)) [2, 3, 0, 1] rfl rfl (Nat.le_of_ble_eq_true rfl) (Nat.le_of_ble_eq_true rfl) ⟨(show iR (u_2.1 0) 0 3 from g_2_1), (show iR (u_2.1 1) 0 1600 from g_2_2), (show iR (u_2.1 2) 0 1600 from g_2_3), (show iR (u_2.1 3) 0 9999 from g_2_4), (show iR (i 8) 0 6 from (hI 8)), (show aR f30 0 999 from hf30), (show aR f31 0 999 from hf31)⟩
set_option maxHeartbeats 8000000 in
set_option maxRecDepth 100000 in
theorem s_X7_counts_v2 (l : Launch) (dC : Nat → ClassId) (dI : Nat → Nat → Nat) (cI cJ cZ cM : ClassId) (h : Nat) (r : Nat → Nat) (i : Nat → Int32) (j : Nat → Int64) (x1 : Int32) (f0 : Nat → Int32) (hI : mR i) (hf0 : aR f0 0 255) : k_Mi l yX7_counts wsX7_counts ({ frames := 3, cells := 0, slots := 0, locals := 87 }) (dC, dI) vwCl (tyy cI cJ cZ cM) [(h, .inr (7, oM r i j)), ((r 0), .inl (cI, 1800, .inl f0))] [.ref h, .int x1] 0 0 (fun (u9 : SU) => [(h, .inr (7, oM r (upd (upd (upd (upd (upd (upd (upd i 3 (u9.1 0)) 4 (u9.1 1)) 5 (u9.1 2)) 6 (u9.1 3)) 8 (u9.1 4)) 9 (u9.1 5)) 12 (u9.1 6)) (vp_updL j 7 (u9.2.1 0)))), ((r 0), .inl (cI, 1800, .inl f0))]) (fun (r9 : Int32) (u9 : SU) => (iR r9 0 1) ∧ (iR (u9.1 0) 0 3) ∧ (iR (u9.1 1) 0 1600) ∧ (iR (u9.1 2) 0 1600) ∧ (iR (u9.1 3) 0 9999) ∧ (iR (u9.1 4) 0 6)) := by
  refine fun sz => k_enter (cc := cX7_counts) (maxL := 2) (ret := some (.boolean)) (Qc := fun A => va_Qi (fun (r9 : Int32) (u9 : SU) => (iR r9 0 1) ∧ (iR (u9.1 0) 0 3) ∧ (iR (u9.1 1) 0 1600) ∧ (iR (u9.1 2) 0 1600) ∧ (iR (u9.1 3) 0 9999) ∧ (iR (u9.1 4) 0 6)) (fun u => k_B (dC, dI) vwCl (tyy cI cJ cZ cM) A ((fun (u9 : SU) => [(h, .inr (7, oM r (upd (upd (upd (upd (upd (upd (upd i 3 (u9.1 0)) 4 (u9.1 1)) 5 (u9.1 2)) 6 (u9.1 3)) 8 (u9.1 4)) 9 (u9.1 5)) 12 (u9.1 6)) (vp_updL j 7 (u9.2.1 0)))), ((r 0), .inl (cI, 1800, .inl f0))]) u)) A) sz (by decide +kernel) rfl (Nat.le_of_ble_eq_true rfl) (fun p e s m args below meth c A ls H locs B hP hD hS hl => ?_)
  obtain ⟨hx, hb, hml, hown, hts, hr, hlk, hnm, hK, hA, hN, hC⟩ := id B
  have hown : s.vm.findClass RX7 = some m.cls := hown
  have hl : lv_has ls 2 [(0, .ref h), (1, .int x1)] := hl
  have w_0 : (Cond.fieldLink RX7 36 "WishSeaModel" "faultKind" "I").before args s = true := hts _ (List.mem_of_getElem? (i := 1) rfl)
  have w_1 : (Cond.fieldLink RX7 23 "WishSeaModel" "signAt" "I").before args s = true := hts _ (List.mem_of_getElem? (i := 2) rfl)
  have hinX7 : ∀ w ∈ u_ws RX7 TX7 92, w ∈ wsX7_counts := fun _ h => List.mem_cons_of_mem _ (List.mem_append_right _ h)
  refine lv_aload_n hx hb dX7_counts_0 rfl (lv_at hl 0 rfl) ?_
  have f_1_1 : iR (i 8) 0 6 := hI 8
  refine k_get (D := (dC, dI)) (ci := 7) (v := .int (i 8)) (C := RX7) (T := TX7) (N := 92) hx hb hts hinX7 hown hK hP 0 rfl rfl 8 (by decide) w_0 rfl rfl dX7_counts_1 ?_
  refine lv_if_ne (tgt := 21) hx hb dX7_counts_4 (by decide) (fun c_4 => ?_) (fun c_4 => ?_)
  · have c_4 : ¬ (i 8) = 0 := c_4
    have f_21_2 : iR (i 8) 1 6 := iR_neL c_4 f_1_1 (iR_c (n := 0) (a := 0) (b := 0) (by decide +kernel) (by decide +kernel)) (by decide +kernel)
    refine lv_aload_n hx hb dX7_counts_21 rfl (lv_at hl 0 rfl) ?_
    refine k_get (D := (dC, dI)) (ci := 7) (v := .int (i 8)) (C := RX7) (T := TX7) (N := 92) hx hb hts hinX7 hown hK hP 0 rfl rfl 8 (by decide) w_0 rfl rfl dX7_counts_22 ?_
    refine lv_if_ne (tgt := 32) hx hb dX7_counts_25 (by decide) (fun c_25p4 => ?_) (fun c_25p4 => ?_)
    · have c_25p4 : ¬ (i 8) = 0 := c_25p4
      refine lv_aload_n hx hb dX7_counts_32 rfl (lv_at hl 0 rfl) ?_
      refine k_get (D := (dC, dI)) (ci := 7) (v := .int (i 8)) (C := RX7) (T := TX7) (N := 92) hx hb hts hinX7 hown hK hP 0 rfl rfl 8 (by decide) w_0 rfl rfl dX7_counts_33 ?_
      refine lv_if_ne (tgt := 43) hx hb dX7_counts_36 (by decide) (fun c_36p4p25 => ?_) (fun c_36p4p25 => ?_)
      · have c_36p4p25 : ¬ (i 8) = 0 := c_36p4p25
        refine lv_iconst (v := 0) hx hb dX7_counts_43 (by decide +kernel) ?_
        exact k_ri B hP hD hS dX7_counts_44 ((fun k9 => match k9 with | 0 => (i 3) | 1 => (i 4) | 2 => (i 5) | 3 => (i 6) | 4 => (i 8) | 5 => (i 9) | 6 => (i 12) | _ => 0), (fun k9 => match k9 with | 0 => (j 7) | _ => 0), (fun _ => (fun _ => 0)), (fun _ => (fun _ => 0)), (fun _ => 0)) [0, 1] rfl rfl rfl (Nat.le_of_ble_eq_true rfl) (Nat.le_of_ble_eq_true rfl) ⟨(show iR 0 0 1 from (iR_c (n := 0) (a := 0) (b := 1) (by decide +kernel) (by decide +kernel))), (show iR (i 3) 0 3 from (hI 3)), (show iR (i 4) 0 1600 from (hI 4)), (show iR (i 5) 0 1600 from (hI 5)), (show iR (i 6) 0 9999 from (hI 6)), (show iR (i 8) 0 6 from (iR_w f_21_2 (by decide +kernel)))⟩
      · exact iR_cl (iR_eqL (a' := 1) (b' := 0) c_36p4p25 f_21_2 (iR_c (n := 0) (a := 0) (b := 0) (by decide +kernel) (by decide +kernel)) (by decide +kernel)) (by decide +kernel)
    · exact iR_cl (iR_eqL (a' := 1) (b' := 0) c_25p4 f_21_2 (iR_c (n := 0) (a := 0) (b := 0) (by decide +kernel) (by decide +kernel)) (by decide +kernel)) (by decide +kernel)
  · have c_4 : (i 8) = 0 := c_4
    have f_7_2 : iR (i 8) 0 0 := iR_eqL c_4 f_1_1 (iR_c (n := 0) (a := 0) (b := 0) (by decide +kernel) (by decide +kernel)) (by decide +kernel)
    refine lv_iload_n hx hb dX7_counts_7 rfl (lv_at hl 1 rfl) ?_
    refine lv_if_eq (tgt := 21) hx hb dX7_counts_8 (by decide) (fun c_8 => ?_) (fun c_8 => ?_)
    · have c_8 : x1 = 0 := c_8
      have f_21_3 : iR x1 0 0 := iR_eqL c_8 (iR_top _) (iR_c (n := 0) (a := 0) (b := 0) (by decide +kernel) (by decide +kernel)) (by decide +kernel)
      refine lv_aload_n hx hb dX7_counts_21 rfl (lv_at hl 0 rfl) ?_
      refine k_get (D := (dC, dI)) (ci := 7) (v := .int (i 8)) (C := RX7) (T := TX7) (N := 92) hx hb hts hinX7 hown hK hP 0 rfl rfl 8 (by decide) w_0 rfl rfl dX7_counts_22 ?_
      refine lv_if_ne (tgt := 32) hx hb dX7_counts_25 (by decide) (fun c_25p8 => ?_) (fun c_25p8 => ?_)
      · exact absurd (i_eqc f_7_2 (iR_c (n := 0) (a := 0) (b := 0) (by decide +kernel) (by decide +kernel))) c_25p8
      · have c_25p8 : (i 8) = 0 := c_25p8
        refine lv_aload_n hx hb dX7_counts_28 rfl (lv_at hl 0 rfl) ?_
        refine k_cv (wc := [(h, .inr (7, oM r i j)), ((r 0), .inl (cI, 1800, .inl f0))]) (wr := []) (fun hPc hDc hFc => va_runV (As := []) (rest := []) ⟨hx, hb, hml, hown, hts⟩ (s_X7_ahead_v1 l dC dI cI cJ cZ cM h r i j f0 hI hf0 H.size) (cwV 0 hts gX7_counts_X7_ahead rfl rfl rfl (by decide +kernel) ⟨(Nat.le_of_ble_eq_true rfl), (Nat.le_of_ble_eq_true rfl)⟩) (k_pV hPc hDc hK hN hC hS hFc hP (q0 := 0) (ci := 7) rfl rfl) rfl rfl hl.1 rfl (lv_room (Nat.le_of_ble_eq_true rfl)) dX7_counts_29 ⟨(Nat.le_of_ble_eq_true rfl), (Nat.le_of_ble_eq_true rfl)⟩) hP hD hS hA [0, 1] [] rfl rfl rfl rfl (by decide) (fun _ => rfl) 0 0 rfl rfl (fun u_29p8 H locs hw hP hD hS => ?_)
        obtain ⟨g_29p8_0, g_29p8_1, g_29p8_2, g_29p8_3, g_29p8_4, g_29p8_5, g_29p8_6, g_29p8_7, g_29p8_8, g_29p8_9⟩ := hw
        have hP : va_P (dC, dI) vwCl [(h, .inr (7, oM r (upd (upd (upd (upd (upd i 3 (u_29p8.1 0)) 4 (u_29p8.1 1)) 5 (u_29p8.1 2)) 6 (u_29p8.1 3)) 12 (u_29p8.1 4)) (vp_updL j 7 (u_29p8.2.1 0)))), ((r 0), .inl (cI, 1800, .inl f0))] H := hP
        have hD : va_D A [(h, .inr (7, oM r (upd (upd (upd (upd (upd i 3 (u_29p8.1 0)) 4 (u_29p8.1 1)) 5 (u_29p8.1 2)) 6 (u_29p8.1 3)) 12 (u_29p8.1 4)) (vp_updL j 7 (u_29p8.2.1 0)))), ((r 0), .inl (cI, 1800, .inl f0))] := hD
        refine lv_aload_n hx hb dX7_counts_32 rfl (lv_at hl 0 rfl) ?_
        refine k_get (D := (dC, dI)) (ci := 7) (v := .int (i 8)) (C := RX7) (T := TX7) (N := 92) hx hb hts hinX7 hown hK hP 0 rfl rfl 8 (by decide) w_0 rfl rfl dX7_counts_33 ?_
        refine lv_if_ne (tgt := 43) hx hb dX7_counts_36 (by decide) (fun c_36p8p29 => ?_) (fun c_36p8p29 => ?_)
        · exact absurd (i_eqc f_7_2 (iR_c (n := 0) (a := 0) (b := 0) (by decide +kernel) (by decide +kernel))) c_36p8p29
        · have c_36p8p29 : (i 8) = 0 := c_36p8p29
          refine lv_iconst (v := 1) hx hb dX7_counts_39 (by decide +kernel) ?_
          refine lv_goto (tgt := 44) hx hb dX7_counts_40 (by decide) ?_
          exact k_ri B hP hD hS dX7_counts_44 ((fun k9 => match k9 with | 0 => (u_29p8.1 0) | 1 => (u_29p8.1 1) | 2 => (u_29p8.1 2) | 3 => (u_29p8.1 3) | 4 => (i 8) | 5 => (i 9) | 6 => (u_29p8.1 4) | _ => 0), (fun k9 => match k9 with | 0 => (u_29p8.2.1 0) | _ => 0), (fun _ => (fun _ => 0)), (fun _ => (fun _ => 0)), (fun _ => 0)) [0, 1] rfl rfl rfl (Nat.le_of_ble_eq_true rfl) (Nat.le_of_ble_eq_true rfl) ⟨(show iR 1 0 1 from (iR_c (n := 1) (a := 0) (b := 1) (by decide +kernel) (by decide +kernel))), (show iR (u_29p8.1 0) 0 3 from g_29p8_2), (show iR (u_29p8.1 1) 0 1600 from g_29p8_3), (show iR (u_29p8.1 2) 0 1600 from g_29p8_4), (show iR (u_29p8.1 3) 0 9999 from g_29p8_5), (show iR (i 8) 0 6 from (iR_w f_7_2 (by decide +kernel)))⟩
    · have c_8 : ¬ x1 = 0 := c_8
      refine lv_aload_n hx hb dX7_counts_11 rfl (lv_at hl 0 rfl) ?_
      refine lv_bipush (v := 6) hx hb dX7_counts_12 (by decide +kernel) ?_
      refine lv_aload_n hx hb dX7_counts_14 rfl (lv_at hl 0 rfl) ?_
      have f_15_3 : iR (i 4) 0 1600 := hI 4
      refine k_get (D := (dC, dI)) (ci := 7) (v := .int (i 4)) (C := RX7) (T := TX7) (N := 92) hx hb hts hinX7 hown hK hP 0 rfl rfl 4 (by decide) w_1 rfl rfl dX7_counts_15 ?_
      refine k_cv (wc := [(h, .inr (7, oM r i j))]) (wr := [((r 0), .inl (cI, 1800, .inl f0))]) (fun hPc hDc hFc => va_runV (As := [.int 6, .int (i 4)]) (rest := []) ⟨hx, hb, hml, hown, hts⟩ (s_X7_blame_v2 l dC dI cI cJ cZ cM h r i j 6 (i 4) (iR_c (n := 6) (a := 1) (b := 6) (by decide +kernel) (by decide +kernel)) hI H.size) (cwV 2 hts gX7_counts_X7_blame rfl rfl rfl (by decide +kernel) ⟨(Nat.le_of_ble_eq_true rfl), (Nat.le_of_ble_eq_true rfl)⟩) (k_pV hPc hDc hK hN hC hS hFc hP (q0 := 0) (ci := 7) rfl rfl) rfl rfl hl.1 rfl (lv_room (Nat.le_of_ble_eq_true rfl)) dX7_counts_18 ⟨(Nat.le_of_ble_eq_true rfl), (Nat.le_of_ble_eq_true rfl)⟩) hP hD hS hA [0] [1] rfl rfl rfl rfl (by decide) (fun _ => rfl) 0 0 rfl rfl (fun u_18 H locs hw hP hD hS => ?_)
      have g_18_0 := hw
      have hP : va_P (dC, dI) vwCl [((r 0), .inl (cI, 1800, .inl f0)), (h, .inr (7, oM r (upd (upd i 8 (u_18.1 0)) 9 (u_18.1 1)) j))] H := hP
      have hD : va_D A [((r 0), .inl (cI, 1800, .inl f0)), (h, .inr (7, oM r (upd (upd i 8 (u_18.1 0)) 9 (u_18.1 1)) j))] := hD
      refine lv_aload_n hx hb dX7_counts_21 rfl (lv_at hl 0 rfl) ?_
      refine k_get (D := (dC, dI)) (ci := 7) (v := .int (u_18.1 0)) (C := RX7) (T := TX7) (N := 92) hx hb hts hinX7 hown hK hP 1 rfl rfl 8 (by decide) w_0 rfl rfl dX7_counts_22 ?_
      refine lv_if_ne (tgt := 32) hx hb dX7_counts_25 (by decide) (fun c_25p18 => ?_) (fun c_25p18 => ?_)
      · have c_25p18 : ¬ (u_18.1 0) = 0 := c_25p18
        refine lv_aload_n hx hb dX7_counts_32 rfl (lv_at hl 0 rfl) ?_
        refine k_get (D := (dC, dI)) (ci := 7) (v := .int (u_18.1 0)) (C := RX7) (T := TX7) (N := 92) hx hb hts hinX7 hown hK hP 1 rfl rfl 8 (by decide) w_0 rfl rfl dX7_counts_33 ?_
        refine lv_if_ne (tgt := 43) hx hb dX7_counts_36 (by decide) (fun c_36p18p25 => ?_) (fun c_36p18p25 => ?_)
        · have c_36p18p25 : ¬ (u_18.1 0) = 0 := c_36p18p25
          refine lv_iconst (v := 0) hx hb dX7_counts_43 (by decide +kernel) ?_
          exact k_ri B hP hD hS dX7_counts_44 ((fun k9 => match k9 with | 0 => (i 3) | 1 => (i 4) | 2 => (i 5) | 3 => (i 6) | 4 => (u_18.1 0) | 5 => (u_18.1 1) | 6 => (i 12) | _ => 0), (fun k9 => match k9 with | 0 => (j 7) | _ => 0), (fun _ => (fun _ => 0)), (fun _ => (fun _ => 0)), (fun _ => 0)) [1, 0] rfl rfl rfl (Nat.le_of_ble_eq_true rfl) (Nat.le_of_ble_eq_true rfl) ⟨(show iR 0 0 1 from (iR_c (n := 0) (a := 0) (b := 1) (by decide +kernel) (by decide +kernel))), (show iR (i 3) 0 3 from (hI 3)), (show iR (i 4) 0 1600 from f_15_3), (show iR (i 5) 0 1600 from (hI 5)), (show iR (i 6) 0 9999 from (hI 6)), (show iR (u_18.1 0) 0 6 from (iR_w g_18_0 (by decide +kernel)))⟩
        · exact iR_cl (iR_eqL (a' := 1) (b' := 0) c_36p18p25 g_18_0 (iR_c (n := 0) (a := 0) (b := 0) (by decide +kernel) (by decide +kernel)) (by decide +kernel)) (by decide +kernel)
      · exact iR_cl (iR_eqL (a' := 1) (b' := 0) c_25p18 g_18_0 (iR_c (n := 0) (a := 0) (b := 0) (by decide +kernel) (by decide +kernel)) (by decide +kernel)) (by decide +kernel)
set_option maxHeartbeats 8000000 in
set_option maxRecDepth 100000 in
theorem s_X7_pushes_v0 (l : Launch) (dC : Nat → ClassId) (dI : Nat → Nat → Nat) (cI cJ cZ cM : ClassId) (h : Nat) (r : Nat → Nat) (i : Nat → Int32) (j : Nat → Int64) (x1 : Int32) (f38 : Nat → Int32) (f39 : Nat → Int32) (f40 : Nat → Int32) (f42 : Nat → Int32) (hm43 : iR (i 43) 0 7) (hI : mR i) (hf40 : aR f40 0 1) : k_Mv l yX7_pushes wsX7_pushes ({ frames := 1, cells := 0, slots := 0, locals := 40 }) (dC, dI) vwCl (tyy cI cJ cZ cM) [(h, .inr (7, oM r i j)), ((r 38), .inl (cI, 20, .inl f38)), ((r 39), .inl (cI, 20, .inl f39)), ((r 40), .inl (cZ, 20, .inl f40)), ((r 42), .inl (cI, 20, .inl f42))] [.ref h, .int x1] 0 0 (fun (u9 : SU) => [(h, .inr (7, oM r (upd i 43 (u9.1 0)) j)), ((r 38), .inl (cI, 20, .inl (upd f38 (i 43).toNatClampNeg x1))), ((r 39), .inl (cI, 20, .inl (upd f39 (i 43).toNatClampNeg 0))), ((r 40), .inl (cZ, 20, .inl (upd f40 (i 43).toNatClampNeg 1))), ((r 42), .inl (cI, 20, .inl (upd f42 (i 43).toNatClampNeg (i 46))))]) (fun (u9 : SU) => (iR (u9.1 0) 1 8) ∧ ((u9.1 0).toInt = (i 43).toInt + 1)) := by
  refine fun sz => k_enter (cc := cX7_pushes) (maxL := 2) (ret := none) (Qc := fun A => va_Qv (fun (u9 : SU) => (iR (u9.1 0) 1 8) ∧ ((u9.1 0).toInt = (i 43).toInt + 1)) (fun u => k_B (dC, dI) vwCl (tyy cI cJ cZ cM) A ((fun (u9 : SU) => [(h, .inr (7, oM r (upd i 43 (u9.1 0)) j)), ((r 38), .inl (cI, 20, .inl (upd f38 (i 43).toNatClampNeg x1))), ((r 39), .inl (cI, 20, .inl (upd f39 (i 43).toNatClampNeg 0))), ((r 40), .inl (cZ, 20, .inl (upd f40 (i 43).toNatClampNeg 1))), ((r 42), .inl (cI, 20, .inl (upd f42 (i 43).toNatClampNeg (i 46))))]) u)) A) sz (by decide +kernel) rfl (Nat.le_of_ble_eq_true rfl) (fun p e s m args below meth c A ls H locs B hP hD hS hl => ?_)
  obtain ⟨hx, hb, hml, hown, hts, hr, hlk, hnm, hK, hA, hN, hC⟩ := id B
  have hown : s.vm.findClass RX7 = some m.cls := hown
  have hl : lv_has ls 2 [(0, .ref h), (1, .int x1)] := hl
  have w_0 : (Cond.fieldLink RX7 127 "WishSeaModel" "frame" "[I").before args s = true := hts _ (List.mem_of_getElem? (i := 1) rfl)
  have w_1 : (Cond.fieldLink RX7 143 "WishSeaModel" "deep" "I").before args s = true := hts _ (List.mem_of_getElem? (i := 2) rfl)
  have w_2 : (Cond.fieldLink RX7 130 "WishSeaModel" "phase" "[I").before args s = true := hts _ (List.mem_of_getElem? (i := 3) rfl)
  have w_3 : (Cond.fieldLink RX7 133 "WishSeaModel" "begins" "[Z").before args s = true := hts _ (List.mem_of_getElem? (i := 4) rfl)
  have w_4 : (Cond.fieldLink RX7 140 "WishSeaModel" "base" "[I").before args s = true := hts _ (List.mem_of_getElem? (i := 5) rfl)
  have w_5 : (Cond.fieldLink RX7 152 "WishSeaModel" "opMany" "I").before args s = true := hts _ (List.mem_of_getElem? (i := 6) rfl)
  have hinX7 : ∀ w ∈ u_ws RX7 TX7 92, w ∈ wsX7_pushes := fun _ h => List.mem_cons_of_mem _ (List.mem_append_right _ h)
  refine lv_aload_n hx hb dX7_pushes_0 rfl (lv_at hl 0 rfl) ?_
  refine k_get (D := (dC, dI)) (ci := 7) (v := .ref (r 38)) (C := RX7) (T := TX7) (N := 92) hx hb hts hinX7 hown hK hP 0 rfl rfl 38 (by decide) w_0 rfl rfl dX7_pushes_1 ?_
  refine lv_aload_n hx hb dX7_pushes_4 rfl (lv_at hl 0 rfl) ?_
  refine k_get (D := (dC, dI)) (ci := 7) (v := .int (i 43)) (C := RX7) (T := TX7) (N := 92) hx hb hts hinX7 hown hK hP 0 rfl rfl 43 (by decide) w_1 rfl rfl dX7_pushes_5 ?_
  refine lv_iload_n hx hb dX7_pushes_8 rfl (lv_at hl 1 rfl) ?_
  refine s_iast (g := (upd f38 (i 43).toNatClampNeg x1)) (ws' := [(h, .inr (7, oM r i j)), ((r 38), .inl (cI, 20, .inl (upd f38 (i 43).toNatClampNeg x1))), ((r 39), .inl (cI, 20, .inl f39)), ((r 40), .inl (cZ, 20, .inl f40)), ((r 42), .inl (cI, 20, .inl f42))]) hx hb hK hP hD hS 1 0 rfl rfl (iR_vp hm43 (by decide +kernel)) rfl rfl dX7_pushes_9 (fun H locs hP hD hS => ?_)
  refine lv_aload_n hx hb dX7_pushes_10 rfl (lv_at hl 0 rfl) ?_
  refine k_get (D := (dC, dI)) (ci := 7) (v := .ref (r 39)) (C := RX7) (T := TX7) (N := 92) hx hb hts hinX7 hown hK hP 0 rfl rfl 39 (by decide) w_2 rfl rfl dX7_pushes_11 ?_
  refine lv_aload_n hx hb dX7_pushes_14 rfl (lv_at hl 0 rfl) ?_
  refine k_get (D := (dC, dI)) (ci := 7) (v := .int (i 43)) (C := RX7) (T := TX7) (N := 92) hx hb hts hinX7 hown hK hP 0 rfl rfl 43 (by decide) w_1 rfl rfl dX7_pushes_15 ?_
  refine lv_iconst (v := 0) hx hb dX7_pushes_18 (by decide +kernel) ?_
  refine s_iast (g := (upd f39 (i 43).toNatClampNeg 0)) (ws' := [(h, .inr (7, oM r i j)), ((r 38), .inl (cI, 20, .inl (upd f38 (i 43).toNatClampNeg x1))), ((r 39), .inl (cI, 20, .inl (upd f39 (i 43).toNatClampNeg 0))), ((r 40), .inl (cZ, 20, .inl f40)), ((r 42), .inl (cI, 20, .inl f42))]) hx hb hK hP hD hS 2 0 rfl rfl (iR_vp hm43 (by decide +kernel)) rfl rfl dX7_pushes_19 (fun H locs hP hD hS => ?_)
  refine lv_aload_n hx hb dX7_pushes_20 rfl (lv_at hl 0 rfl) ?_
  refine k_get (D := (dC, dI)) (ci := 7) (v := .ref (r 40)) (C := RX7) (T := TX7) (N := 92) hx hb hts hinX7 hown hK hP 0 rfl rfl 40 (by decide) w_3 rfl rfl dX7_pushes_21 ?_
  refine lv_aload_n hx hb dX7_pushes_24 rfl (lv_at hl 0 rfl) ?_
  refine k_get (D := (dC, dI)) (ci := 7) (v := .int (i 43)) (C := RX7) (T := TX7) (N := 92) hx hb hts hinX7 hown hK hP 0 rfl rfl 43 (by decide) w_1 rfl rfl dX7_pushes_25 ?_
  refine lv_iconst (v := 1) hx hb dX7_pushes_28 (by decide +kernel) ?_
  refine s_zast (g := (upd f40 (i 43).toNatClampNeg 1)) (ws' := [(h, .inr (7, oM r i j)), ((r 38), .inl (cI, 20, .inl (upd f38 (i 43).toNatClampNeg x1))), ((r 39), .inl (cI, 20, .inl (upd f39 (i 43).toNatClampNeg 0))), ((r 40), .inl (cZ, 20, .inl (upd f40 (i 43).toNatClampNeg 1))), ((r 42), .inl (cI, 20, .inl f42))]) hx hb hK hP hD hS 3 2 rfl rfl (iR_vp hm43 (by decide +kernel)) rfl rfl rfl dX7_pushes_29 (fun H locs hP hD hS => ?_)
  refine lv_aload_n hx hb dX7_pushes_30 rfl (lv_at hl 0 rfl) ?_
  refine k_get (D := (dC, dI)) (ci := 7) (v := .ref (r 42)) (C := RX7) (T := TX7) (N := 92) hx hb hts hinX7 hown hK hP 0 rfl rfl 42 (by decide) w_4 rfl rfl dX7_pushes_31 ?_
  refine lv_aload_n hx hb dX7_pushes_34 rfl (lv_at hl 0 rfl) ?_
  refine k_get (D := (dC, dI)) (ci := 7) (v := .int (i 43)) (C := RX7) (T := TX7) (N := 92) hx hb hts hinX7 hown hK hP 0 rfl rfl 43 (by decide) w_1 rfl rfl dX7_pushes_35 ?_
  refine lv_aload_n hx hb dX7_pushes_38 rfl (lv_at hl 0 rfl) ?_
  have f_39_1 : iR (i 46) 0 48 := hI 46
  refine k_get (D := (dC, dI)) (ci := 7) (v := .int (i 46)) (C := RX7) (T := TX7) (N := 92) hx hb hts hinX7 hown hK hP 0 rfl rfl 46 (by decide) w_5 rfl rfl dX7_pushes_39 ?_
  refine s_iast (g := (upd f42 (i 43).toNatClampNeg (i 46))) (ws' := [(h, .inr (7, oM r i j)), ((r 38), .inl (cI, 20, .inl (upd f38 (i 43).toNatClampNeg x1))), ((r 39), .inl (cI, 20, .inl (upd f39 (i 43).toNatClampNeg 0))), ((r 40), .inl (cZ, 20, .inl (upd f40 (i 43).toNatClampNeg 1))), ((r 42), .inl (cI, 20, .inl (upd f42 (i 43).toNatClampNeg (i 46))))]) hx hb hK hP hD hS 4 0 rfl rfl (iR_vp hm43 (by decide +kernel)) rfl rfl dX7_pushes_42 (fun H locs hP hD hS => ?_)
  refine lv_aload_n hx hb dX7_pushes_43 rfl (lv_at hl 0 rfl) ?_
  refine lv_dup hx hb dX7_pushes_44 rfl ?_
  refine k_get (D := (dC, dI)) (ci := 7) (v := .int (i 43)) (C := RX7) (T := TX7) (N := 92) hx hb hts hinX7 hown hK hP 0 rfl rfl 43 (by decide) w_1 rfl rfl dX7_pushes_45 ?_
  refine lv_iconst (v := 1) hx hb dX7_pushes_48 (by decide +kernel) ?_
  refine lv_iadd hx hb dX7_pushes_49 ?_
  refine lv_topi (fun y_49 ey_49 => ?_)
  have xy_49 : y_49.toInt = (i 43).toInt + 1 := i_add ey_49 hm43 (iR_c (n := 1) (a := 1) (b := 1) (by decide +kernel) (by decide +kernel)) (by decide +kernel)
  have f_49_2 : iR y_49 1 8 := iR_add ey_49 hm43 (iR_c (n := 1) (a := 1) (b := 1) (by decide +kernel) (by decide +kernel)) (by decide +kernel)
  refine k_put (D := (dC, dI)) (ci := 7) (v := .int y_49) (C := RX7) (T := TX7) (N := 92) (ws' := [(h, .inr (7, oM r (upd i 43 y_49) j)), ((r 38), .inl (cI, 20, .inl (upd f38 (i 43).toNatClampNeg x1))), ((r 39), .inl (cI, 20, .inl (upd f39 (i 43).toNatClampNeg 0))), ((r 40), .inl (cZ, 20, .inl (upd f40 (i 43).toNatClampNeg 1))), ((r 42), .inl (cI, 20, .inl (upd f42 (i 43).toNatClampNeg (i 46))))]) hx hb hts hinX7 tyX7 tyX7_ok nmX7 hown hK hP hD hS 0 rfl rfl 43 (by decide) w_1 rfl rfl rfl rfl (Nat.le_of_ble_eq_true rfl) rfl dX7_pushes_50 (fun H locs hP hD hS => ?_)
  exact k_rv B hP hD hS dX7_pushes_53 ((fun k9 => match k9 with | 0 => y_49 | _ => 0), (fun _ => 0), (fun _ => (fun _ => 0)), (fun _ => (fun _ => 0)), (fun _ => 0)) [0, 1, 2, 3, 4] rfl rfl (Nat.le_of_ble_eq_true rfl) (Nat.le_of_ble_eq_true rfl) ⟨(show iR y_49 1 8 from f_49_2), (show y_49.toInt = (i 43).toInt + 1 from (by have q0 : 1 ≤ y_49.toInt ∧ y_49.toInt ≤ 8 := f_49_2; have q1 : 0 ≤ (i 43).toInt ∧ (i 43).toInt ≤ 7 := hm43; omega))⟩
set_option maxHeartbeats 8000000 in
set_option maxRecDepth 100000 in
theorem s_X7_fault_v0 (l : Launch) (dC : Nat → ClassId) (dI : Nat → Nat → Nat) (cI cJ cZ cM : ClassId) (h : Nat) (r : Nat → Nat) (i : Nat → Int32) (j : Nat → Int64) (x1 : Int32) (hI : mR i) : k_Mi l yX7_fault wsX7_fault ({ frames := 1, cells := 0, slots := 0, locals := 40 }) (dC, dI) vwCl (tyy cI cJ cZ cM) [(h, .inr (7, oM r i j))] [.ref h, .int x1] 0 0 (fun (u9 : Unit) => [(h, .inr (7, oM r i j))]) (fun (r9 : Int32) (u9 : Unit) => True) := by
  refine fun sz => k_enter (cc := cX7_fault) (maxL := 2) (ret := some (.int)) (Qc := fun A => va_Qi (fun (r9 : Int32) (u9 : Unit) => True) (fun u => k_B (dC, dI) vwCl (tyy cI cJ cZ cM) A ((fun (u9 : Unit) => [(h, .inr (7, oM r i j))]) u)) A) sz (by decide +kernel) rfl (Nat.le_of_ble_eq_true rfl) (fun p e s m args below meth c A ls H locs B hP hD hS hl => ?_)
  obtain ⟨hx, hb, hml, hown, hts, hr, hlk, hnm, hK, hA, hN, hC⟩ := id B
  have hown : s.vm.findClass RX7 = some m.cls := hown
  have hl : lv_has ls 2 [(0, .ref h), (1, .int x1)] := hl
  have w_0 : (Cond.fieldLink RX7 45 "WishSeaModel" "toldPlace" "I").before args s = true := hts _ (List.mem_of_getElem? (i := 2) rfl)
  have w_1 : (Cond.fieldLink RX7 42 "WishSeaModel" "toldKind" "I").before args s = true := hts _ (List.mem_of_getElem? (i := 1) rfl)
  have hinX7 : ∀ w ∈ u_ws RX7 TX7 92, w ∈ wsX7_fault := fun _ h => List.mem_cons_of_mem _ (List.mem_append_right _ h)
  refine lv_iload_n hx hb dX7_fault_0 rfl (lv_at hl 1 rfl) ?_
  refine lv_if_ne (tgt := 11) hx hb dX7_fault_1 (by decide) (fun c_1 => ?_) (fun c_1 => ?_)
  · have c_1 : ¬ x1 = 0 := c_1
    refine lv_iload_n hx hb dX7_fault_11 rfl (lv_at hl 1 rfl) ?_
    refine lv_iconst (v := 1) hx hb dX7_fault_12 (by decide +kernel) ?_
    refine lv_icmp_ne (tgt := 23) hx hb dX7_fault_13 (by decide) (fun c_13 => ?_) (fun c_13 => ?_)
    · have c_13 : ¬ x1 = 1 := c_13
      refine lv_iconst (v := (-1)) hx hb dX7_fault_23 (by decide +kernel) ?_
      exact k_ri B hP hD hS dX7_fault_24 () [0] rfl rfl rfl (Nat.le_of_ble_eq_true rfl) (Nat.le_of_ble_eq_true rfl) trivial
    · have c_13 : x1 = 1 := c_13
      have f_16_1 : iR x1 1 1 := iR_eqL c_13 (iR_top _) (iR_c (n := 1) (a := 1) (b := 1) (by decide +kernel) (by decide +kernel)) (by decide +kernel)
      refine lv_aload_n hx hb dX7_fault_16 rfl (lv_at hl 0 rfl) ?_
      refine k_get (D := (dC, dI)) (ci := 7) (v := .int (i 11)) (C := RX7) (T := TX7) (N := 92) hx hb hts hinX7 hown hK hP 0 rfl rfl 11 (by decide) w_0 rfl rfl dX7_fault_17 ?_
      refine lv_goto (tgt := 24) hx hb dX7_fault_20 (by decide) ?_
      exact k_ri B hP hD hS dX7_fault_24 () [0] rfl rfl rfl (Nat.le_of_ble_eq_true rfl) (Nat.le_of_ble_eq_true rfl) trivial
  · have c_1 : x1 = 0 := c_1
    have f_4_1 : iR x1 0 0 := iR_eqL c_1 (iR_top _) (iR_c (n := 0) (a := 0) (b := 0) (by decide +kernel) (by decide +kernel)) (by decide +kernel)
    refine lv_aload_n hx hb dX7_fault_4 rfl (lv_at hl 0 rfl) ?_
    refine k_get (D := (dC, dI)) (ci := 7) (v := .int (i 10)) (C := RX7) (T := TX7) (N := 92) hx hb hts hinX7 hown hK hP 0 rfl rfl 10 (by decide) w_1 rfl rfl dX7_fault_5 ?_
    refine lv_goto (tgt := 24) hx hb dX7_fault_8 (by decide) ?_
    exact k_ri B hP hD hS dX7_fault_24 () [0] rfl rfl rfl (Nat.le_of_ble_eq_true rfl) (Nat.le_of_ble_eq_true rfl) trivial
set_option maxHeartbeats 8000000 in
set_option maxRecDepth 100000 in
theorem s_X7_asks_v0 (l : Launch) (dC : Nat → ClassId) (dI : Nat → Nat → Nat) (cI cJ cZ cM : ClassId) (h : Nat) (r : Nat → Nat) (i : Nat → Int32) (j : Nat → Int64) (x1 : Int32) (x2 : Int32) (x3 : Int32) (x4 : Int32) (hI : mR i) : k_Mv l yX7_asks wsX7_asks ({ frames := 1, cells := 0, slots := 0, locals := 40 }) (dC, dI) vwCl (tyy cI cJ cZ cM) [(h, .inr (7, oM r i j))] [.ref h, .int x1, .int x2, .int x3, .int x4] 0 0 (fun (u9 : Unit) => [(h, .inr (7, oM r (upd (upd (upd (upd i 62 x1) 63 x2) 64 x3) 65 x4) j))]) (fun (u9 : Unit) => True) := by
  refine fun sz => k_enter (cc := cX7_asks) (maxL := 5) (ret := none) (Qc := fun A => va_Qv (fun (u9 : Unit) => True) (fun u => k_B (dC, dI) vwCl (tyy cI cJ cZ cM) A ((fun (u9 : Unit) => [(h, .inr (7, oM r (upd (upd (upd (upd i 62 x1) 63 x2) 64 x3) 65 x4) j))]) u)) A) sz (by decide +kernel) rfl (Nat.le_of_ble_eq_true rfl) (fun p e s m args below meth c A ls H locs B hP hD hS hl => ?_)
  obtain ⟨hx, hb, hml, hown, hts, hr, hlk, hnm, hK, hA, hN, hC⟩ := id B
  have hown : s.vm.findClass RX7 = some m.cls := hown
  have hl : lv_has ls 5 [(0, .ref h), (1, .int x1), (2, .int x2), (3, .int x3), (4, .int x4)] := hl
  have w_0 : (Cond.fieldLink RX7 201 "WishSeaModel" "askedHad" "I").before args s = true := hts _ (List.mem_of_getElem? (i := 1) rfl)
  have w_1 : (Cond.fieldLink RX7 204 "WishSeaModel" "askedSea" "I").before args s = true := hts _ (List.mem_of_getElem? (i := 2) rfl)
  have w_2 : (Cond.fieldLink RX7 207 "WishSeaModel" "askedSaid" "I").before args s = true := hts _ (List.mem_of_getElem? (i := 3) rfl)
  have w_3 : (Cond.fieldLink RX7 210 "WishSeaModel" "askedDay" "I").before args s = true := hts _ (List.mem_of_getElem? (i := 4) rfl)
  have hinX7 : ∀ w ∈ u_ws RX7 TX7 92, w ∈ wsX7_asks := fun _ h => List.mem_cons_of_mem _ (List.mem_append_right _ h)
  refine lv_aload_n hx hb dX7_asks_0 rfl (lv_at hl 0 rfl) ?_
  refine lv_iload_n hx hb dX7_asks_1 rfl (lv_at hl 1 rfl) ?_
  refine k_put (D := (dC, dI)) (ci := 7) (v := .int x1) (C := RX7) (T := TX7) (N := 92) (ws' := [(h, .inr (7, oM r (upd i 62 x1) j))]) hx hb hts hinX7 tyX7 tyX7_ok nmX7 hown hK hP hD hS 0 rfl rfl 62 (by decide) w_0 rfl rfl rfl rfl (Nat.le_of_ble_eq_true rfl) rfl dX7_asks_2 (fun H locs hP hD hS => ?_)
  refine lv_aload_n hx hb dX7_asks_5 rfl (lv_at hl 0 rfl) ?_
  refine lv_iload_n hx hb dX7_asks_6 rfl (lv_at hl 2 rfl) ?_
  refine k_put (D := (dC, dI)) (ci := 7) (v := .int x2) (C := RX7) (T := TX7) (N := 92) (ws' := [(h, .inr (7, oM r (upd (upd i 62 x1) 63 x2) j))]) hx hb hts hinX7 tyX7 tyX7_ok nmX7 hown hK hP hD hS 0 rfl rfl 63 (by decide) w_1 rfl rfl rfl rfl (Nat.le_of_ble_eq_true rfl) rfl dX7_asks_7 (fun H locs hP hD hS => ?_)
  refine lv_aload_n hx hb dX7_asks_10 rfl (lv_at hl 0 rfl) ?_
  refine lv_iload_n hx hb dX7_asks_11 rfl (lv_at hl 3 rfl) ?_
  refine k_put (D := (dC, dI)) (ci := 7) (v := .int x3) (C := RX7) (T := TX7) (N := 92) (ws' := [(h, .inr (7, oM r (upd (upd (upd i 62 x1) 63 x2) 64 x3) j))]) hx hb hts hinX7 tyX7 tyX7_ok nmX7 hown hK hP hD hS 0 rfl rfl 64 (by decide) w_2 rfl rfl rfl rfl (Nat.le_of_ble_eq_true rfl) rfl dX7_asks_12 (fun H locs hP hD hS => ?_)
  refine lv_aload_n hx hb dX7_asks_15 rfl (lv_at hl 0 rfl) ?_
  refine lv_iload hx hb dX7_asks_16 (lv_at hl 4 rfl) ?_
  refine k_put (D := (dC, dI)) (ci := 7) (v := .int x4) (C := RX7) (T := TX7) (N := 92) (ws' := [(h, .inr (7, oM r (upd (upd (upd (upd i 62 x1) 63 x2) 64 x3) 65 x4) j))]) hx hb hts hinX7 tyX7 tyX7_ok nmX7 hown hK hP hD hS 0 rfl rfl 65 (by decide) w_3 rfl rfl rfl rfl (Nat.le_of_ble_eq_true rfl) rfl dX7_asks_18 (fun H locs hP hD hS => ?_)
  exact k_rv B hP hD hS dX7_asks_21 () [0] rfl rfl (Nat.le_of_ble_eq_true rfl) (Nat.le_of_ble_eq_true rfl) trivial
set_option maxHeartbeats 8000000 in
set_option maxRecDepth 100000 in
theorem s_X7_asks_v1 (l : Launch) (dC : Nat → ClassId) (dI : Nat → Nat → Nat) (cI cJ cZ cM : ClassId) (h : Nat) (r : Nat → Nat) (i : Nat → Int32) (j : Nat → Int64) (x1 : Int32) (x2 : Int32) (x3 : Int32) (x4 : Int32) (hI : mR i) : k_Mv l yX7_asks wsX7_asks ({ frames := 1, cells := 0, slots := 0, locals := 40 }) (dC, dI) vwCl (tyy cI cJ cZ cM) [(h, .inr (7, oM r i j))] [.ref h, .int x1, .int x2, .int x3, .int x4] 0 0 (fun (u9 : Unit) => [(h, .inr (7, oM r (upd (upd (upd (upd i 62 x1) 63 x2) 64 x3) 65 x4) j))]) (fun (u9 : Unit) => True) := by
  refine fun sz => k_enter (cc := cX7_asks) (maxL := 5) (ret := none) (Qc := fun A => va_Qv (fun (u9 : Unit) => True) (fun u => k_B (dC, dI) vwCl (tyy cI cJ cZ cM) A ((fun (u9 : Unit) => [(h, .inr (7, oM r (upd (upd (upd (upd i 62 x1) 63 x2) 64 x3) 65 x4) j))]) u)) A) sz (by decide +kernel) rfl (Nat.le_of_ble_eq_true rfl) (fun p e s m args below meth c A ls H locs B hP hD hS hl => ?_)
  obtain ⟨hx, hb, hml, hown, hts, hr, hlk, hnm, hK, hA, hN, hC⟩ := id B
  have hown : s.vm.findClass RX7 = some m.cls := hown
  have hl : lv_has ls 5 [(0, .ref h), (1, .int x1), (2, .int x2), (3, .int x3), (4, .int x4)] := hl
  have w_0 : (Cond.fieldLink RX7 201 "WishSeaModel" "askedHad" "I").before args s = true := hts _ (List.mem_of_getElem? (i := 1) rfl)
  have w_1 : (Cond.fieldLink RX7 204 "WishSeaModel" "askedSea" "I").before args s = true := hts _ (List.mem_of_getElem? (i := 2) rfl)
  have w_2 : (Cond.fieldLink RX7 207 "WishSeaModel" "askedSaid" "I").before args s = true := hts _ (List.mem_of_getElem? (i := 3) rfl)
  have w_3 : (Cond.fieldLink RX7 210 "WishSeaModel" "askedDay" "I").before args s = true := hts _ (List.mem_of_getElem? (i := 4) rfl)
  have hinX7 : ∀ w ∈ u_ws RX7 TX7 92, w ∈ wsX7_asks := fun _ h => List.mem_cons_of_mem _ (List.mem_append_right _ h)
  refine lv_aload_n hx hb dX7_asks_0 rfl (lv_at hl 0 rfl) ?_
  refine lv_iload_n hx hb dX7_asks_1 rfl (lv_at hl 1 rfl) ?_
  refine k_put (D := (dC, dI)) (ci := 7) (v := .int x1) (C := RX7) (T := TX7) (N := 92) (ws' := [(h, .inr (7, oM r (upd i 62 x1) j))]) hx hb hts hinX7 tyX7 tyX7_ok nmX7 hown hK hP hD hS 0 rfl rfl 62 (by decide) w_0 rfl rfl rfl rfl (Nat.le_of_ble_eq_true rfl) rfl dX7_asks_2 (fun H locs hP hD hS => ?_)
  refine lv_aload_n hx hb dX7_asks_5 rfl (lv_at hl 0 rfl) ?_
  refine lv_iload_n hx hb dX7_asks_6 rfl (lv_at hl 2 rfl) ?_
  refine k_put (D := (dC, dI)) (ci := 7) (v := .int x2) (C := RX7) (T := TX7) (N := 92) (ws' := [(h, .inr (7, oM r (upd (upd i 62 x1) 63 x2) j))]) hx hb hts hinX7 tyX7 tyX7_ok nmX7 hown hK hP hD hS 0 rfl rfl 63 (by decide) w_1 rfl rfl rfl rfl (Nat.le_of_ble_eq_true rfl) rfl dX7_asks_7 (fun H locs hP hD hS => ?_)
  refine lv_aload_n hx hb dX7_asks_10 rfl (lv_at hl 0 rfl) ?_
  refine lv_iload_n hx hb dX7_asks_11 rfl (lv_at hl 3 rfl) ?_
  refine k_put (D := (dC, dI)) (ci := 7) (v := .int x3) (C := RX7) (T := TX7) (N := 92) (ws' := [(h, .inr (7, oM r (upd (upd (upd i 62 x1) 63 x2) 64 x3) j))]) hx hb hts hinX7 tyX7 tyX7_ok nmX7 hown hK hP hD hS 0 rfl rfl 64 (by decide) w_2 rfl rfl rfl rfl (Nat.le_of_ble_eq_true rfl) rfl dX7_asks_12 (fun H locs hP hD hS => ?_)
  refine lv_aload_n hx hb dX7_asks_15 rfl (lv_at hl 0 rfl) ?_
  refine lv_iload hx hb dX7_asks_16 (lv_at hl 4 rfl) ?_
  refine k_put (D := (dC, dI)) (ci := 7) (v := .int x4) (C := RX7) (T := TX7) (N := 92) (ws' := [(h, .inr (7, oM r (upd (upd (upd (upd i 62 x1) 63 x2) 64 x3) 65 x4) j))]) hx hb hts hinX7 tyX7 tyX7_ok nmX7 hown hK hP hD hS 0 rfl rfl 65 (by decide) w_3 rfl rfl rfl rfl (Nat.le_of_ble_eq_true rfl) rfl dX7_asks_18 (fun H locs hP hD hS => ?_)
  exact k_rv B hP hD hS dX7_asks_21 () [0] rfl rfl (Nat.le_of_ble_eq_true rfl) (Nat.le_of_ble_eq_true rfl) trivial
set_option maxHeartbeats 8000000 in
set_option maxRecDepth 100000 in
theorem s_X7_asksLayer_v0 (l : Launch) (dC : Nat → ClassId) (dI : Nat → Nat → Nat) (cI cJ cZ cM : ClassId) (h : Nat) (r : Nat → Nat) (i : Nat → Int32) (j : Nat → Int64) (x1 : Int32) (f49 : Nat → Int32) (f50 : Nat → Int32) (f51 : Nat → Int32) (f52 : Nat → Int32) (hx1 : iR x1 0 21) (hI : mR i) (hf49 : aR f49 0 1023) (hf50 : aR f50 0 999) : k_Mv l yX7_asksLayer wsX7_asksLayer ({ frames := 2, cells := 0, slots := 0, locals := 64 }) (dC, dI) vwCl (tyy cI cJ cZ cM) [(h, .inr (7, oM r i j)), ((r 49), .inl (cI, 22, .inl f49)), ((r 50), .inl (cI, 22, .inl f50)), ((r 51), .inl (cI, 22, .inl f51)), ((r 52), .inl (cI, 22, .inl f52))] [.ref h, .int x1] 0 0 (fun (u9 : Unit) => [(h, .inr (7, oM r (upd (upd (upd (upd i 62 (f49 x1.toNatClampNeg)) 63 (f50 x1.toNatClampNeg)) 64 (f51 x1.toNatClampNeg)) 65 (f52 x1.toNatClampNeg)) j)), ((r 49), .inl (cI, 22, .inl f49)), ((r 50), .inl (cI, 22, .inl f50)), ((r 51), .inl (cI, 22, .inl f51)), ((r 52), .inl (cI, 22, .inl f52))]) (fun (u9 : Unit) => True) := by
  refine fun sz => k_enter (cc := cX7_asksLayer) (maxL := 2) (ret := none) (Qc := fun A => va_Qv (fun (u9 : Unit) => True) (fun u => k_B (dC, dI) vwCl (tyy cI cJ cZ cM) A ((fun (u9 : Unit) => [(h, .inr (7, oM r (upd (upd (upd (upd i 62 (f49 x1.toNatClampNeg)) 63 (f50 x1.toNatClampNeg)) 64 (f51 x1.toNatClampNeg)) 65 (f52 x1.toNatClampNeg)) j)), ((r 49), .inl (cI, 22, .inl f49)), ((r 50), .inl (cI, 22, .inl f50)), ((r 51), .inl (cI, 22, .inl f51)), ((r 52), .inl (cI, 22, .inl f52))]) u)) A) sz (by decide +kernel) rfl (Nat.le_of_ble_eq_true rfl) (fun p e s m args below meth c A ls H locs B hP hD hS hl => ?_)
  obtain ⟨hx, hb, hml, hown, hts, hr, hlk, hnm, hK, hA, hN, hC⟩ := id B
  have hown : s.vm.findClass RX7 = some m.cls := hown
  have hl : lv_has ls 2 [(0, .ref h), (1, .int x1)] := hl
  have w_0 : (Cond.fieldLink RX7 162 "WishSeaModel" "hadOf" "[I").before args s = true := hts _ (List.mem_of_getElem? (i := 1) rfl)
  have w_1 : (Cond.fieldLink RX7 165 "WishSeaModel" "seaOf" "[I").before args s = true := hts _ (List.mem_of_getElem? (i := 2) rfl)
  have w_2 : (Cond.fieldLink RX7 168 "WishSeaModel" "saidOf" "[I").before args s = true := hts _ (List.mem_of_getElem? (i := 3) rfl)
  have w_3 : (Cond.fieldLink RX7 171 "WishSeaModel" "dayOf" "[I").before args s = true := hts _ (List.mem_of_getElem? (i := 4) rfl)
  have hinX7 : ∀ w ∈ u_ws RX7 TX7 92, w ∈ wsX7_asksLayer := fun _ h => List.mem_cons_of_mem _ (List.mem_append_right _ h)
  refine lv_aload_n hx hb dX7_asksLayer_0 rfl (lv_at hl 0 rfl) ?_
  refine lv_aload_n hx hb dX7_asksLayer_1 rfl (lv_at hl 0 rfl) ?_
  refine k_get (D := (dC, dI)) (ci := 7) (v := .ref (r 49)) (C := RX7) (T := TX7) (N := 92) hx hb hts hinX7 hown hK hP 0 rfl rfl 49 (by decide) w_0 rfl rfl dX7_asksLayer_2 ?_
  refine lv_iload_n hx hb dX7_asksLayer_5 rfl (lv_at hl 1 rfl) ?_
  refine va_iald hx hb hK hP 1 0 rfl rfl (iR_vp hx1 (by decide +kernel)) dX7_asksLayer_6 ?_
  have f_6_1 : iR (f49 x1.toNatClampNeg) 0 1023 := hf49 _
  refine lv_aload_n hx hb dX7_asksLayer_7 rfl (lv_at hl 0 rfl) ?_
  refine k_get (D := (dC, dI)) (ci := 7) (v := .ref (r 50)) (C := RX7) (T := TX7) (N := 92) hx hb hts hinX7 hown hK hP 0 rfl rfl 50 (by decide) w_1 rfl rfl dX7_asksLayer_8 ?_
  refine lv_iload_n hx hb dX7_asksLayer_11 rfl (lv_at hl 1 rfl) ?_
  refine va_iald hx hb hK hP 2 0 rfl rfl (iR_vp hx1 (by decide +kernel)) dX7_asksLayer_12 ?_
  have f_12_2 : iR (f50 x1.toNatClampNeg) 0 999 := hf50 _
  refine lv_aload_n hx hb dX7_asksLayer_13 rfl (lv_at hl 0 rfl) ?_
  refine k_get (D := (dC, dI)) (ci := 7) (v := .ref (r 51)) (C := RX7) (T := TX7) (N := 92) hx hb hts hinX7 hown hK hP 0 rfl rfl 51 (by decide) w_2 rfl rfl dX7_asksLayer_14 ?_
  refine lv_iload_n hx hb dX7_asksLayer_17 rfl (lv_at hl 1 rfl) ?_
  refine va_iald hx hb hK hP 3 0 rfl rfl (iR_vp hx1 (by decide +kernel)) dX7_asksLayer_18 ?_
  refine lv_aload_n hx hb dX7_asksLayer_19 rfl (lv_at hl 0 rfl) ?_
  refine k_get (D := (dC, dI)) (ci := 7) (v := .ref (r 52)) (C := RX7) (T := TX7) (N := 92) hx hb hts hinX7 hown hK hP 0 rfl rfl 52 (by decide) w_3 rfl rfl dX7_asksLayer_20 ?_
  refine lv_iload_n hx hb dX7_asksLayer_23 rfl (lv_at hl 1 rfl) ?_
  refine va_iald hx hb hK hP 4 0 rfl rfl (iR_vp hx1 (by decide +kernel)) dX7_asksLayer_24 ?_
  refine k_cv (wc := [(h, .inr (7, oM r i j))]) (wr := [((r 49), .inl (cI, 22, .inl f49)), ((r 50), .inl (cI, 22, .inl f50)), ((r 51), .inl (cI, 22, .inl f51)), ((r 52), .inl (cI, 22, .inl f52))]) (fun hPc hDc hFc => va_runV (As := [.int (f49 x1.toNatClampNeg), .int (f50 x1.toNatClampNeg), .int (f51 x1.toNatClampNeg), .int (f52 x1.toNatClampNeg)]) (rest := []) ⟨hx, hb, hml, hown, hts⟩ (s_X7_asks_v1 l dC dI cI cJ cZ cM h r i j (f49 x1.toNatClampNeg) (f50 x1.toNatClampNeg) (f51 x1.toNatClampNeg) (f52 x1.toNatClampNeg) hI H.size) (cwV 4 hts gX7_asksLayer_X7_asks rfl rfl rfl (by decide +kernel) ⟨(Nat.le_of_ble_eq_true rfl), (Nat.le_of_ble_eq_true rfl)⟩) (k_pV hPc hDc hK hN hC hS hFc hP (q0 := 0) (ci := 7) rfl rfl) rfl rfl hl.1 rfl (lv_room (Nat.le_of_ble_eq_true rfl)) dX7_asksLayer_25 ⟨(Nat.le_of_ble_eq_true rfl), (Nat.le_of_ble_eq_true rfl)⟩) hP hD hS hA [0] [1, 2, 3, 4] rfl rfl rfl rfl (by decide) (fun _ => rfl) 0 0 rfl rfl (fun u_25 H locs hw hP hD hS => ?_)
  have hP : va_P (dC, dI) vwCl [((r 49), .inl (cI, 22, .inl f49)), ((r 50), .inl (cI, 22, .inl f50)), ((r 51), .inl (cI, 22, .inl f51)), ((r 52), .inl (cI, 22, .inl f52)), (h, .inr (7, oM r (upd (upd (upd (upd i 62 (f49 x1.toNatClampNeg)) 63 (f50 x1.toNatClampNeg)) 64 (f51 x1.toNatClampNeg)) 65 (f52 x1.toNatClampNeg)) j))] H := hP
  have hD : va_D A [((r 49), .inl (cI, 22, .inl f49)), ((r 50), .inl (cI, 22, .inl f50)), ((r 51), .inl (cI, 22, .inl f51)), ((r 52), .inl (cI, 22, .inl f52)), (h, .inr (7, oM r (upd (upd (upd (upd i 62 (f49 x1.toNatClampNeg)) 63 (f50 x1.toNatClampNeg)) 64 (f51 x1.toNatClampNeg)) 65 (f52 x1.toNatClampNeg)) j))] := hD
  exact k_rv B hP hD hS dX7_asksLayer_28 () [4, 0, 1, 2, 3] rfl rfl (Nat.le_of_ble_eq_true rfl) (Nat.le_of_ble_eq_true rfl) trivial
set_option maxHeartbeats 8000000 in
set_option maxRecDepth 100000 in
theorem s_X7_holds_v0 (l : Launch) (dC : Nat → ClassId) (dI : Nat → Nat → Nat) (cI cJ cZ cM : ClassId) (x0 : Int32) (x1 : Int32)  : k_Mi l yX7_holds wsX7_holds ({ frames := 1, cells := 0, slots := 0, locals := 40 }) (dC, dI) vwCl (tyy cI cJ cZ cM) [] [.int x0, .int x1] 0 0 (fun (u9 : Unit) => []) (fun (r9 : Int32) (u9 : Unit) => (iR r9 0 1)) := by
  refine fun sz => k_enter (cc := cX7_holds) (maxL := 2) (ret := some (.boolean)) (Qc := fun A => va_Qi (fun (r9 : Int32) (u9 : Unit) => (iR r9 0 1)) (fun u => k_B (dC, dI) vwCl (tyy cI cJ cZ cM) A ((fun (u9 : Unit) => []) u)) A) sz (by decide +kernel) rfl (Nat.le_of_ble_eq_true rfl) (fun p e s m args below meth c A ls H locs B hP hD hS hl => ?_)
  obtain ⟨hx, hb, hml, hown, hts, hr, hlk, hnm, hK, hA, hN, hC⟩ := id B
  have hown : s.vm.findClass RX7 = some m.cls := hown
  have hl : lv_has ls 2 [(0, .int x0), (1, .int x1)] := hl
  refine lv_iload_n hx hb dX7_holds_0 rfl (lv_at hl 0 rfl) ?_
  refine lv_iload_n hx hb dX7_holds_1 rfl (lv_at hl 1 rfl) ?_
  refine lv_ishr hx hb dX7_holds_2 ?_
  refine lv_topi (fun y_2 ey_2 => ?_)
  refine lv_iconst (v := 1) hx hb dX7_holds_3 (by decide +kernel) ?_
  refine lv_iand hx hb dX7_holds_4 ?_
  refine lv_topi (fun y_4 ey_4 => ?_)
  have f_4_1 : iR y_4 0 1 := iR_andR ey_4 (iR_c (n := 1) (a := 1) (b := 1) (by decide +kernel) (by decide +kernel)) (by decide +kernel)
  refine lv_iconst (v := 1) hx hb dX7_holds_5 (by decide +kernel) ?_
  refine lv_icmp_ne (tgt := 13) hx hb dX7_holds_6 (by decide) (fun c_6 => ?_) (fun c_6 => ?_)
  · have c_6 : ¬ y_4 = 1 := c_6
    have f_13_2 : iR y_4 0 0 := iR_neL c_6 f_4_1 (iR_c (n := 1) (a := 1) (b := 1) (by decide +kernel) (by decide +kernel)) (by decide +kernel)
    refine lv_iconst (v := 0) hx hb dX7_holds_13 (by decide +kernel) ?_
    exact k_ri B hP hD hS dX7_holds_14 () [] rfl rfl rfl (Nat.le_of_ble_eq_true rfl) (Nat.le_of_ble_eq_true rfl) (show iR 0 0 1 from (iR_c (n := 0) (a := 0) (b := 1) (by decide +kernel) (by decide +kernel)))
  · have c_6 : y_4 = 1 := c_6
    have f_9_2 : iR y_4 1 1 := iR_eqL c_6 f_4_1 (iR_c (n := 1) (a := 1) (b := 1) (by decide +kernel) (by decide +kernel)) (by decide +kernel)
    refine lv_iconst (v := 1) hx hb dX7_holds_9 (by decide +kernel) ?_
    refine lv_goto (tgt := 14) hx hb dX7_holds_10 (by decide) ?_
    exact k_ri B hP hD hS dX7_holds_14 () [] rfl rfl rfl (Nat.le_of_ble_eq_true rfl) (Nat.le_of_ble_eq_true rfl) (show iR 1 0 1 from (iR_c (n := 1) (a := 0) (b := 1) (by decide +kernel) (by decide +kernel)))
set_option maxHeartbeats 8000000 in
set_option maxRecDepth 100000 in
theorem s_X7_worthOf_v0 (l : Launch) (dC : Nat → ClassId) (dI : Nat → Nat → Nat) (cI cJ cZ cM : ClassId) (h : Nat) (r : Nat → Nat) (i : Nat → Int32) (j : Nat → Int64) (x1 : Int32) (f14 : Nat → Int32) (f15 : Nat → Int32) (hI : mR i) (hf14 : aR f14 0 10) : k_Mi l yX7_worthOf wsX7_worthOf ({ frames := 2, cells := 0, slots := 0, locals := 61 }) (dC, dI) vwCl (tyy cI cJ cZ cM) [(h, .inr (7, oM r i j)), ((r 14), .inl (cI, 2, .inl f14)), ((r 15), .inl (cI, 20, .inl f15))] [.ref h, .int x1] 0 0 (fun (u9 : Unit) => [(h, .inr (7, oM r i j)), ((r 14), .inl (cI, 2, .inl f14)), ((r 15), .inl (cI, 20, .inl f15))]) (fun (r9 : Int32) (u9 : Unit) => True) := by
  refine fun sz => k_enter (cc := cX7_worthOf) (maxL := 4) (ret := some (.int)) (Qc := fun A => va_Qi (fun (r9 : Int32) (u9 : Unit) => True) (fun u => k_B (dC, dI) vwCl (tyy cI cJ cZ cM) A ((fun (u9 : Unit) => [(h, .inr (7, oM r i j)), ((r 14), .inl (cI, 2, .inl f14)), ((r 15), .inl (cI, 20, .inl f15))]) u)) A) sz (by decide +kernel) rfl (Nat.le_of_ble_eq_true rfl) (fun p e s m args below meth c A ls H locs B hP hD hS hl => ?_)
  obtain ⟨hx, hb, hml, hown, hts, hr, hlk, hnm, hK, hA, hN, hC⟩ := id B
  have hown : s.vm.findClass RX7 = some m.cls := hown
  have hl : lv_has ls 4 [(0, .ref h), (1, .int x1)] := hl
  have w_0 : (Cond.fieldLink RX7 54 "WishSeaModel" "things" "[I").before args s = true := hts _ (List.mem_of_getElem? (i := 1) rfl)
  have w_1 : (Cond.fieldLink RX7 51 "WishSeaModel" "bank" "I").before args s = true := hts _ (List.mem_of_getElem? (i := 2) rfl)
  have w_2 : (Cond.fieldLink RX7 57 "WishSeaModel" "thingWorth" "[I").before args s = true := hts _ (List.mem_of_getElem? (i := 3) rfl)
  have hinX7 : ∀ w ∈ u_ws RX7 TX7 92, w ∈ wsX7_worthOf := fun _ h => List.mem_cons_of_mem _ (List.mem_append_right _ h)
  refine lv_iconst (v := 0) hx hb dX7_worthOf_0 (by decide +kernel) ?_
  refine lv_istore_n (lv' := [(2, .int 0), (0, .ref h), (1, .int x1)]) hx hb dX7_worthOf_1 rfl hl (by decide) rfl (fun ls hl => ?_)
  refine lv_iconst (v := 0) hx hb dX7_worthOf_2 (by decide +kernel) ?_
  have J_4 : ∀ (n_4 : Nat) (j4_L2 : Int32) (j4_L3 : Int32) (hj4_L3 : iR j4_L3 0 10) (hm_4 : (10 - j4_L3.toInt).toNat < n_4) (H : Heap) (locs : List Loc) (ls : Array Slot), va_P (dC, dI) vwCl [(h, .inr (7, oM r i j)), ((r 14), .inl (cI, 2, .inl f14)), ((r 15), .inl (cI, 20, .inl f15))] H → va_D A [(h, .inr (7, oM r i j)), ((r 14), .inl (cI, 2, .inl f14)), ((r 15), .inl (cI, 20, .inl f15))] → va_S A s.heap H locs → lv_has ls 4 [(0, .ref h), (1, .int x1), (2, .int j4_L2), (3, .int j4_L3)] → W p l e ({ frames := 2, cells := 0, slots := 0, locals := 61 }) s m args below meth c H locs 0 0 (MQ below (va_Qi (fun (r9 : Int32) (u9 : Unit) => True) (fun u => k_B (dC, dI) vwCl (tyy cI cJ cZ cM) A ((fun (u9 : Unit) => [(h, .inr (7, oM r i j)), ((r 14), .inl (cI, 2, .inl f14)), ((r 15), .inl (cI, 20, .inl f15))]) u)) A) args s 0 0 A) (F0 m 4 ls []) := by
    intro n_4
    induction n_4 with
    | zero => intro j4_L2 j4_L3 hj4_L3 hm_4; exact absurd hm_4 (Nat.not_lt_zero _)
    | succ n_4 ih_4 =>
      intro j4_L2 j4_L3 hj4_L3 hm_4 H locs ls hP hD hS hl
      refine lv_iload_n hx hb dX7_worthOf_4 rfl (lv_at hl 3 rfl) ?_
      refine lv_aload_n hx hb dX7_worthOf_5 rfl (lv_at hl 0 rfl) ?_
      refine k_get (D := (dC, dI)) (ci := 7) (v := .ref (r 14)) (C := RX7) (T := TX7) (N := 92) hx hb hts hinX7 hown hK hP 0 rfl rfl 14 (by decide) w_0 rfl rfl dX7_worthOf_6 ?_
      refine lv_aload_n hx hb dX7_worthOf_9 rfl (lv_at hl 0 rfl) ?_
      have f_10_1 : iR (i 13) 0 1 := hI 13
      refine k_get (D := (dC, dI)) (ci := 7) (v := .int (i 13)) (C := RX7) (T := TX7) (N := 92) hx hb hts hinX7 hown hK hP 0 rfl rfl 13 (by decide) w_1 rfl rfl dX7_worthOf_10 ?_
      refine va_iald hx hb hK hP 1 0 rfl rfl (iR_vp f_10_1 (by decide +kernel)) dX7_worthOf_13 ?_
      have f_13_2 : iR (f14 (i 13).toNatClampNeg) 0 10 := hf14 _
      refine lv_icmp_ge (tgt := 52) hx hb dX7_worthOf_14 (by decide) (fun c_14 => ?_) (fun c_14 => ?_)
      · have c_14 : (f14 (i 13).toNatClampNeg) ≤ j4_L3 := c_14
        refine lv_iload_n hx hb dX7_worthOf_52 rfl (lv_at hl 2 rfl) ?_
        exact k_ri B hP hD hS dX7_worthOf_53 () [0, 1, 2] rfl rfl rfl (Nat.le_of_ble_eq_true rfl) (Nat.le_of_ble_eq_true rfl) trivial
      · have c_14 : j4_L3 < (f14 (i 13).toNatClampNeg) := i_nle c_14
        have f_17_3 : iR j4_L3 0 9 := iR_ltL c_14 hj4_L3 f_13_2 (by decide +kernel)
        have f_17_4 : iR (f14 (i 13).toNatClampNeg) 1 10 := iR_ltR c_14 hj4_L3 f_13_2 (by decide +kernel)
        refine lv_iload_n hx hb dX7_worthOf_17 rfl (lv_at hl 2 rfl) ?_
        refine lv_iload_n hx hb dX7_worthOf_18 rfl (lv_at hl 1 rfl) ?_
        refine lv_iload_n hx hb dX7_worthOf_19 rfl (lv_at hl 3 rfl) ?_
        refine k_ci (wc := []) (wr := [(h, .inr (7, oM r i j)), ((r 14), .inl (cI, 2, .inl f14)), ((r 15), .inl (cI, 20, .inl f15))]) (fun hPc hDc hFc => va_runS (As := [.int x1, .int j4_L3]) (rest := [.int j4_L2]) ⟨hx, hb, hml, hown, hts⟩ (s_X7_holds_v0 l dC dI cI cJ cZ cM x1 j4_L3 H.size) (va_cwS 2 hts gX7_worthOf_X7_holds rfl rfl rfl (by decide +kernel) ⟨(Nat.le_of_ble_eq_true rfl), (Nat.le_of_ble_eq_true rfl)⟩) (k_pS hPc hDc hK hN hC hS hFc) rfl rfl hl.1 rfl (lv_room (Nat.le_of_ble_eq_true rfl)) dX7_worthOf_20 ⟨(Nat.le_of_ble_eq_true rfl), (Nat.le_of_ble_eq_true rfl)⟩) hP hD hS hA [] [0, 1, 2] rfl rfl rfl rfl (by decide) (fun _ => rfl) 0 0 rfl rfl (fun r_20 u_20 H locs hw hP hD hS => ?_)
        have g_20_0 := hw
        have hP : va_P (dC, dI) vwCl [(h, .inr (7, oM r i j)), ((r 14), .inl (cI, 2, .inl f14)), ((r 15), .inl (cI, 20, .inl f15))] H := hP
        have hD : va_D A [(h, .inr (7, oM r i j)), ((r 14), .inl (cI, 2, .inl f14)), ((r 15), .inl (cI, 20, .inl f15))] := hD
        have J_44 : ∀ (j44_S0 : Int32)  (H : Heap) (locs : List Loc) (ls : Array Slot), va_P (dC, dI) vwCl [(h, .inr (7, oM r i j)), ((r 14), .inl (cI, 2, .inl f14)), ((r 15), .inl (cI, 20, .inl f15))] H → va_D A [(h, .inr (7, oM r i j)), ((r 14), .inl (cI, 2, .inl f14)), ((r 15), .inl (cI, 20, .inl f15))] → va_S A s.heap H locs → lv_has ls 4 [(0, .ref h), (1, .int x1), (3, .int j4_L3)] → W p l e ({ frames := 2, cells := 0, slots := 0, locals := 61 }) s m args below meth c H locs 0 0 (MQ below (va_Qi (fun (r9 : Int32) (u9 : Unit) => True) (fun u => k_B (dC, dI) vwCl (tyy cI cJ cZ cM) A ((fun (u9 : Unit) => [(h, .inr (7, oM r i j)), ((r 14), .inl (cI, 2, .inl f14)), ((r 15), .inl (cI, 20, .inl f15))]) u)) A) args s 0 0 A) (F0 m 44 ls [.int j44_S0, .int j4_L2]) := by
          intro j44_S0  H locs ls hP hD hS hl
          refine lv_iadd hx hb dX7_worthOf_44 ?_
          refine lv_topi (fun y_44 ey_44 => ?_)
          refine lv_istore_n (lv' := [(2, .int y_44), (0, .ref h), (1, .int x1), (3, .int j4_L3)]) hx hb dX7_worthOf_45 rfl hl (by decide) rfl (fun ls hl => ?_)
          obtain ⟨y_46, ey_46⟩ : ∃ y : Int32, y = j4_L3 + 1 := ⟨_, rfl⟩
          refine lv_iinc (v := y_46) (lv' := [(3, .int y_46), (2, .int y_44), (0, .ref h), (1, .int x1)]) hx hb dX7_worthOf_46 hl (k := 3) rfl ey_46.symm (by decide) rfl (fun ls hl => ?_)
          have f_46_1 : iR y_46 1 10 := iR_add ey_46 f_17_3 (iR_c (n := 1) (a := 1) (b := 1) (by decide +kernel) (by decide +kernel)) (by decide +kernel)
          refine lv_goto (tgt := 4) hx hb dX7_worthOf_49 (by decide) ?_
          exact ih_4 y_44 y_46 (iR_w f_46_1 (by decide +kernel)) (m_up (B := 10) hm_4 ey_46 f_17_3 (by decide +kernel)) H locs ls hP hD hS (lv_sub hl [2, 3, 1, 0] rfl)
        refine lv_if_eq (tgt := 43) hx hb dX7_worthOf_23 (by decide) (fun c_23 => ?_) (fun c_23 => ?_)
        · have c_23 : r_20 = 0 := c_23
          have f_43_5 : iR r_20 0 0 := iR_eqL c_23 g_20_0 (iR_c (n := 0) (a := 0) (b := 0) (by decide +kernel) (by decide +kernel)) (by decide +kernel)
          refine lv_iconst (v := 0) hx hb dX7_worthOf_43 (by decide +kernel) ?_
          exact J_44 0  H locs ls hP hD hS (lv_sub hl [0, 1, 3] rfl)
        · have c_23 : ¬ r_20 = 0 := c_23
          have f_26_5 : iR r_20 1 1 := iR_neL c_23 g_20_0 (iR_c (n := 0) (a := 0) (b := 0) (by decide +kernel) (by decide +kernel)) (by decide +kernel)
          refine lv_aload_n hx hb dX7_worthOf_26 rfl (lv_at hl 0 rfl) ?_
          refine k_get (D := (dC, dI)) (ci := 7) (v := .ref (r 15)) (C := RX7) (T := TX7) (N := 92) hx hb hts hinX7 hown hK hP 0 rfl rfl 15 (by decide) w_2 rfl rfl dX7_worthOf_27 ?_
          refine lv_bipush (v := 10) hx hb dX7_worthOf_30 (by decide +kernel) ?_
          refine lv_aload_n hx hb dX7_worthOf_32 rfl (lv_at hl 0 rfl) ?_
          refine k_get (D := (dC, dI)) (ci := 7) (v := .int (i 13)) (C := RX7) (T := TX7) (N := 92) hx hb hts hinX7 hown hK hP 0 rfl rfl 13 (by decide) w_1 rfl rfl dX7_worthOf_33 ?_
          refine lv_imul hx hb dX7_worthOf_36 ?_
          refine lv_topi (fun y_36 ey_36 => ?_)
          have f_36_6 : iR y_36 0 10 := iR_mul ey_36 (iR_c (n := 10) (a := 10) (b := 10) (by decide +kernel) (by decide +kernel)) f_10_1 (by decide +kernel)
          refine lv_iload_n hx hb dX7_worthOf_37 rfl (lv_at hl 3 rfl) ?_
          refine lv_iadd hx hb dX7_worthOf_38 ?_
          refine lv_topi (fun y_38 ey_38 => ?_)
          have f_38_7 : iR y_38 0 19 := iR_add ey_38 f_36_6 f_17_3 (by decide +kernel)
          refine va_iald hx hb hK hP 2 0 rfl rfl (iR_vp f_38_7 (by decide +kernel)) dX7_worthOf_39 ?_
          refine lv_goto (tgt := 44) hx hb dX7_worthOf_40 (by decide) ?_
          exact J_44 (f15 y_38.toNatClampNeg)  H locs ls hP hD hS (lv_sub hl [0, 1, 3] rfl)
  refine lv_istore_n (lv' := [(3, .int 0), (2, .int 0), (0, .ref h), (1, .int x1)]) hx hb dX7_worthOf_3 rfl hl (by decide) rfl (fun ls hl => ?_)
  exact J_4 _ 0 0 (iR_c (n := 0) (a := 0) (b := 10) (by decide +kernel) (by decide +kernel)) (Nat.lt_succ_self _) H locs ls hP hD hS (lv_sub hl [2, 3, 1, 0] rfl)
set_option maxHeartbeats 8000000 in
set_option maxRecDepth 100000 in
theorem s_X7_manyOf_v0 (l : Launch) (dC : Nat → ClassId) (dI : Nat → Nat → Nat) (cI cJ cZ cM : ClassId) (h : Nat) (r : Nat → Nat) (i : Nat → Int32) (j : Nat → Int64) (x1 : Int32) (f14 : Nat → Int32) (hx1 : iR x1 0 1) (hI : mR i) (hf14 : aR f14 0 10) : k_Mi l yX7_manyOf wsX7_manyOf ({ frames := 1, cells := 0, slots := 0, locals := 40 }) (dC, dI) vwCl (tyy cI cJ cZ cM) [(h, .inr (7, oM r i j)), ((r 14), .inl (cI, 2, .inl f14))] [.ref h, .int x1, .int 0] 0 0 (fun (u9 : Unit) => [(h, .inr (7, oM r i j)), ((r 14), .inl (cI, 2, .inl f14))]) (fun (r9 : Int32) (u9 : Unit) => (r9 = (f14 x1.toNatClampNeg))) := by
  refine fun sz => k_enter (cc := cX7_manyOf) (maxL := 3) (ret := some (.int)) (Qc := fun A => va_Qi (fun (r9 : Int32) (u9 : Unit) => (r9 = (f14 x1.toNatClampNeg))) (fun u => k_B (dC, dI) vwCl (tyy cI cJ cZ cM) A ((fun (u9 : Unit) => [(h, .inr (7, oM r i j)), ((r 14), .inl (cI, 2, .inl f14))]) u)) A) sz (by decide +kernel) rfl (Nat.le_of_ble_eq_true rfl) (fun p e s m args below meth c A ls H locs B hP hD hS hl => ?_)
  obtain ⟨hx, hb, hml, hown, hts, hr, hlk, hnm, hK, hA, hN, hC⟩ := id B
  have hown : s.vm.findClass RX7 = some m.cls := hown
  have hl : lv_has ls 3 [(0, .ref h), (1, .int x1), (2, .int 0)] := hl
  have w_0 : (Cond.fieldLink RX7 54 "WishSeaModel" "things" "[I").before args s = true := hts _ (List.mem_of_getElem? (i := 1) rfl)
  have hinX7 : ∀ w ∈ u_ws RX7 TX7 92, w ∈ wsX7_manyOf := fun _ h => List.mem_cons_of_mem _ (List.mem_append_right _ h)
  refine lv_iload_n hx hb dX7_manyOf_0 rfl (lv_at hl 2 rfl) ?_
  refine lv_if_ne (tgt := 13) hx hb dX7_manyOf_1 (by decide) (fun q9 => absurd q9 (by decide +kernel)) (fun _ => ?_)
  refine lv_aload_n hx hb dX7_manyOf_4 rfl (lv_at hl 0 rfl) ?_
  refine k_get (D := (dC, dI)) (ci := 7) (v := .ref (r 14)) (C := RX7) (T := TX7) (N := 92) hx hb hts hinX7 hown hK hP 0 rfl rfl 14 (by decide) w_0 rfl rfl dX7_manyOf_5 ?_
  refine lv_iload_n hx hb dX7_manyOf_8 rfl (lv_at hl 1 rfl) ?_
  refine va_iald hx hb hK hP 1 0 rfl rfl (iR_vp hx1 (by decide +kernel)) dX7_manyOf_9 ?_
  have f_9_1 : iR (f14 x1.toNatClampNeg) 0 10 := hf14 _
  refine lv_goto (tgt := 19) hx hb dX7_manyOf_10 (by decide) ?_
  exact k_ri B hP hD hS dX7_manyOf_19 () [0, 1] rfl rfl rfl (Nat.le_of_ble_eq_true rfl) (Nat.le_of_ble_eq_true rfl) rfl
set_option maxHeartbeats 8000000 in
set_option maxRecDepth 100000 in
theorem s_X7_nameOf_v0 (l : Launch) (dC : Nat → ClassId) (dI : Nat → Nat → Nat) (cI cJ cZ cM : ClassId) (h : Nat) (r : Nat → Nat) (i : Nat → Int32) (j : Nat → Int64) (x1 : Int32) (x3 : Int32) (g34 : Nat → Int64) (hx1 : iR x1 0 1) (hx3 : iR x3 0 9) (hI : mR i) : k_Ml l yX7_nameOf wsX7_nameOf ({ frames := 1, cells := 0, slots := 0, locals := 40 }) (dC, dI) vwCl (tyy cI cJ cZ cM) [(h, .inr (7, oM r i j)), ((r 34), .inl (cJ, 20, .inr (.inl g34)))] [.ref h, .int x1, .int 0, .int x3] 0 0 (fun (u9 : Unit) => [(h, .inr (7, oM r i j)), ((r 34), .inl (cJ, 20, .inr (.inl g34)))]) (fun (r9 : Int64) (u9 : Unit) => True) := by
  refine fun sz => k_enter (cc := cX7_nameOf) (maxL := 4) (ret := some (.long)) (Qc := fun A => va_Ql (fun (r9 : Int64) (u9 : Unit) => True) (fun u => k_B (dC, dI) vwCl (tyy cI cJ cZ cM) A ((fun (u9 : Unit) => [(h, .inr (7, oM r i j)), ((r 34), .inl (cJ, 20, .inr (.inl g34)))]) u)) A) sz (by decide +kernel) rfl (Nat.le_of_ble_eq_true rfl) (fun p e s m args below meth c A ls H locs B hP hD hS hl => ?_)
  obtain ⟨hx, hb, hml, hown, hts, hr, hlk, hnm, hK, hA, hN, hC⟩ := id B
  have hown : s.vm.findClass RX7 = some m.cls := hown
  have hl : lv_has ls 4 [(0, .ref h), (1, .int x1), (2, .int 0), (3, .int x3)] := hl
  have w_0 : (Cond.fieldLink RX7 114 "WishSeaModel" "thingName" "[J").before args s = true := hts _ (List.mem_of_getElem? (i := 1) rfl)
  have hinX7 : ∀ w ∈ u_ws RX7 TX7 92, w ∈ wsX7_nameOf := fun _ h => List.mem_cons_of_mem _ (List.mem_append_right _ h)
  refine lv_iload_n hx hb dX7_nameOf_0 rfl (lv_at hl 2 rfl) ?_
  refine lv_if_ne (tgt := 18) hx hb dX7_nameOf_1 (by decide) (fun q9 => absurd q9 (by decide +kernel)) (fun _ => ?_)
  refine lv_aload_n hx hb dX7_nameOf_4 rfl (lv_at hl 0 rfl) ?_
  refine k_get (D := (dC, dI)) (ci := 7) (v := .ref (r 34)) (C := RX7) (T := TX7) (N := 92) hx hb hts hinX7 hown hK hP 0 rfl rfl 34 (by decide) w_0 rfl rfl dX7_nameOf_5 ?_
  refine lv_bipush (v := 10) hx hb dX7_nameOf_8 (by decide +kernel) ?_
  refine lv_iload_n hx hb dX7_nameOf_10 rfl (lv_at hl 1 rfl) ?_
  refine lv_imul hx hb dX7_nameOf_11 ?_
  refine lv_topi (fun y_11 ey_11 => ?_)
  have f_11_1 : iR y_11 0 10 := iR_mul ey_11 (iR_c (n := 10) (a := 10) (b := 10) (by decide +kernel) (by decide +kernel)) hx1 (by decide +kernel)
  refine lv_iload_n hx hb dX7_nameOf_12 rfl (lv_at hl 3 rfl) ?_
  refine lv_iadd hx hb dX7_nameOf_13 ?_
  refine lv_topi (fun y_13 ey_13 => ?_)
  have f_13_2 : iR y_13 0 19 := iR_add ey_13 f_11_1 hx3 (by decide +kernel)
  refine va_lald hx hb hK hP 1 1 rfl rfl (iR_vp f_13_2 (by decide +kernel)) dX7_nameOf_14 ?_
  refine lv_goto (tgt := 29) hx hb dX7_nameOf_15 (by decide) ?_
  exact k_rl B hP hD hS dX7_nameOf_29 () [0, 1] rfl rfl (Nat.le_of_ble_eq_true rfl) (Nat.le_of_ble_eq_true rfl) trivial
set_option maxHeartbeats 8000000 in
set_option maxRecDepth 100000 in
theorem s_X7_manyOf_v1 (l : Launch) (dC : Nat → ClassId) (dI : Nat → Nat → Nat) (cI cJ cZ cM : ClassId) (h : Nat) (r : Nat → Nat) (i : Nat → Int32) (j : Nat → Int64) (x1 : Int32) (f18 : Nat → Int32) (hx1 : iR x1 0 1) (hI : mR i) (hf18 : aR f18 0 12) : k_Mi l yX7_manyOf wsX7_manyOf ({ frames := 1, cells := 0, slots := 0, locals := 40 }) (dC, dI) vwCl (tyy cI cJ cZ cM) [(h, .inr (7, oM r i j)), ((r 18), .inl (cI, 2, .inl f18))] [.ref h, .int x1, .int 1] 0 0 (fun (u9 : Unit) => [(h, .inr (7, oM r i j)), ((r 18), .inl (cI, 2, .inl f18))]) (fun (r9 : Int32) (u9 : Unit) => (r9 = (f18 x1.toNatClampNeg))) := by
  refine fun sz => k_enter (cc := cX7_manyOf) (maxL := 3) (ret := some (.int)) (Qc := fun A => va_Qi (fun (r9 : Int32) (u9 : Unit) => (r9 = (f18 x1.toNatClampNeg))) (fun u => k_B (dC, dI) vwCl (tyy cI cJ cZ cM) A ((fun (u9 : Unit) => [(h, .inr (7, oM r i j)), ((r 18), .inl (cI, 2, .inl f18))]) u)) A) sz (by decide +kernel) rfl (Nat.le_of_ble_eq_true rfl) (fun p e s m args below meth c A ls H locs B hP hD hS hl => ?_)
  obtain ⟨hx, hb, hml, hown, hts, hr, hlk, hnm, hK, hA, hN, hC⟩ := id B
  have hown : s.vm.findClass RX7 = some m.cls := hown
  have hl : lv_has ls 3 [(0, .ref h), (1, .int x1), (2, .int 1)] := hl
  have w_0 : (Cond.fieldLink RX7 66 "WishSeaModel" "wishes" "[I").before args s = true := hts _ (List.mem_of_getElem? (i := 2) rfl)
  have hinX7 : ∀ w ∈ u_ws RX7 TX7 92, w ∈ wsX7_manyOf := fun _ h => List.mem_cons_of_mem _ (List.mem_append_right _ h)
  refine lv_iload_n hx hb dX7_manyOf_0 rfl (lv_at hl 2 rfl) ?_
  refine lv_if_ne (tgt := 13) hx hb dX7_manyOf_1 (by decide) (fun _ => ?_) (fun q9 => absurd q9 (by decide +kernel))
  refine lv_aload_n hx hb dX7_manyOf_13 rfl (lv_at hl 0 rfl) ?_
  refine k_get (D := (dC, dI)) (ci := 7) (v := .ref (r 18)) (C := RX7) (T := TX7) (N := 92) hx hb hts hinX7 hown hK hP 0 rfl rfl 18 (by decide) w_0 rfl rfl dX7_manyOf_14 ?_
  refine lv_iload_n hx hb dX7_manyOf_17 rfl (lv_at hl 1 rfl) ?_
  refine va_iald hx hb hK hP 1 0 rfl rfl (iR_vp hx1 (by decide +kernel)) dX7_manyOf_18 ?_
  have f_18_1 : iR (f18 x1.toNatClampNeg) 0 12 := hf18 _
  exact k_ri B hP hD hS dX7_manyOf_19 () [0, 1] rfl rfl rfl (Nat.le_of_ble_eq_true rfl) (Nat.le_of_ble_eq_true rfl) rfl
set_option maxHeartbeats 8000000 in
set_option maxRecDepth 100000 in
theorem s_X7_nameOf_v1 (l : Launch) (dC : Nat → ClassId) (dI : Nat → Nat → Nat) (cI cJ cZ cM : ClassId) (h : Nat) (r : Nat → Nat) (i : Nat → Int32) (j : Nat → Int64) (x1 : Int32) (x3 : Int32) (g35 : Nat → Int64) (hx1 : iR x1 0 1) (hx3 : iR x3 0 11) (hI : mR i) : k_Ml l yX7_nameOf wsX7_nameOf ({ frames := 1, cells := 0, slots := 0, locals := 40 }) (dC, dI) vwCl (tyy cI cJ cZ cM) [(h, .inr (7, oM r i j)), ((r 35), .inl (cJ, 24, .inr (.inl g35)))] [.ref h, .int x1, .int 1, .int x3] 0 0 (fun (u9 : Unit) => [(h, .inr (7, oM r i j)), ((r 35), .inl (cJ, 24, .inr (.inl g35)))]) (fun (r9 : Int64) (u9 : Unit) => True) := by
  refine fun sz => k_enter (cc := cX7_nameOf) (maxL := 4) (ret := some (.long)) (Qc := fun A => va_Ql (fun (r9 : Int64) (u9 : Unit) => True) (fun u => k_B (dC, dI) vwCl (tyy cI cJ cZ cM) A ((fun (u9 : Unit) => [(h, .inr (7, oM r i j)), ((r 35), .inl (cJ, 24, .inr (.inl g35)))]) u)) A) sz (by decide +kernel) rfl (Nat.le_of_ble_eq_true rfl) (fun p e s m args below meth c A ls H locs B hP hD hS hl => ?_)
  obtain ⟨hx, hb, hml, hown, hts, hr, hlk, hnm, hK, hA, hN, hC⟩ := id B
  have hown : s.vm.findClass RX7 = some m.cls := hown
  have hl : lv_has ls 4 [(0, .ref h), (1, .int x1), (2, .int 1), (3, .int x3)] := hl
  have w_0 : (Cond.fieldLink RX7 118 "WishSeaModel" "wishName" "[J").before args s = true := hts _ (List.mem_of_getElem? (i := 2) rfl)
  have hinX7 : ∀ w ∈ u_ws RX7 TX7 92, w ∈ wsX7_nameOf := fun _ h => List.mem_cons_of_mem _ (List.mem_append_right _ h)
  refine lv_iload_n hx hb dX7_nameOf_0 rfl (lv_at hl 2 rfl) ?_
  refine lv_if_ne (tgt := 18) hx hb dX7_nameOf_1 (by decide) (fun _ => ?_) (fun q9 => absurd q9 (by decide +kernel))
  refine lv_aload_n hx hb dX7_nameOf_18 rfl (lv_at hl 0 rfl) ?_
  refine k_get (D := (dC, dI)) (ci := 7) (v := .ref (r 35)) (C := RX7) (T := TX7) (N := 92) hx hb hts hinX7 hown hK hP 0 rfl rfl 35 (by decide) w_0 rfl rfl dX7_nameOf_19 ?_
  refine lv_bipush (v := 12) hx hb dX7_nameOf_22 (by decide +kernel) ?_
  refine lv_iload_n hx hb dX7_nameOf_24 rfl (lv_at hl 1 rfl) ?_
  refine lv_imul hx hb dX7_nameOf_25 ?_
  refine lv_topi (fun y_25 ey_25 => ?_)
  have f_25_1 : iR y_25 0 12 := iR_mul ey_25 (iR_c (n := 12) (a := 12) (b := 12) (by decide +kernel) (by decide +kernel)) hx1 (by decide +kernel)
  refine lv_iload_n hx hb dX7_nameOf_26 rfl (lv_at hl 3 rfl) ?_
  refine lv_iadd hx hb dX7_nameOf_27 ?_
  refine lv_topi (fun y_27 ey_27 => ?_)
  have f_27_2 : iR y_27 0 23 := iR_add ey_27 f_25_1 hx3 (by decide +kernel)
  refine va_lald hx hb hK hP 1 1 rfl rfl (iR_vp f_27_2 (by decide +kernel)) dX7_nameOf_28 ?_
  exact k_rl B hP hD hS dX7_nameOf_29 () [0, 1] rfl rfl (Nat.le_of_ble_eq_true rfl) (Nat.le_of_ble_eq_true rfl) trivial
set_option maxHeartbeats 8000000 in
set_option maxRecDepth 100000 in
theorem s_X7_manyOf_v2 (l : Launch) (dC : Nat → ClassId) (dI : Nat → Nat → Nat) (cI cJ cZ cM : ClassId) (h : Nat) (r : Nat → Nat) (i : Nat → Int32) (j : Nat → Int64) (x1 : Int32) (f14 : Nat → Int32) (hx1 : iR x1 0 1) (hI : mR i) (hf14 : aR f14 0 10) : k_Mi l yX7_manyOf wsX7_manyOf ({ frames := 1, cells := 0, slots := 0, locals := 40 }) (dC, dI) vwCl (tyy cI cJ cZ cM) [(h, .inr (7, oM r i j)), ((r 14), .inl (cI, 2, .inl f14))] [.ref h, .int x1, .int 0] 0 0 (fun (u9 : Unit) => [(h, .inr (7, oM r i j)), ((r 14), .inl (cI, 2, .inl f14))]) (fun (r9 : Int32) (u9 : Unit) => (r9 = (f14 x1.toNatClampNeg))) := by
  refine fun sz => k_enter (cc := cX7_manyOf) (maxL := 3) (ret := some (.int)) (Qc := fun A => va_Qi (fun (r9 : Int32) (u9 : Unit) => (r9 = (f14 x1.toNatClampNeg))) (fun u => k_B (dC, dI) vwCl (tyy cI cJ cZ cM) A ((fun (u9 : Unit) => [(h, .inr (7, oM r i j)), ((r 14), .inl (cI, 2, .inl f14))]) u)) A) sz (by decide +kernel) rfl (Nat.le_of_ble_eq_true rfl) (fun p e s m args below meth c A ls H locs B hP hD hS hl => ?_)
  obtain ⟨hx, hb, hml, hown, hts, hr, hlk, hnm, hK, hA, hN, hC⟩ := id B
  have hown : s.vm.findClass RX7 = some m.cls := hown
  have hl : lv_has ls 3 [(0, .ref h), (1, .int x1), (2, .int 0)] := hl
  have w_0 : (Cond.fieldLink RX7 54 "WishSeaModel" "things" "[I").before args s = true := hts _ (List.mem_of_getElem? (i := 1) rfl)
  have hinX7 : ∀ w ∈ u_ws RX7 TX7 92, w ∈ wsX7_manyOf := fun _ h => List.mem_cons_of_mem _ (List.mem_append_right _ h)
  refine lv_iload_n hx hb dX7_manyOf_0 rfl (lv_at hl 2 rfl) ?_
  refine lv_if_ne (tgt := 13) hx hb dX7_manyOf_1 (by decide) (fun q9 => absurd q9 (by decide +kernel)) (fun _ => ?_)
  refine lv_aload_n hx hb dX7_manyOf_4 rfl (lv_at hl 0 rfl) ?_
  refine k_get (D := (dC, dI)) (ci := 7) (v := .ref (r 14)) (C := RX7) (T := TX7) (N := 92) hx hb hts hinX7 hown hK hP 0 rfl rfl 14 (by decide) w_0 rfl rfl dX7_manyOf_5 ?_
  refine lv_iload_n hx hb dX7_manyOf_8 rfl (lv_at hl 1 rfl) ?_
  refine va_iald hx hb hK hP 1 0 rfl rfl (iR_vp hx1 (by decide +kernel)) dX7_manyOf_9 ?_
  have f_9_1 : iR (f14 x1.toNatClampNeg) 0 10 := hf14 _
  refine lv_goto (tgt := 19) hx hb dX7_manyOf_10 (by decide) ?_
  exact k_ri B hP hD hS dX7_manyOf_19 () [0, 1] rfl rfl rfl (Nat.le_of_ble_eq_true rfl) (Nat.le_of_ble_eq_true rfl) rfl
set_option maxHeartbeats 8000000 in
set_option maxRecDepth 100000 in
theorem s_X7_nameOf_v2 (l : Launch) (dC : Nat → ClassId) (dI : Nat → Nat → Nat) (cI cJ cZ cM : ClassId) (h : Nat) (r : Nat → Nat) (i : Nat → Int32) (j : Nat → Int64) (x1 : Int32) (x3 : Int32) (g34 : Nat → Int64) (hx1 : iR x1 0 1) (hx3 : iR x3 0 9) (hI : mR i) : k_Ml l yX7_nameOf wsX7_nameOf ({ frames := 1, cells := 0, slots := 0, locals := 40 }) (dC, dI) vwCl (tyy cI cJ cZ cM) [(h, .inr (7, oM r i j)), ((r 34), .inl (cJ, 20, .inr (.inl g34)))] [.ref h, .int x1, .int 0, .int x3] 0 0 (fun (u9 : Unit) => [(h, .inr (7, oM r i j)), ((r 34), .inl (cJ, 20, .inr (.inl g34)))]) (fun (r9 : Int64) (u9 : Unit) => True) := by
  refine fun sz => k_enter (cc := cX7_nameOf) (maxL := 4) (ret := some (.long)) (Qc := fun A => va_Ql (fun (r9 : Int64) (u9 : Unit) => True) (fun u => k_B (dC, dI) vwCl (tyy cI cJ cZ cM) A ((fun (u9 : Unit) => [(h, .inr (7, oM r i j)), ((r 34), .inl (cJ, 20, .inr (.inl g34)))]) u)) A) sz (by decide +kernel) rfl (Nat.le_of_ble_eq_true rfl) (fun p e s m args below meth c A ls H locs B hP hD hS hl => ?_)
  obtain ⟨hx, hb, hml, hown, hts, hr, hlk, hnm, hK, hA, hN, hC⟩ := id B
  have hown : s.vm.findClass RX7 = some m.cls := hown
  have hl : lv_has ls 4 [(0, .ref h), (1, .int x1), (2, .int 0), (3, .int x3)] := hl
  have w_0 : (Cond.fieldLink RX7 114 "WishSeaModel" "thingName" "[J").before args s = true := hts _ (List.mem_of_getElem? (i := 1) rfl)
  have hinX7 : ∀ w ∈ u_ws RX7 TX7 92, w ∈ wsX7_nameOf := fun _ h => List.mem_cons_of_mem _ (List.mem_append_right _ h)
  refine lv_iload_n hx hb dX7_nameOf_0 rfl (lv_at hl 2 rfl) ?_
  refine lv_if_ne (tgt := 18) hx hb dX7_nameOf_1 (by decide) (fun q9 => absurd q9 (by decide +kernel)) (fun _ => ?_)
  refine lv_aload_n hx hb dX7_nameOf_4 rfl (lv_at hl 0 rfl) ?_
  refine k_get (D := (dC, dI)) (ci := 7) (v := .ref (r 34)) (C := RX7) (T := TX7) (N := 92) hx hb hts hinX7 hown hK hP 0 rfl rfl 34 (by decide) w_0 rfl rfl dX7_nameOf_5 ?_
  refine lv_bipush (v := 10) hx hb dX7_nameOf_8 (by decide +kernel) ?_
  refine lv_iload_n hx hb dX7_nameOf_10 rfl (lv_at hl 1 rfl) ?_
  refine lv_imul hx hb dX7_nameOf_11 ?_
  refine lv_topi (fun y_11 ey_11 => ?_)
  have f_11_1 : iR y_11 0 10 := iR_mul ey_11 (iR_c (n := 10) (a := 10) (b := 10) (by decide +kernel) (by decide +kernel)) hx1 (by decide +kernel)
  refine lv_iload_n hx hb dX7_nameOf_12 rfl (lv_at hl 3 rfl) ?_
  refine lv_iadd hx hb dX7_nameOf_13 ?_
  refine lv_topi (fun y_13 ey_13 => ?_)
  have f_13_2 : iR y_13 0 19 := iR_add ey_13 f_11_1 hx3 (by decide +kernel)
  refine va_lald hx hb hK hP 1 1 rfl rfl (iR_vp f_13_2 (by decide +kernel)) dX7_nameOf_14 ?_
  refine lv_goto (tgt := 29) hx hb dX7_nameOf_15 (by decide) ?_
  exact k_rl B hP hD hS dX7_nameOf_29 () [0, 1] rfl rfl (Nat.le_of_ble_eq_true rfl) (Nat.le_of_ble_eq_true rfl) trivial
set_option maxHeartbeats 8000000 in
set_option maxRecDepth 100000 in
theorem s_X7_manyOf_v3 (l : Launch) (dC : Nat → ClassId) (dI : Nat → Nat → Nat) (cI cJ cZ cM : ClassId) (h : Nat) (r : Nat → Nat) (i : Nat → Int32) (j : Nat → Int64) (x1 : Int32) (f18 : Nat → Int32) (hx1 : iR x1 0 1) (hI : mR i) (hf18 : aR f18 0 12) : k_Mi l yX7_manyOf wsX7_manyOf ({ frames := 1, cells := 0, slots := 0, locals := 40 }) (dC, dI) vwCl (tyy cI cJ cZ cM) [(h, .inr (7, oM r i j)), ((r 18), .inl (cI, 2, .inl f18))] [.ref h, .int x1, .int 1] 0 0 (fun (u9 : Unit) => [(h, .inr (7, oM r i j)), ((r 18), .inl (cI, 2, .inl f18))]) (fun (r9 : Int32) (u9 : Unit) => (r9 = (f18 x1.toNatClampNeg))) := by
  refine fun sz => k_enter (cc := cX7_manyOf) (maxL := 3) (ret := some (.int)) (Qc := fun A => va_Qi (fun (r9 : Int32) (u9 : Unit) => (r9 = (f18 x1.toNatClampNeg))) (fun u => k_B (dC, dI) vwCl (tyy cI cJ cZ cM) A ((fun (u9 : Unit) => [(h, .inr (7, oM r i j)), ((r 18), .inl (cI, 2, .inl f18))]) u)) A) sz (by decide +kernel) rfl (Nat.le_of_ble_eq_true rfl) (fun p e s m args below meth c A ls H locs B hP hD hS hl => ?_)
  obtain ⟨hx, hb, hml, hown, hts, hr, hlk, hnm, hK, hA, hN, hC⟩ := id B
  have hown : s.vm.findClass RX7 = some m.cls := hown
  have hl : lv_has ls 3 [(0, .ref h), (1, .int x1), (2, .int 1)] := hl
  have w_0 : (Cond.fieldLink RX7 66 "WishSeaModel" "wishes" "[I").before args s = true := hts _ (List.mem_of_getElem? (i := 2) rfl)
  have hinX7 : ∀ w ∈ u_ws RX7 TX7 92, w ∈ wsX7_manyOf := fun _ h => List.mem_cons_of_mem _ (List.mem_append_right _ h)
  refine lv_iload_n hx hb dX7_manyOf_0 rfl (lv_at hl 2 rfl) ?_
  refine lv_if_ne (tgt := 13) hx hb dX7_manyOf_1 (by decide) (fun _ => ?_) (fun q9 => absurd q9 (by decide +kernel))
  refine lv_aload_n hx hb dX7_manyOf_13 rfl (lv_at hl 0 rfl) ?_
  refine k_get (D := (dC, dI)) (ci := 7) (v := .ref (r 18)) (C := RX7) (T := TX7) (N := 92) hx hb hts hinX7 hown hK hP 0 rfl rfl 18 (by decide) w_0 rfl rfl dX7_manyOf_14 ?_
  refine lv_iload_n hx hb dX7_manyOf_17 rfl (lv_at hl 1 rfl) ?_
  refine va_iald hx hb hK hP 1 0 rfl rfl (iR_vp hx1 (by decide +kernel)) dX7_manyOf_18 ?_
  have f_18_1 : iR (f18 x1.toNatClampNeg) 0 12 := hf18 _
  exact k_ri B hP hD hS dX7_manyOf_19 () [0, 1] rfl rfl rfl (Nat.le_of_ble_eq_true rfl) (Nat.le_of_ble_eq_true rfl) rfl
set_option maxHeartbeats 8000000 in
set_option maxRecDepth 100000 in
theorem s_X7_nameOf_v3 (l : Launch) (dC : Nat → ClassId) (dI : Nat → Nat → Nat) (cI cJ cZ cM : ClassId) (h : Nat) (r : Nat → Nat) (i : Nat → Int32) (j : Nat → Int64) (x1 : Int32) (x3 : Int32) (g35 : Nat → Int64) (hx1 : iR x1 0 1) (hx3 : iR x3 0 11) (hI : mR i) : k_Ml l yX7_nameOf wsX7_nameOf ({ frames := 1, cells := 0, slots := 0, locals := 40 }) (dC, dI) vwCl (tyy cI cJ cZ cM) [(h, .inr (7, oM r i j)), ((r 35), .inl (cJ, 24, .inr (.inl g35)))] [.ref h, .int x1, .int 1, .int x3] 0 0 (fun (u9 : Unit) => [(h, .inr (7, oM r i j)), ((r 35), .inl (cJ, 24, .inr (.inl g35)))]) (fun (r9 : Int64) (u9 : Unit) => True) := by
  refine fun sz => k_enter (cc := cX7_nameOf) (maxL := 4) (ret := some (.long)) (Qc := fun A => va_Ql (fun (r9 : Int64) (u9 : Unit) => True) (fun u => k_B (dC, dI) vwCl (tyy cI cJ cZ cM) A ((fun (u9 : Unit) => [(h, .inr (7, oM r i j)), ((r 35), .inl (cJ, 24, .inr (.inl g35)))]) u)) A) sz (by decide +kernel) rfl (Nat.le_of_ble_eq_true rfl) (fun p e s m args below meth c A ls H locs B hP hD hS hl => ?_)
  obtain ⟨hx, hb, hml, hown, hts, hr, hlk, hnm, hK, hA, hN, hC⟩ := id B
  have hown : s.vm.findClass RX7 = some m.cls := hown
  have hl : lv_has ls 4 [(0, .ref h), (1, .int x1), (2, .int 1), (3, .int x3)] := hl
  have w_0 : (Cond.fieldLink RX7 118 "WishSeaModel" "wishName" "[J").before args s = true := hts _ (List.mem_of_getElem? (i := 2) rfl)
  have hinX7 : ∀ w ∈ u_ws RX7 TX7 92, w ∈ wsX7_nameOf := fun _ h => List.mem_cons_of_mem _ (List.mem_append_right _ h)
  refine lv_iload_n hx hb dX7_nameOf_0 rfl (lv_at hl 2 rfl) ?_
  refine lv_if_ne (tgt := 18) hx hb dX7_nameOf_1 (by decide) (fun _ => ?_) (fun q9 => absurd q9 (by decide +kernel))
  refine lv_aload_n hx hb dX7_nameOf_18 rfl (lv_at hl 0 rfl) ?_
  refine k_get (D := (dC, dI)) (ci := 7) (v := .ref (r 35)) (C := RX7) (T := TX7) (N := 92) hx hb hts hinX7 hown hK hP 0 rfl rfl 35 (by decide) w_0 rfl rfl dX7_nameOf_19 ?_
  refine lv_bipush (v := 12) hx hb dX7_nameOf_22 (by decide +kernel) ?_
  refine lv_iload_n hx hb dX7_nameOf_24 rfl (lv_at hl 1 rfl) ?_
  refine lv_imul hx hb dX7_nameOf_25 ?_
  refine lv_topi (fun y_25 ey_25 => ?_)
  have f_25_1 : iR y_25 0 12 := iR_mul ey_25 (iR_c (n := 12) (a := 12) (b := 12) (by decide +kernel) (by decide +kernel)) hx1 (by decide +kernel)
  refine lv_iload_n hx hb dX7_nameOf_26 rfl (lv_at hl 3 rfl) ?_
  refine lv_iadd hx hb dX7_nameOf_27 ?_
  refine lv_topi (fun y_27 ey_27 => ?_)
  have f_27_2 : iR y_27 0 23 := iR_add ey_27 f_25_1 hx3 (by decide +kernel)
  refine va_lald hx hb hK hP 1 1 rfl rfl (iR_vp f_27_2 (by decide +kernel)) dX7_nameOf_28 ?_
  exact k_rl B hP hD hS dX7_nameOf_29 () [0, 1] rfl rfl (Nat.le_of_ble_eq_true rfl) (Nat.le_of_ble_eq_true rfl) trivial
set_option maxHeartbeats 8000000 in
set_option maxRecDepth 100000 in
theorem s_X7_letter_v0 (l : Launch) (dC : Nat → ClassId) (dI : Nat → Nat → Nat) (cI cJ cZ cM : ClassId) (h : Nat) (r : Nat → Nat) (i : Nat → Int32) (j : Nat → Int64) (x1 : Int32) (x2 : Int32) (x3 : Int32) (f14 : Nat → Int32) (f18 : Nat → Int32) (g34 : Nat → Int64) (g35 : Nat → Int64) (hI : mR i) (hf14 : aR f14 0 10) (hf18 : aR f18 0 12) : k_Mi l yX7_letter wsX7_letter ({ frames := 2, cells := 0, slots := 0, locals := 63 }) (dC, dI) vwCl (tyy cI cJ cZ cM) [(h, .inr (7, oM r i j)), ((r 14), .inl (cI, 2, .inl f14)), ((r 18), .inl (cI, 2, .inl f18)), ((r 34), .inl (cJ, 20, .inr (.inl g34))), ((r 35), .inl (cJ, 24, .inr (.inl g35)))] [.ref h, .int x1, .int x2, .int x3] 0 0 (fun (u9 : Unit) => [(h, .inr (7, oM r i j)), ((r 14), .inl (cI, 2, .inl f14)), ((r 18), .inl (cI, 2, .inl f18)), ((r 34), .inl (cJ, 20, .inr (.inl g34))), ((r 35), .inl (cJ, 24, .inr (.inl g35)))]) (fun (r9 : Int32) (u9 : Unit) => True) := by
  refine fun sz => k_enter (cc := cX7_letter) (maxL := 9) (ret := some (.int)) (Qc := fun A => va_Qi (fun (r9 : Int32) (u9 : Unit) => True) (fun u => k_B (dC, dI) vwCl (tyy cI cJ cZ cM) A ((fun (u9 : Unit) => [(h, .inr (7, oM r i j)), ((r 14), .inl (cI, 2, .inl f14)), ((r 18), .inl (cI, 2, .inl f18)), ((r 34), .inl (cJ, 20, .inr (.inl g34))), ((r 35), .inl (cJ, 24, .inr (.inl g35)))]) u)) A) sz (by decide +kernel) rfl (Nat.le_of_ble_eq_true rfl) (fun p e s m args below meth c A ls H locs B hP hD hS hl => ?_)
  obtain ⟨hx, hb, hml, hown, hts, hr, hlk, hnm, hK, hA, hN, hC⟩ := id B
  have hown : s.vm.findClass RX7 = some m.cls := hown
  have hl : lv_has ls 9 [(0, .ref h), (1, .int x1), (2, .int x2), (3, .int x3)] := hl
  have w_0 : (Cond.fieldLink RX7 51 "WishSeaModel" "bank" "I").before args s = true := hts _ (List.mem_of_getElem? (i := 1) rfl)
  have w_1 : (Cond.constantLong RX7 542 (255)).before args s = true := hts _ (List.mem_of_getElem? (i := 2) rfl)
  have hinX7 : ∀ w ∈ u_ws RX7 TX7 92, w ∈ wsX7_letter := fun _ h => List.mem_cons_of_mem _ (List.mem_append_right _ h)
  refine lv_iload_n hx hb dX7_letter_0 rfl (lv_at hl 1 rfl) ?_
  refine lv_iconst (v := 0) hx hb dX7_letter_1 (by decide +kernel) ?_
  refine lv_iconst (v := 1) hx hb dX7_letter_2 (by decide +kernel) ?_
  refine k_ci (wc := []) (wr := [(h, .inr (7, oM r i j)), ((r 14), .inl (cI, 2, .inl f14)), ((r 18), .inl (cI, 2, .inl f18)), ((r 34), .inl (cJ, 20, .inr (.inl g34))), ((r 35), .inl (cJ, 24, .inr (.inl g35)))]) (fun hPc hDc hFc => va_runS (As := [.int x1, .int 0, .int 1]) (rest := []) ⟨hx, hb, hml, hown, hts⟩ (s_X7_is_v0 l dC dI cI cJ cZ cM x1 0 1 H.size) (va_cwS 3 hts gX7_letter_X7_is rfl rfl rfl (by decide +kernel) ⟨(Nat.le_of_ble_eq_true rfl), (Nat.le_of_ble_eq_true rfl)⟩) (k_pS hPc hDc hK hN hC hS hFc) rfl rfl hl.1 rfl (lv_room (Nat.le_of_ble_eq_true rfl)) dX7_letter_3 ⟨(Nat.le_of_ble_eq_true rfl), (Nat.le_of_ble_eq_true rfl)⟩) hP hD hS hA [] [0, 1, 2, 3, 4] rfl rfl rfl rfl (by decide) (fun _ => rfl) 0 0 rfl rfl (fun r_3 u_3 H locs hw hP hD hS => ?_)
  obtain ⟨g_3_0, g_3_1⟩ := hw
  have hP : va_P (dC, dI) vwCl [(h, .inr (7, oM r i j)), ((r 14), .inl (cI, 2, .inl f14)), ((r 18), .inl (cI, 2, .inl f18)), ((r 34), .inl (cJ, 20, .inr (.inl g34))), ((r 35), .inl (cJ, 24, .inr (.inl g35)))] H := hP
  have hD : va_D A [(h, .inr (7, oM r i j)), ((r 14), .inl (cI, 2, .inl f14)), ((r 18), .inl (cI, 2, .inl f18)), ((r 34), .inl (cJ, 20, .inr (.inl g34))), ((r 35), .inl (cJ, 24, .inr (.inl g35)))] := hD
  have J_37 : ∀   (H : Heap) (locs : List Loc) (ls : Array Slot), va_P (dC, dI) vwCl [(h, .inr (7, oM r i j)), ((r 14), .inl (cI, 2, .inl f14)), ((r 18), .inl (cI, 2, .inl f18)), ((r 34), .inl (cJ, 20, .inr (.inl g34))), ((r 35), .inl (cJ, 24, .inr (.inl g35)))] H → va_D A [(h, .inr (7, oM r i j)), ((r 14), .inl (cI, 2, .inl f14)), ((r 18), .inl (cI, 2, .inl f18)), ((r 34), .inl (cJ, 20, .inr (.inl g34))), ((r 35), .inl (cJ, 24, .inr (.inl g35)))] → va_S A s.heap H locs → lv_has ls 9 [] → W p l e ({ frames := 2, cells := 0, slots := 0, locals := 63 }) s m args below meth c H locs 0 0 (MQ below (va_Qi (fun (r9 : Int32) (u9 : Unit) => True) (fun u => k_B (dC, dI) vwCl (tyy cI cJ cZ cM) A ((fun (u9 : Unit) => [(h, .inr (7, oM r i j)), ((r 14), .inl (cI, 2, .inl f14)), ((r 18), .inl (cI, 2, .inl f18)), ((r 34), .inl (cJ, 20, .inr (.inl g34))), ((r 35), .inl (cJ, 24, .inr (.inl g35)))]) u)) A) args s 0 0 A) (F0 m 37 ls []) := by
    intro   H locs ls hP hD hS hl
    refine lv_iconst (v := (-1)) hx hb dX7_letter_37 (by decide +kernel) ?_
    exact k_ri B hP hD hS dX7_letter_38 () [0, 1, 2, 3, 4] rfl rfl rfl (Nat.le_of_ble_eq_true rfl) (Nat.le_of_ble_eq_true rfl) trivial
  refine lv_if_eq (tgt := 37) hx hb dX7_letter_6 (by decide) (fun c_6 => ?_) (fun c_6 => ?_)
  · have c_6 : r_3 = 0 := c_6
    have f_37_1 : iR r_3 0 0 := iR_eqL c_6 g_3_0 (iR_c (n := 0) (a := 0) (b := 0) (by decide +kernel) (by decide +kernel)) (by decide +kernel)
    exact J_37   H locs ls hP hD hS (lv_sub hl [] rfl)
  · have c_6 : ¬ r_3 = 0 := c_6
    have f_9_1 : iR r_3 1 1 := iR_neL c_6 g_3_0 (iR_c (n := 0) (a := 0) (b := 0) (by decide +kernel) (by decide +kernel)) (by decide +kernel)
    obtain ⟨d_6_1_0, d_6_1_1⟩ := g_3_1.resolve_left c_6
    have f_9_2 : iR x1 0 2147483647 := iR_leR d_6_1_0 (iR_c (n := 0) (a := 0) (b := 0) (by decide +kernel) (by decide +kernel)) (iR_top _) (by decide +kernel)
    have f_9_3 : iR x1 0 1 := iR_leL d_6_1_1 f_9_2 (iR_c (n := 1) (a := 1) (b := 1) (by decide +kernel) (by decide +kernel)) (by decide +kernel)
    rcases (show x1.toInt = 0 ∨ x1.toInt = 1 by have q9 := f_9_3; unfold iR at q9; omega) with c_9 | c_9
    · obtain rfl : x1 = 0 := k_eqL (by decide +kernel) c_9
      refine lv_iload_n hx hb dX7_letter_9 rfl (lv_at hl 2 rfl) ?_
      refine lv_iconst (v := 0) hx hb dX7_letter_10 (by decide +kernel) ?_
      refine lv_aload_n hx hb dX7_letter_11 rfl (lv_at hl 0 rfl) ?_
      refine lv_aload_n hx hb dX7_letter_12 rfl (lv_at hl 0 rfl) ?_
      have f_13v0_4 : iR (i 13) 0 1 := hI 13
      refine k_get (D := (dC, dI)) (ci := 7) (v := .int (i 13)) (C := RX7) (T := TX7) (N := 92) hx hb hts hinX7 hown hK hP 0 rfl rfl 13 (by decide) w_0 rfl rfl dX7_letter_13 ?_
      refine lv_iload_n hx hb dX7_letter_16 rfl (lv_at hl 1 rfl) ?_
      refine k_ci (wc := [(h, .inr (7, oM r i j)), ((r 14), .inl (cI, 2, .inl f14))]) (wr := [((r 18), .inl (cI, 2, .inl f18)), ((r 34), .inl (cJ, 20, .inr (.inl g34))), ((r 35), .inl (cJ, 24, .inr (.inl g35)))]) (fun hPc hDc hFc => va_runV (As := [.int (i 13), .int 0]) (rest := [.int 0, .int x2]) ⟨hx, hb, hml, hown, hts⟩ (s_X7_manyOf_v2 l dC dI cI cJ cZ cM h r i j (i 13) f14 f_13v0_4 hI hf14 H.size) (cwV 2 hts gX7_letter_X7_manyOf rfl rfl rfl (by decide +kernel) ⟨(Nat.le_of_ble_eq_true rfl), (Nat.le_of_ble_eq_true rfl)⟩) (k_pV hPc hDc hK hN hC hS hFc hP (q0 := 0) (ci := 7) rfl rfl) rfl rfl hl.1 rfl (lv_room (Nat.le_of_ble_eq_true rfl)) dX7_letter_17 ⟨(Nat.le_of_ble_eq_true rfl), (Nat.le_of_ble_eq_true rfl)⟩) hP hD hS hA [0, 1] [2, 3, 4] rfl rfl rfl rfl (by decide) (fun _ => rfl) 0 0 rfl rfl (fun r_17v0 u_17v0 H locs hw hP hD hS => ?_)
      have g_17v0_0 := hw
      obtain rfl : r_17v0 = (f14 (i 13).toNatClampNeg) := g_17v0_0
      have hP : va_P (dC, dI) vwCl [((r 18), .inl (cI, 2, .inl f18)), ((r 34), .inl (cJ, 20, .inr (.inl g34))), ((r 35), .inl (cJ, 24, .inr (.inl g35))), (h, .inr (7, oM r i j)), ((r 14), .inl (cI, 2, .inl f14))] H := hP
      have hD : va_D A [((r 18), .inl (cI, 2, .inl f18)), ((r 34), .inl (cJ, 20, .inr (.inl g34))), ((r 35), .inl (cJ, 24, .inr (.inl g35))), (h, .inr (7, oM r i j)), ((r 14), .inl (cI, 2, .inl f14))] := hD
      refine lv_iconst (v := 1) hx hb dX7_letter_20 (by decide +kernel) ?_
      refine lv_isub hx hb dX7_letter_21 ?_
      refine lv_topi (fun y_21v0 ey_21v0 => ?_)
      have f_21v0_5 : iR y_21v0 (-1) 9 := iR_sub ey_21v0 (show iR (f14 (i 13).toNatClampNeg) 0 10 from hf14 _) (iR_c (n := 1) (a := 1) (b := 1) (by decide +kernel) (by decide +kernel)) (by decide +kernel)
      refine k_ci (wc := []) (wr := [((r 18), .inl (cI, 2, .inl f18)), ((r 34), .inl (cJ, 20, .inr (.inl g34))), ((r 35), .inl (cJ, 24, .inr (.inl g35))), (h, .inr (7, oM r i j)), ((r 14), .inl (cI, 2, .inl f14))]) (fun hPc hDc hFc => va_runS (As := [.int x2, .int 0, .int y_21v0]) (rest := []) ⟨hx, hb, hml, hown, hts⟩ (s_X7_is_v0 l dC dI cI cJ cZ cM x2 0 y_21v0 H.size) (va_cwS 3 hts gX7_letter_X7_is rfl rfl rfl (by decide +kernel) ⟨(Nat.le_of_ble_eq_true rfl), (Nat.le_of_ble_eq_true rfl)⟩) (k_pS hPc hDc hK hN hC hS hFc) rfl rfl hl.1 rfl (lv_room (Nat.le_of_ble_eq_true rfl)) dX7_letter_22 ⟨(Nat.le_of_ble_eq_true rfl), (Nat.le_of_ble_eq_true rfl)⟩) hP hD hS hA [] [0, 1, 2, 3, 4] rfl rfl rfl rfl (by decide) (fun _ => rfl) 0 0 rfl rfl (fun r_22v0 u_22v0 H locs hw hP hD hS => ?_)
      obtain ⟨g_22v0_0, g_22v0_1⟩ := hw
      have hP : va_P (dC, dI) vwCl [((r 18), .inl (cI, 2, .inl f18)), ((r 34), .inl (cJ, 20, .inr (.inl g34))), ((r 35), .inl (cJ, 24, .inr (.inl g35))), (h, .inr (7, oM r i j)), ((r 14), .inl (cI, 2, .inl f14))] H := hP
      have hD : va_D A [((r 18), .inl (cI, 2, .inl f18)), ((r 34), .inl (cJ, 20, .inr (.inl g34))), ((r 35), .inl (cJ, 24, .inr (.inl g35))), (h, .inr (7, oM r i j)), ((r 14), .inl (cI, 2, .inl f14))] := hD
      refine lv_if_eq (tgt := 37) hx hb dX7_letter_25 (by decide) (fun c_25v0 => ?_) (fun c_25v0 => ?_)
      · have c_25v0 : r_22v0 = 0 := c_25v0
        have f_37v0_6 : iR r_22v0 0 0 := iR_eqL c_25v0 g_22v0_0 (iR_c (n := 0) (a := 0) (b := 0) (by decide +kernel) (by decide +kernel)) (by decide +kernel)
        exact J_37   H locs ls (hP.sub [3, 4, 0, 1, 2] rfl) (hD.sub [3, 4, 0, 1, 2] (by decide +kernel) rfl) hS (lv_sub hl [] rfl)
      · have c_25v0 : ¬ r_22v0 = 0 := c_25v0
        have f_28v0_6 : iR r_22v0 1 1 := iR_neL c_25v0 g_22v0_0 (iR_c (n := 0) (a := 0) (b := 0) (by decide +kernel) (by decide +kernel)) (by decide +kernel)
        obtain ⟨d_25v0_2_0, d_25v0_2_1⟩ := g_22v0_1.resolve_left c_25v0
        have f_28v0_7 : iR x2 0 2147483647 := iR_leR d_25v0_2_0 (iR_c (n := 0) (a := 0) (b := 0) (by decide +kernel) (by decide +kernel)) (iR_top _) (by decide +kernel)
        have f_28v0_8 : iR x2 0 9 := iR_leL d_25v0_2_1 f_28v0_7 f_21v0_5 (by decide +kernel)
        have f_28v0_9 : iR y_21v0 0 9 := iR_leR d_25v0_2_1 f_28v0_7 f_21v0_5 (by decide +kernel)
        refine lv_iload_n hx hb dX7_letter_28 rfl (lv_at hl 3 rfl) ?_
        refine lv_iconst (v := 0) hx hb dX7_letter_29 (by decide +kernel) ?_
        refine lv_iconst (v := 5) hx hb dX7_letter_30 (by decide +kernel) ?_
        refine k_ci (wc := []) (wr := [((r 18), .inl (cI, 2, .inl f18)), ((r 34), .inl (cJ, 20, .inr (.inl g34))), ((r 35), .inl (cJ, 24, .inr (.inl g35))), (h, .inr (7, oM r i j)), ((r 14), .inl (cI, 2, .inl f14))]) (fun hPc hDc hFc => va_runS (As := [.int x3, .int 0, .int 5]) (rest := []) ⟨hx, hb, hml, hown, hts⟩ (s_X7_is_v0 l dC dI cI cJ cZ cM x3 0 5 H.size) (va_cwS 3 hts gX7_letter_X7_is rfl rfl rfl (by decide +kernel) ⟨(Nat.le_of_ble_eq_true rfl), (Nat.le_of_ble_eq_true rfl)⟩) (k_pS hPc hDc hK hN hC hS hFc) rfl rfl hl.1 rfl (lv_room (Nat.le_of_ble_eq_true rfl)) dX7_letter_31 ⟨(Nat.le_of_ble_eq_true rfl), (Nat.le_of_ble_eq_true rfl)⟩) hP hD hS hA [] [0, 1, 2, 3, 4] rfl rfl rfl rfl (by decide) (fun _ => rfl) 0 0 rfl rfl (fun r_31v0 u_31v0 H locs hw hP hD hS => ?_)
        obtain ⟨g_31v0_0, g_31v0_1⟩ := hw
        have hP : va_P (dC, dI) vwCl [((r 18), .inl (cI, 2, .inl f18)), ((r 34), .inl (cJ, 20, .inr (.inl g34))), ((r 35), .inl (cJ, 24, .inr (.inl g35))), (h, .inr (7, oM r i j)), ((r 14), .inl (cI, 2, .inl f14))] H := hP
        have hD : va_D A [((r 18), .inl (cI, 2, .inl f18)), ((r 34), .inl (cJ, 20, .inr (.inl g34))), ((r 35), .inl (cJ, 24, .inr (.inl g35))), (h, .inr (7, oM r i j)), ((r 14), .inl (cI, 2, .inl f14))] := hD
        refine lv_if_ne (tgt := 39) hx hb dX7_letter_34 (by decide) (fun c_34v0 => ?_) (fun c_34v0 => ?_)
        · have c_34v0 : ¬ r_31v0 = 0 := c_34v0
          have f_39v0_10 : iR r_31v0 1 1 := iR_neL c_34v0 g_31v0_0 (iR_c (n := 0) (a := 0) (b := 0) (by decide +kernel) (by decide +kernel)) (by decide +kernel)
          obtain ⟨d_34v0_3_0, d_34v0_3_1⟩ := g_31v0_1.resolve_left c_34v0
          have f_39v0_11 : iR x3 0 2147483647 := iR_leR d_34v0_3_0 (iR_c (n := 0) (a := 0) (b := 0) (by decide +kernel) (by decide +kernel)) (iR_top _) (by decide +kernel)
          have f_39v0_12 : iR x3 0 5 := iR_leL d_34v0_3_1 f_39v0_11 (iR_c (n := 5) (a := 5) (b := 5) (by decide +kernel) (by decide +kernel)) (by decide +kernel)
          refine lv_aload_n hx hb dX7_letter_39 rfl (lv_at hl 0 rfl) ?_
          refine lv_aload_n hx hb dX7_letter_40 rfl (lv_at hl 0 rfl) ?_
          refine k_get (D := (dC, dI)) (ci := 7) (v := .int (i 13)) (C := RX7) (T := TX7) (N := 92) hx hb hts hinX7 hown hK hP 3 rfl rfl 13 (by decide) w_0 rfl rfl dX7_letter_41 ?_
          refine lv_iload_n hx hb dX7_letter_44 rfl (lv_at hl 1 rfl) ?_
          refine lv_iload_n hx hb dX7_letter_45 rfl (lv_at hl 2 rfl) ?_
          refine k_cl (wc := [(h, .inr (7, oM r i j)), ((r 34), .inl (cJ, 20, .inr (.inl g34)))]) (wr := [((r 18), .inl (cI, 2, .inl f18)), ((r 35), .inl (cJ, 24, .inr (.inl g35))), ((r 14), .inl (cI, 2, .inl f14))]) (fun hPc hDc hFc => va_runV (As := [.int (i 13), .int 0, .int x2]) (rest := []) ⟨hx, hb, hml, hown, hts⟩ (s_X7_nameOf_v2 l dC dI cI cJ cZ cM h r i j (i 13) x2 g34 f_13v0_4 f_28v0_8 hI H.size) (cwV 3 hts gX7_letter_X7_nameOf rfl rfl rfl (by decide +kernel) ⟨(Nat.le_of_ble_eq_true rfl), (Nat.le_of_ble_eq_true rfl)⟩) (k_pV hPc hDc hK hN hC hS hFc hP (q0 := 3) (ci := 7) rfl rfl) rfl rfl hl.1 rfl (lv_room (Nat.le_of_ble_eq_true rfl)) dX7_letter_46 ⟨(Nat.le_of_ble_eq_true rfl), (Nat.le_of_ble_eq_true rfl)⟩) hP hD hS hA [3, 1] [0, 2, 4] rfl rfl rfl rfl (by decide) (fun _ => rfl) 0 0 rfl rfl (fun r_46v0 u_46v0 H locs hw hP hD hS => ?_)
          have hP : va_P (dC, dI) vwCl [((r 18), .inl (cI, 2, .inl f18)), ((r 35), .inl (cJ, 24, .inr (.inl g35))), ((r 14), .inl (cI, 2, .inl f14)), (h, .inr (7, oM r i j)), ((r 34), .inl (cJ, 20, .inr (.inl g34)))] H := hP
          have hD : va_D A [((r 18), .inl (cI, 2, .inl f18)), ((r 35), .inl (cJ, 24, .inr (.inl g35))), ((r 14), .inl (cI, 2, .inl f14)), (h, .inr (7, oM r i j)), ((r 34), .inl (cJ, 20, .inr (.inl g34)))] := hD
          refine lv_lstore (lv' := [(4, .long r_46v0), (0, .ref h), (1, .int 0), (2, .int x2), (3, .int x3)]) hx hb dX7_letter_49 hl (by decide) rfl (fun ls hl => ?_)
          refine lv_iconst (v := 0) hx hb dX7_letter_51 (by decide +kernel) ?_
          refine lv_istore (lv' := [(6, .int 0), (4, .long r_46v0), (0, .ref h), (1, .int 0), (2, .int x2), (3, .int x3)]) hx hb dX7_letter_52 hl (by decide) rfl (fun ls hl => ?_)
          refine lv_lload hx hb dX7_letter_54 (lv_at hl 1 rfl) ?_
          have J_58v0 : ∀ (n_58v0 : Nat) (j58v0_L6 : Int32) (j58v0_L7 : Int64)  (hm_58v0 : j58v0_L7.toInt.toNat < n_58v0) (H : Heap) (locs : List Loc) (ls : Array Slot), va_P (dC, dI) vwCl [(h, .inr (7, oM r i j)), ((r 14), .inl (cI, 2, .inl f14)), ((r 18), .inl (cI, 2, .inl f18)), ((r 34), .inl (cJ, 20, .inr (.inl g34))), ((r 35), .inl (cJ, 24, .inr (.inl g35)))] H → va_D A [(h, .inr (7, oM r i j)), ((r 14), .inl (cI, 2, .inl f14)), ((r 18), .inl (cI, 2, .inl f18)), ((r 34), .inl (cJ, 20, .inr (.inl g34))), ((r 35), .inl (cJ, 24, .inr (.inl g35)))] → va_S A s.heap H locs → lv_has ls 9 [(3, .int x3), (4, .long r_46v0), (6, .int j58v0_L6), (7, .long j58v0_L7)] → W p l e ({ frames := 2, cells := 0, slots := 0, locals := 63 }) s m args below meth c H locs 0 0 (MQ below (va_Qi (fun (r9 : Int32) (u9 : Unit) => True) (fun u => k_B (dC, dI) vwCl (tyy cI cJ cZ cM) A ((fun (u9 : Unit) => [(h, .inr (7, oM r i j)), ((r 14), .inl (cI, 2, .inl f14)), ((r 18), .inl (cI, 2, .inl f18)), ((r 34), .inl (cJ, 20, .inr (.inl g34))), ((r 35), .inl (cJ, 24, .inr (.inl g35)))]) u)) A) args s 0 0 A) (F0 m 58 ls []) := by
            intro n_58v0
            induction n_58v0 with
            | zero => intro j58v0_L6 j58v0_L7  hm_58v0; exact absurd hm_58v0 (Nat.not_lt_zero _)
            | succ n_58v0 ih_58v0 =>
              intro j58v0_L6 j58v0_L7  hm_58v0 H locs ls hP hD hS hl
              refine lv_lload hx hb dX7_letter_58 (lv_at hl 3 rfl) ?_
              refine lv_lconst (v := 0) hx hb dX7_letter_60 (by decide +kernel) ?_
              refine W.lcmp hx hb dX7_letter_61 ?_
              refine lv_topi (fun y_61v0 ey_61v0 => ?_)
              refine lv_if_le (tgt := 78) hx hb dX7_letter_62 (by decide) (fun c_62v0 => ?_) (fun c_62v0 => ?_)
              · have c_62v0 : y_61v0 ≤ 0 := c_62v0
                have f_78v0_1 : iR y_61v0 (-2147483648) 0 := iR_leL c_62v0 (iR_top _) (iR_c (n := 0) (a := 0) (b := 0) (by decide +kernel) (by decide +kernel)) (by decide +kernel)
                have lc_62v0 : j58v0_L7 ≤ 0 := l_cmple ey_61v0 c_62v0
                refine lv_iload_n hx hb dX7_letter_78 rfl (lv_at hl 0 rfl) ?_
                refine lv_iload hx hb dX7_letter_79 (lv_at hl 2 rfl) ?_
                refine lv_icmp_lt (tgt := 88) hx hb dX7_letter_81 (by decide) (fun c_81v0 => ?_) (fun c_81v0 => ?_)
                · have c_81v0 : x3 < j58v0_L6 := c_81v0
                  have f_88v0_2 : iR j58v0_L6 1 2147483647 := iR_ltR c_81v0 f_39v0_12 (iR_top _) (by decide +kernel)
                  refine lv_lload hx hb dX7_letter_88 (lv_at hl 1 rfl) ?_
                  refine lv_bipush (v := 8) hx hb dX7_letter_90 (by decide +kernel) ?_
                  refine lv_iload hx hb dX7_letter_92 (lv_at hl 2 rfl) ?_
                  refine lv_iconst (v := 1) hx hb dX7_letter_94 (by decide +kernel) ?_
                  refine lv_isub hx hb dX7_letter_95 ?_
                  refine lv_topi (fun y_95v0 ey_95v0 => ?_)
                  have f_95v0_3 : iR y_95v0 0 2147483646 := iR_sub ey_95v0 f_88v0_2 (iR_c (n := 1) (a := 1) (b := 1) (by decide +kernel) (by decide +kernel)) (by decide +kernel)
                  refine lv_iload_n hx hb dX7_letter_96 rfl (lv_at hl 0 rfl) ?_
                  refine lv_isub hx hb dX7_letter_97 ?_
                  refine lv_topi (fun y_97v0 ey_97v0 => ?_)
                  have f_97v0_4 : iR y_97v0 (-5) 2147483646 := iR_sub ey_97v0 f_95v0_3 f_39v0_12 (by decide +kernel)
                  refine lv_imul hx hb dX7_letter_98 ?_
                  refine lv_topi (fun y_98v0 ey_98v0 => ?_)
                  refine lv_lshr (v := r_46v0 >>> (y_98v0.toInt64 &&& 63)) hx hb dX7_letter_99 rfl ?_
                  refine lv_topl (fun y_99v0 ey_99v0 => ?_)
                  refine lv_ldc2 (v := 255) hx hb hown w_1 dX7_letter_100 ?_
                  refine lv_land hx hb dX7_letter_103 ?_
                  refine lv_topl (fun y_103v0 ey_103v0 => ?_)
                  refine lv_l2i (v := y_103v0.toInt32) hx hb dX7_letter_104 rfl ?_
                  refine lv_topi (fun y_104v0 ey_104v0 => ?_)
                  refine lv_bipush (v := 97) hx hb dX7_letter_105 (by decide +kernel) ?_
                  refine lv_isub hx hb dX7_letter_107 ?_
                  refine lv_topi (fun y_107v0 ey_107v0 => ?_)
                  refine lv_iconst (v := 1) hx hb dX7_letter_108 (by decide +kernel) ?_
                  refine lv_iadd hx hb dX7_letter_109 ?_
                  refine lv_topi (fun y_109v0 ey_109v0 => ?_)
                  exact k_ri B hP hD hS dX7_letter_110 () [0, 1, 2, 3, 4] rfl rfl rfl (Nat.le_of_ble_eq_true rfl) (Nat.le_of_ble_eq_true rfl) trivial
                · have c_81v0 : j58v0_L6 ≤ x3 := i_nlt c_81v0
                  have f_84v0_2 : iR j58v0_L6 (-2147483648) 5 := iR_leL c_81v0 (iR_top _) f_39v0_12 (by decide +kernel)
                  refine lv_iconst (v := 0) hx hb dX7_letter_84 (by decide +kernel) ?_
                  refine lv_goto (tgt := 110) hx hb dX7_letter_85 (by decide) ?_
                  exact k_ri B hP hD hS dX7_letter_110 () [0, 1, 2, 3, 4] rfl rfl rfl (Nat.le_of_ble_eq_true rfl) (Nat.le_of_ble_eq_true rfl) trivial
              · have c_62v0 : 0 < y_61v0 := i_nle c_62v0
                have f_65v0_1 : iR y_61v0 1 2147483647 := iR_ltR c_62v0 (iR_c (n := 0) (a := 0) (b := 0) (by decide +kernel) (by decide +kernel)) (iR_top _) (by decide +kernel)
                have lc_62v0 : 0 < j58v0_L7 := l_cmpgt ey_61v0 c_62v0
                obtain ⟨y_65v0, ey_65v0⟩ : ∃ y : Int32, y = j58v0_L6 + 1 := ⟨_, rfl⟩
                refine lv_iinc (v := y_65v0) (lv' := [(6, .int y_65v0), (3, .int x3), (4, .long r_46v0), (7, .long j58v0_L7)]) hx hb dX7_letter_65 hl (k := 2) rfl ey_65v0.symm (by decide) rfl (fun ls hl => ?_)
                refine lv_lload hx hb dX7_letter_68 (lv_at hl 3 rfl) ?_
                refine lv_bipush (v := 8) hx hb dX7_letter_70 (by decide +kernel) ?_
                refine lv_lshr (v := j58v0_L7 >>> ((8 : Int32).toInt64 &&& 63)) hx hb dX7_letter_72 rfl ?_
                refine lv_topl (fun y_72v0 ey_72v0 => ?_)
                refine lv_lstore (lv' := [(7, .long y_72v0), (6, .int y_65v0), (3, .int x3), (4, .long r_46v0)]) hx hb dX7_letter_73 hl (by decide) rfl (fun ls hl => ?_)
                refine lv_goto (tgt := 58) hx hb dX7_letter_75 (by decide) ?_
                exact ih_58v0 y_65v0 y_72v0  (m_shr8 hm_58v0 ey_72v0 lc_62v0) H locs ls hP hD hS (lv_sub hl [2, 3, 1, 0] rfl)
          refine lv_lstore (lv' := [(7, .long r_46v0), (6, .int 0), (4, .long r_46v0), (0, .ref h), (1, .int 0), (2, .int x2), (3, .int x3)]) hx hb dX7_letter_56 hl (by decide) rfl (fun ls hl => ?_)
          exact J_58v0 _ 0 r_46v0  (Nat.lt_succ_self _) H locs ls (hP.sub [3, 2, 0, 4, 1] rfl) (hD.sub [3, 2, 0, 4, 1] (by decide +kernel) rfl) hS (lv_sub hl [6, 2, 1, 0] rfl)
        · have c_34v0 : r_31v0 = 0 := c_34v0
          have f_37v0_10 : iR r_31v0 0 0 := iR_eqL c_34v0 g_31v0_0 (iR_c (n := 0) (a := 0) (b := 0) (by decide +kernel) (by decide +kernel)) (by decide +kernel)
          exact J_37   H locs ls (hP.sub [3, 4, 0, 1, 2] rfl) (hD.sub [3, 4, 0, 1, 2] (by decide +kernel) rfl) hS (lv_sub hl [] rfl)
    · obtain rfl : x1 = 1 := k_eqL (by decide +kernel) c_9
      refine lv_iload_n hx hb dX7_letter_9 rfl (lv_at hl 2 rfl) ?_
      refine lv_iconst (v := 0) hx hb dX7_letter_10 (by decide +kernel) ?_
      refine lv_aload_n hx hb dX7_letter_11 rfl (lv_at hl 0 rfl) ?_
      refine lv_aload_n hx hb dX7_letter_12 rfl (lv_at hl 0 rfl) ?_
      have f_13v1_4 : iR (i 13) 0 1 := hI 13
      refine k_get (D := (dC, dI)) (ci := 7) (v := .int (i 13)) (C := RX7) (T := TX7) (N := 92) hx hb hts hinX7 hown hK hP 0 rfl rfl 13 (by decide) w_0 rfl rfl dX7_letter_13 ?_
      refine lv_iload_n hx hb dX7_letter_16 rfl (lv_at hl 1 rfl) ?_
      refine k_ci (wc := [(h, .inr (7, oM r i j)), ((r 18), .inl (cI, 2, .inl f18))]) (wr := [((r 14), .inl (cI, 2, .inl f14)), ((r 34), .inl (cJ, 20, .inr (.inl g34))), ((r 35), .inl (cJ, 24, .inr (.inl g35)))]) (fun hPc hDc hFc => va_runV (As := [.int (i 13), .int 1]) (rest := [.int 0, .int x2]) ⟨hx, hb, hml, hown, hts⟩ (s_X7_manyOf_v3 l dC dI cI cJ cZ cM h r i j (i 13) f18 f_13v1_4 hI hf18 H.size) (cwV 2 hts gX7_letter_X7_manyOf rfl rfl rfl (by decide +kernel) ⟨(Nat.le_of_ble_eq_true rfl), (Nat.le_of_ble_eq_true rfl)⟩) (k_pV hPc hDc hK hN hC hS hFc hP (q0 := 0) (ci := 7) rfl rfl) rfl rfl hl.1 rfl (lv_room (Nat.le_of_ble_eq_true rfl)) dX7_letter_17 ⟨(Nat.le_of_ble_eq_true rfl), (Nat.le_of_ble_eq_true rfl)⟩) hP hD hS hA [0, 2] [1, 3, 4] rfl rfl rfl rfl (by decide) (fun _ => rfl) 0 0 rfl rfl (fun r_17v1 u_17v1 H locs hw hP hD hS => ?_)
      have g_17v1_0 := hw
      obtain rfl : r_17v1 = (f18 (i 13).toNatClampNeg) := g_17v1_0
      have hP : va_P (dC, dI) vwCl [((r 14), .inl (cI, 2, .inl f14)), ((r 34), .inl (cJ, 20, .inr (.inl g34))), ((r 35), .inl (cJ, 24, .inr (.inl g35))), (h, .inr (7, oM r i j)), ((r 18), .inl (cI, 2, .inl f18))] H := hP
      have hD : va_D A [((r 14), .inl (cI, 2, .inl f14)), ((r 34), .inl (cJ, 20, .inr (.inl g34))), ((r 35), .inl (cJ, 24, .inr (.inl g35))), (h, .inr (7, oM r i j)), ((r 18), .inl (cI, 2, .inl f18))] := hD
      refine lv_iconst (v := 1) hx hb dX7_letter_20 (by decide +kernel) ?_
      refine lv_isub hx hb dX7_letter_21 ?_
      refine lv_topi (fun y_21v1 ey_21v1 => ?_)
      have f_21v1_5 : iR y_21v1 (-1) 11 := iR_sub ey_21v1 (show iR (f18 (i 13).toNatClampNeg) 0 12 from hf18 _) (iR_c (n := 1) (a := 1) (b := 1) (by decide +kernel) (by decide +kernel)) (by decide +kernel)
      refine k_ci (wc := []) (wr := [((r 14), .inl (cI, 2, .inl f14)), ((r 34), .inl (cJ, 20, .inr (.inl g34))), ((r 35), .inl (cJ, 24, .inr (.inl g35))), (h, .inr (7, oM r i j)), ((r 18), .inl (cI, 2, .inl f18))]) (fun hPc hDc hFc => va_runS (As := [.int x2, .int 0, .int y_21v1]) (rest := []) ⟨hx, hb, hml, hown, hts⟩ (s_X7_is_v0 l dC dI cI cJ cZ cM x2 0 y_21v1 H.size) (va_cwS 3 hts gX7_letter_X7_is rfl rfl rfl (by decide +kernel) ⟨(Nat.le_of_ble_eq_true rfl), (Nat.le_of_ble_eq_true rfl)⟩) (k_pS hPc hDc hK hN hC hS hFc) rfl rfl hl.1 rfl (lv_room (Nat.le_of_ble_eq_true rfl)) dX7_letter_22 ⟨(Nat.le_of_ble_eq_true rfl), (Nat.le_of_ble_eq_true rfl)⟩) hP hD hS hA [] [0, 1, 2, 3, 4] rfl rfl rfl rfl (by decide) (fun _ => rfl) 0 0 rfl rfl (fun r_22v1 u_22v1 H locs hw hP hD hS => ?_)
      obtain ⟨g_22v1_0, g_22v1_1⟩ := hw
      have hP : va_P (dC, dI) vwCl [((r 14), .inl (cI, 2, .inl f14)), ((r 34), .inl (cJ, 20, .inr (.inl g34))), ((r 35), .inl (cJ, 24, .inr (.inl g35))), (h, .inr (7, oM r i j)), ((r 18), .inl (cI, 2, .inl f18))] H := hP
      have hD : va_D A [((r 14), .inl (cI, 2, .inl f14)), ((r 34), .inl (cJ, 20, .inr (.inl g34))), ((r 35), .inl (cJ, 24, .inr (.inl g35))), (h, .inr (7, oM r i j)), ((r 18), .inl (cI, 2, .inl f18))] := hD
      refine lv_if_eq (tgt := 37) hx hb dX7_letter_25 (by decide) (fun c_25v1 => ?_) (fun c_25v1 => ?_)
      · have c_25v1 : r_22v1 = 0 := c_25v1
        have f_37v1_6 : iR r_22v1 0 0 := iR_eqL c_25v1 g_22v1_0 (iR_c (n := 0) (a := 0) (b := 0) (by decide +kernel) (by decide +kernel)) (by decide +kernel)
        exact J_37   H locs ls (hP.sub [3, 0, 4, 1, 2] rfl) (hD.sub [3, 0, 4, 1, 2] (by decide +kernel) rfl) hS (lv_sub hl [] rfl)
      · have c_25v1 : ¬ r_22v1 = 0 := c_25v1
        have f_28v1_6 : iR r_22v1 1 1 := iR_neL c_25v1 g_22v1_0 (iR_c (n := 0) (a := 0) (b := 0) (by decide +kernel) (by decide +kernel)) (by decide +kernel)
        obtain ⟨d_25v1_2_0, d_25v1_2_1⟩ := g_22v1_1.resolve_left c_25v1
        have f_28v1_7 : iR x2 0 2147483647 := iR_leR d_25v1_2_0 (iR_c (n := 0) (a := 0) (b := 0) (by decide +kernel) (by decide +kernel)) (iR_top _) (by decide +kernel)
        have f_28v1_8 : iR x2 0 11 := iR_leL d_25v1_2_1 f_28v1_7 f_21v1_5 (by decide +kernel)
        have f_28v1_9 : iR y_21v1 0 11 := iR_leR d_25v1_2_1 f_28v1_7 f_21v1_5 (by decide +kernel)
        refine lv_iload_n hx hb dX7_letter_28 rfl (lv_at hl 3 rfl) ?_
        refine lv_iconst (v := 0) hx hb dX7_letter_29 (by decide +kernel) ?_
        refine lv_iconst (v := 5) hx hb dX7_letter_30 (by decide +kernel) ?_
        refine k_ci (wc := []) (wr := [((r 14), .inl (cI, 2, .inl f14)), ((r 34), .inl (cJ, 20, .inr (.inl g34))), ((r 35), .inl (cJ, 24, .inr (.inl g35))), (h, .inr (7, oM r i j)), ((r 18), .inl (cI, 2, .inl f18))]) (fun hPc hDc hFc => va_runS (As := [.int x3, .int 0, .int 5]) (rest := []) ⟨hx, hb, hml, hown, hts⟩ (s_X7_is_v0 l dC dI cI cJ cZ cM x3 0 5 H.size) (va_cwS 3 hts gX7_letter_X7_is rfl rfl rfl (by decide +kernel) ⟨(Nat.le_of_ble_eq_true rfl), (Nat.le_of_ble_eq_true rfl)⟩) (k_pS hPc hDc hK hN hC hS hFc) rfl rfl hl.1 rfl (lv_room (Nat.le_of_ble_eq_true rfl)) dX7_letter_31 ⟨(Nat.le_of_ble_eq_true rfl), (Nat.le_of_ble_eq_true rfl)⟩) hP hD hS hA [] [0, 1, 2, 3, 4] rfl rfl rfl rfl (by decide) (fun _ => rfl) 0 0 rfl rfl (fun r_31v1 u_31v1 H locs hw hP hD hS => ?_)
        obtain ⟨g_31v1_0, g_31v1_1⟩ := hw
        have hP : va_P (dC, dI) vwCl [((r 14), .inl (cI, 2, .inl f14)), ((r 34), .inl (cJ, 20, .inr (.inl g34))), ((r 35), .inl (cJ, 24, .inr (.inl g35))), (h, .inr (7, oM r i j)), ((r 18), .inl (cI, 2, .inl f18))] H := hP
        have hD : va_D A [((r 14), .inl (cI, 2, .inl f14)), ((r 34), .inl (cJ, 20, .inr (.inl g34))), ((r 35), .inl (cJ, 24, .inr (.inl g35))), (h, .inr (7, oM r i j)), ((r 18), .inl (cI, 2, .inl f18))] := hD
        refine lv_if_ne (tgt := 39) hx hb dX7_letter_34 (by decide) (fun c_34v1 => ?_) (fun c_34v1 => ?_)
        · have c_34v1 : ¬ r_31v1 = 0 := c_34v1
          have f_39v1_10 : iR r_31v1 1 1 := iR_neL c_34v1 g_31v1_0 (iR_c (n := 0) (a := 0) (b := 0) (by decide +kernel) (by decide +kernel)) (by decide +kernel)
          obtain ⟨d_34v1_3_0, d_34v1_3_1⟩ := g_31v1_1.resolve_left c_34v1
          have f_39v1_11 : iR x3 0 2147483647 := iR_leR d_34v1_3_0 (iR_c (n := 0) (a := 0) (b := 0) (by decide +kernel) (by decide +kernel)) (iR_top _) (by decide +kernel)
          have f_39v1_12 : iR x3 0 5 := iR_leL d_34v1_3_1 f_39v1_11 (iR_c (n := 5) (a := 5) (b := 5) (by decide +kernel) (by decide +kernel)) (by decide +kernel)
          refine lv_aload_n hx hb dX7_letter_39 rfl (lv_at hl 0 rfl) ?_
          refine lv_aload_n hx hb dX7_letter_40 rfl (lv_at hl 0 rfl) ?_
          refine k_get (D := (dC, dI)) (ci := 7) (v := .int (i 13)) (C := RX7) (T := TX7) (N := 92) hx hb hts hinX7 hown hK hP 3 rfl rfl 13 (by decide) w_0 rfl rfl dX7_letter_41 ?_
          refine lv_iload_n hx hb dX7_letter_44 rfl (lv_at hl 1 rfl) ?_
          refine lv_iload_n hx hb dX7_letter_45 rfl (lv_at hl 2 rfl) ?_
          refine k_cl (wc := [(h, .inr (7, oM r i j)), ((r 35), .inl (cJ, 24, .inr (.inl g35)))]) (wr := [((r 14), .inl (cI, 2, .inl f14)), ((r 34), .inl (cJ, 20, .inr (.inl g34))), ((r 18), .inl (cI, 2, .inl f18))]) (fun hPc hDc hFc => va_runV (As := [.int (i 13), .int 1, .int x2]) (rest := []) ⟨hx, hb, hml, hown, hts⟩ (s_X7_nameOf_v3 l dC dI cI cJ cZ cM h r i j (i 13) x2 g35 f_13v1_4 f_28v1_8 hI H.size) (cwV 3 hts gX7_letter_X7_nameOf rfl rfl rfl (by decide +kernel) ⟨(Nat.le_of_ble_eq_true rfl), (Nat.le_of_ble_eq_true rfl)⟩) (k_pV hPc hDc hK hN hC hS hFc hP (q0 := 3) (ci := 7) rfl rfl) rfl rfl hl.1 rfl (lv_room (Nat.le_of_ble_eq_true rfl)) dX7_letter_46 ⟨(Nat.le_of_ble_eq_true rfl), (Nat.le_of_ble_eq_true rfl)⟩) hP hD hS hA [3, 2] [0, 1, 4] rfl rfl rfl rfl (by decide) (fun _ => rfl) 0 0 rfl rfl (fun r_46v1 u_46v1 H locs hw hP hD hS => ?_)
          have hP : va_P (dC, dI) vwCl [((r 14), .inl (cI, 2, .inl f14)), ((r 34), .inl (cJ, 20, .inr (.inl g34))), ((r 18), .inl (cI, 2, .inl f18)), (h, .inr (7, oM r i j)), ((r 35), .inl (cJ, 24, .inr (.inl g35)))] H := hP
          have hD : va_D A [((r 14), .inl (cI, 2, .inl f14)), ((r 34), .inl (cJ, 20, .inr (.inl g34))), ((r 18), .inl (cI, 2, .inl f18)), (h, .inr (7, oM r i j)), ((r 35), .inl (cJ, 24, .inr (.inl g35)))] := hD
          refine lv_lstore (lv' := [(4, .long r_46v1), (0, .ref h), (1, .int 1), (2, .int x2), (3, .int x3)]) hx hb dX7_letter_49 hl (by decide) rfl (fun ls hl => ?_)
          refine lv_iconst (v := 0) hx hb dX7_letter_51 (by decide +kernel) ?_
          refine lv_istore (lv' := [(6, .int 0), (4, .long r_46v1), (0, .ref h), (1, .int 1), (2, .int x2), (3, .int x3)]) hx hb dX7_letter_52 hl (by decide) rfl (fun ls hl => ?_)
          refine lv_lload hx hb dX7_letter_54 (lv_at hl 1 rfl) ?_
          have J_58v1 : ∀ (n_58v1 : Nat) (j58v1_L6 : Int32) (j58v1_L7 : Int64)  (hm_58v1 : j58v1_L7.toInt.toNat < n_58v1) (H : Heap) (locs : List Loc) (ls : Array Slot), va_P (dC, dI) vwCl [(h, .inr (7, oM r i j)), ((r 14), .inl (cI, 2, .inl f14)), ((r 18), .inl (cI, 2, .inl f18)), ((r 34), .inl (cJ, 20, .inr (.inl g34))), ((r 35), .inl (cJ, 24, .inr (.inl g35)))] H → va_D A [(h, .inr (7, oM r i j)), ((r 14), .inl (cI, 2, .inl f14)), ((r 18), .inl (cI, 2, .inl f18)), ((r 34), .inl (cJ, 20, .inr (.inl g34))), ((r 35), .inl (cJ, 24, .inr (.inl g35)))] → va_S A s.heap H locs → lv_has ls 9 [(3, .int x3), (4, .long r_46v1), (6, .int j58v1_L6), (7, .long j58v1_L7)] → W p l e ({ frames := 2, cells := 0, slots := 0, locals := 63 }) s m args below meth c H locs 0 0 (MQ below (va_Qi (fun (r9 : Int32) (u9 : Unit) => True) (fun u => k_B (dC, dI) vwCl (tyy cI cJ cZ cM) A ((fun (u9 : Unit) => [(h, .inr (7, oM r i j)), ((r 14), .inl (cI, 2, .inl f14)), ((r 18), .inl (cI, 2, .inl f18)), ((r 34), .inl (cJ, 20, .inr (.inl g34))), ((r 35), .inl (cJ, 24, .inr (.inl g35)))]) u)) A) args s 0 0 A) (F0 m 58 ls []) := by
            intro n_58v1
            induction n_58v1 with
            | zero => intro j58v1_L6 j58v1_L7  hm_58v1; exact absurd hm_58v1 (Nat.not_lt_zero _)
            | succ n_58v1 ih_58v1 =>
              intro j58v1_L6 j58v1_L7  hm_58v1 H locs ls hP hD hS hl
              refine lv_lload hx hb dX7_letter_58 (lv_at hl 3 rfl) ?_
              refine lv_lconst (v := 0) hx hb dX7_letter_60 (by decide +kernel) ?_
              refine W.lcmp hx hb dX7_letter_61 ?_
              refine lv_topi (fun y_61v1 ey_61v1 => ?_)
              refine lv_if_le (tgt := 78) hx hb dX7_letter_62 (by decide) (fun c_62v1 => ?_) (fun c_62v1 => ?_)
              · have c_62v1 : y_61v1 ≤ 0 := c_62v1
                have f_78v1_1 : iR y_61v1 (-2147483648) 0 := iR_leL c_62v1 (iR_top _) (iR_c (n := 0) (a := 0) (b := 0) (by decide +kernel) (by decide +kernel)) (by decide +kernel)
                have lc_62v1 : j58v1_L7 ≤ 0 := l_cmple ey_61v1 c_62v1
                refine lv_iload_n hx hb dX7_letter_78 rfl (lv_at hl 0 rfl) ?_
                refine lv_iload hx hb dX7_letter_79 (lv_at hl 2 rfl) ?_
                refine lv_icmp_lt (tgt := 88) hx hb dX7_letter_81 (by decide) (fun c_81v1 => ?_) (fun c_81v1 => ?_)
                · have c_81v1 : x3 < j58v1_L6 := c_81v1
                  have f_88v1_2 : iR j58v1_L6 1 2147483647 := iR_ltR c_81v1 f_39v1_12 (iR_top _) (by decide +kernel)
                  refine lv_lload hx hb dX7_letter_88 (lv_at hl 1 rfl) ?_
                  refine lv_bipush (v := 8) hx hb dX7_letter_90 (by decide +kernel) ?_
                  refine lv_iload hx hb dX7_letter_92 (lv_at hl 2 rfl) ?_
                  refine lv_iconst (v := 1) hx hb dX7_letter_94 (by decide +kernel) ?_
                  refine lv_isub hx hb dX7_letter_95 ?_
                  refine lv_topi (fun y_95v1 ey_95v1 => ?_)
                  have f_95v1_3 : iR y_95v1 0 2147483646 := iR_sub ey_95v1 f_88v1_2 (iR_c (n := 1) (a := 1) (b := 1) (by decide +kernel) (by decide +kernel)) (by decide +kernel)
                  refine lv_iload_n hx hb dX7_letter_96 rfl (lv_at hl 0 rfl) ?_
                  refine lv_isub hx hb dX7_letter_97 ?_
                  refine lv_topi (fun y_97v1 ey_97v1 => ?_)
                  have f_97v1_4 : iR y_97v1 (-5) 2147483646 := iR_sub ey_97v1 f_95v1_3 f_39v1_12 (by decide +kernel)
                  refine lv_imul hx hb dX7_letter_98 ?_
                  refine lv_topi (fun y_98v1 ey_98v1 => ?_)
                  refine lv_lshr (v := r_46v1 >>> (y_98v1.toInt64 &&& 63)) hx hb dX7_letter_99 rfl ?_
                  refine lv_topl (fun y_99v1 ey_99v1 => ?_)
                  refine lv_ldc2 (v := 255) hx hb hown w_1 dX7_letter_100 ?_
                  refine lv_land hx hb dX7_letter_103 ?_
                  refine lv_topl (fun y_103v1 ey_103v1 => ?_)
                  refine lv_l2i (v := y_103v1.toInt32) hx hb dX7_letter_104 rfl ?_
                  refine lv_topi (fun y_104v1 ey_104v1 => ?_)
                  refine lv_bipush (v := 97) hx hb dX7_letter_105 (by decide +kernel) ?_
                  refine lv_isub hx hb dX7_letter_107 ?_
                  refine lv_topi (fun y_107v1 ey_107v1 => ?_)
                  refine lv_iconst (v := 1) hx hb dX7_letter_108 (by decide +kernel) ?_
                  refine lv_iadd hx hb dX7_letter_109 ?_
                  refine lv_topi (fun y_109v1 ey_109v1 => ?_)
                  exact k_ri B hP hD hS dX7_letter_110 () [0, 1, 2, 3, 4] rfl rfl rfl (Nat.le_of_ble_eq_true rfl) (Nat.le_of_ble_eq_true rfl) trivial
                · have c_81v1 : j58v1_L6 ≤ x3 := i_nlt c_81v1
                  have f_84v1_2 : iR j58v1_L6 (-2147483648) 5 := iR_leL c_81v1 (iR_top _) f_39v1_12 (by decide +kernel)
                  refine lv_iconst (v := 0) hx hb dX7_letter_84 (by decide +kernel) ?_
                  refine lv_goto (tgt := 110) hx hb dX7_letter_85 (by decide) ?_
                  exact k_ri B hP hD hS dX7_letter_110 () [0, 1, 2, 3, 4] rfl rfl rfl (Nat.le_of_ble_eq_true rfl) (Nat.le_of_ble_eq_true rfl) trivial
              · have c_62v1 : 0 < y_61v1 := i_nle c_62v1
                have f_65v1_1 : iR y_61v1 1 2147483647 := iR_ltR c_62v1 (iR_c (n := 0) (a := 0) (b := 0) (by decide +kernel) (by decide +kernel)) (iR_top _) (by decide +kernel)
                have lc_62v1 : 0 < j58v1_L7 := l_cmpgt ey_61v1 c_62v1
                obtain ⟨y_65v1, ey_65v1⟩ : ∃ y : Int32, y = j58v1_L6 + 1 := ⟨_, rfl⟩
                refine lv_iinc (v := y_65v1) (lv' := [(6, .int y_65v1), (3, .int x3), (4, .long r_46v1), (7, .long j58v1_L7)]) hx hb dX7_letter_65 hl (k := 2) rfl ey_65v1.symm (by decide) rfl (fun ls hl => ?_)
                refine lv_lload hx hb dX7_letter_68 (lv_at hl 3 rfl) ?_
                refine lv_bipush (v := 8) hx hb dX7_letter_70 (by decide +kernel) ?_
                refine lv_lshr (v := j58v1_L7 >>> ((8 : Int32).toInt64 &&& 63)) hx hb dX7_letter_72 rfl ?_
                refine lv_topl (fun y_72v1 ey_72v1 => ?_)
                refine lv_lstore (lv' := [(7, .long y_72v1), (6, .int y_65v1), (3, .int x3), (4, .long r_46v1)]) hx hb dX7_letter_73 hl (by decide) rfl (fun ls hl => ?_)
                refine lv_goto (tgt := 58) hx hb dX7_letter_75 (by decide) ?_
                exact ih_58v1 y_65v1 y_72v1  (m_shr8 hm_58v1 ey_72v1 lc_62v1) H locs ls hP hD hS (lv_sub hl [2, 3, 1, 0] rfl)
          refine lv_lstore (lv' := [(7, .long r_46v1), (6, .int 0), (4, .long r_46v1), (0, .ref h), (1, .int 1), (2, .int x2), (3, .int x3)]) hx hb dX7_letter_56 hl (by decide) rfl (fun ls hl => ?_)
          exact J_58v1 _ 0 r_46v1  (Nat.lt_succ_self _) H locs ls (hP.sub [3, 0, 2, 1, 4] rfl) (hD.sub [3, 0, 2, 1, 4] (by decide +kernel) rfl) hS (lv_sub hl [6, 2, 1, 0] rfl)
        · have c_34v1 : r_31v1 = 0 := c_34v1
          have f_37v1_10 : iR r_31v1 0 0 := iR_eqL c_34v1 g_31v1_0 (iR_c (n := 0) (a := 0) (b := 0) (by decide +kernel) (by decide +kernel)) (by decide +kernel)
          exact J_37   H locs ls (hP.sub [3, 0, 4, 1, 2] rfl) (hD.sub [3, 0, 4, 1, 2] (by decide +kernel) rfl) hS (lv_sub hl [] rfl)
