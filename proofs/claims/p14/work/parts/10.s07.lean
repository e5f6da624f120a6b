set_option maxHeartbeats 8000000 in
set_option maxRecDepth 100000 in
theorem s_X7_ahead_v2 (l : Launch) (dC : Nat → ClassId) (dI : Nat → Nat → Nat) (cI cJ cZ cM : ClassId) (h : Nat) (r : Nat → Nat) (i : Nat → Int32) (j : Nat → Int64) (f0 : Nat → Int32) (hI : mR i) (hf0 : aR f0 0 255) : k_Mv l yX7_ahead wsX7_ahead ({ frames := 2, cells := 0, slots := 0, locals := 62 }) (dC, dI) vwCl (tyy cI cJ cZ cM) [(h, .inr (7, oM r i j)), ((r 0), .inl (cI, 1800, .inl f0))] [.ref h] 0 0 (fun (u9 : SU) => [(h, .inr (7, oM r (upd (upd (upd (upd (upd i 3 (u9.1 0)) 4 (u9.1 1)) 5 (u9.1 2)) 6 (u9.1 3)) 12 (u9.1 4)) (vp_updL j 7 (u9.2.1 0)))), ((r 0), .inl (cI, 1800, .inl f0))]) (fun (u9 : SU) => (iR (u9.1 0) 0 3) ∧ (iR (u9.1 1) 0 1600) ∧ (iR (u9.1 2) 0 1600) ∧ (iR (u9.1 4) (-1) 1599)) := by
  refine fun sz => k_enter (cc := cX7_ahead) (maxL := 6) (ret := none) (Qc := fun A => va_Qv (fun (u9 : SU) => (iR (u9.1 0) 0 3) ∧ (iR (u9.1 1) 0 1600) ∧ (iR (u9.1 2) 0 1600) ∧ (iR (u9.1 4) (-1) 1599)) (fun u => k_B (dC, dI) vwCl (tyy cI cJ cZ cM) A ((fun (u9 : SU) => [(h, .inr (7, oM r (upd (upd (upd (upd (upd i 3 (u9.1 0)) 4 (u9.1 1)) 5 (u9.1 2)) 6 (u9.1 3)) 12 (u9.1 4)) (vp_updL j 7 (u9.2.1 0)))), ((r 0), .inl (cI, 1800, .inl f0))]) u)) A) sz (by decide +kernel) rfl (Nat.le_of_ble_eq_true rfl) (fun p e s m args below meth c A ls H locs B hP hD hS hl => ?_)
  obtain ⟨hx, hb, hml, hown, hts, hr, hlk, hnm, hK, hA, hN, hC⟩ := id B
  have hown : s.vm.findClass RX7 = some m.cls := hown
  have hl : lv_has ls 6 [(0, .ref h)] := hl
  have w_0 : (Cond.fieldLink RX7 26 "WishSeaModel" "signEnd" "I").before args s = true := hts _ (List.mem_of_getElem? (i := 1) rfl)
  have w_1 : (Cond.fieldLink RX7 17 "WishSeaModel" "size" "I").before args s = true := hts _ (List.mem_of_getElem? (i := 2) rfl)
  have w_2 : (Cond.fieldLink RX7 23 "WishSeaModel" "signAt" "I").before args s = true := hts _ (List.mem_of_getElem? (i := 4) rfl)
  have w_3 : (Cond.fieldLink RX7 20 "WishSeaModel" "sign" "I").before args s = true := hts _ (List.mem_of_getElem? (i := 5) rfl)
  have w_4 : (Cond.fieldLink RX7 48 "WishSeaModel" "lexAt" "I").before args s = true := hts _ (List.mem_of_getElem? (i := 6) rfl)
  have w_5 : (Cond.fieldLink RX7 7 "WishSeaModel" "tape" "[I").before args s = true := hts _ (List.mem_of_getElem? (i := 3) rfl)
  have w_6 : (Cond.fieldLink RX7 29 "WishSeaModel" "value" "I").before args s = true := hts _ (List.mem_of_getElem? (i := 7) rfl)
  have w_7 : (Cond.fieldLink RX7 32 "WishSeaModel" "word" "J").before args s = true := hts _ (List.mem_of_getElem? (i := 8) rfl)
  have hinX7 : ∀ w ∈ u_ws RX7 TX7 92, w ∈ wsX7_ahead := fun _ h => List.mem_cons_of_mem _ (List.mem_append_right _ h)
  refine lv_aload_n hx hb dX7_ahead_0 rfl (lv_at hl 0 rfl) ?_
  have f_1_1 : iR (i 5) 0 1600 := hI 5
  refine k_get (D := (dC, dI)) (ci := 7) (v := .int (i 5)) (C := RX7) (T := TX7) (N := 92) hx hb hts hinX7 hown hK hP 0 rfl rfl 5 (by decide) w_0 rfl rfl dX7_ahead_1 ?_
  have J_5 : ∀ (n_5 : Nat) (j5_L1 : Int32) (hj5_L1 : iR j5_L1 0 1600) (hm_5 : (1600 - j5_L1.toInt).toNat < n_5) (H : Heap) (locs : List Loc) (ls : Array Slot), va_P (dC, dI) vwCl [(h, .inr (7, oM r i j)), ((r 0), .inl (cI, 1800, .inl f0))] H → va_D A [(h, .inr (7, oM r i j)), ((r 0), .inl (cI, 1800, .inl f0))] → va_S A s.heap H locs → lv_has ls 6 [(0, .ref h), (1, .int j5_L1)] → W p l e ({ frames := 2, cells := 0, slots := 0, locals := 62 }) s m args below meth c H locs 0 0 (MQ below (va_Qv (fun (u9 : SU) => (iR (u9.1 0) 0 3) ∧ (iR (u9.1 1) 0 1600) ∧ (iR (u9.1 2) 0 1600) ∧ (iR (u9.1 4) (-1) 1599)) (fun u => k_B (dC, dI) vwCl (tyy cI cJ cZ cM) A ((fun (u9 : SU) => [(h, .inr (7, oM r (upd (upd (upd (upd (upd i 3 (u9.1 0)) 4 (u9.1 1)) 5 (u9.1 2)) 6 (u9.1 3)) 12 (u9.1 4)) (vp_updL j 7 (u9.2.1 0)))), ((r 0), .inl (cI, 1800, .inl f0))]) u)) A) args s 0 0 A) (F0 m 5 ls []) := by
    intro n_5
    induction n_5 with
    | zero => intro j5_L1 hj5_L1 hm_5; exact absurd hm_5 (Nat.not_lt_zero _)
    | succ n_5 ih_5 =>
      intro j5_L1 hj5_L1 hm_5 H locs ls hP hD hS hl
      refine lv_iload_n hx hb dX7_ahead_5 rfl (lv_at hl 1 rfl) ?_
      refine lv_aload_n hx hb dX7_ahead_6 rfl (lv_at hl 0 rfl) ?_
      have f_7_1 : iR (i 2) 0 1600 := hI 2
      refine k_get (D := (dC, dI)) (ci := 7) (v := .int (i 2)) (C := RX7) (T := TX7) (N := 92) hx hb hts hinX7 hown hK hP 0 rfl rfl 2 (by decide) w_1 rfl rfl dX7_ahead_7 ?_
      have J_41 : ∀   (H : Heap) (locs : List Loc) (ls : Array Slot), va_P (dC, dI) vwCl [(h, .inr (7, oM r i j)), ((r 0), .inl (cI, 1800, .inl f0))] H → va_D A [(h, .inr (7, oM r i j)), ((r 0), .inl (cI, 1800, .inl f0))] → va_S A s.heap H locs → lv_has ls 6 [(0, .ref h), (1, .int j5_L1)] → W p l e ({ frames := 2, cells := 0, slots := 0, locals := 62 }) s m args below meth c H locs 0 0 (MQ below (va_Qv (fun (u9 : SU) => (iR (u9.1 0) 0 3) ∧ (iR (u9.1 1) 0 1600) ∧ (iR (u9.1 2) 0 1600) ∧ (iR (u9.1 4) (-1) 1599)) (fun u => k_B (dC, dI) vwCl (tyy cI cJ cZ cM) A ((fun (u9 : SU) => [(h, .inr (7, oM r (upd (upd (upd (upd (upd i 3 (u9.1 0)) 4 (u9.1 1)) 5 (u9.1 2)) 6 (u9.1 3)) 12 (u9.1 4)) (vp_updL j 7 (u9.2.1 0)))), ((r 0), .inl (cI, 1800, .inl f0))]) u)) A) args s 0 0 A) (F0 m 41 ls []) := by
        intro   H locs ls hP hD hS hl
        refine lv_aload_n hx hb dX7_ahead_41 rfl (lv_at hl 0 rfl) ?_
        refine lv_iload_n hx hb dX7_ahead_42 rfl (lv_at hl 1 rfl) ?_
        refine k_put (D := (dC, dI)) (ci := 7) (v := .int j5_L1) (C := RX7) (T := TX7) (N := 92) (ws' := [(h, .inr (7, oM r (upd i 4 j5_L1) j)), ((r 0), .inl (cI, 1800, .inl f0))]) hx hb hts hinX7 tyX7 tyX7_ok nmX7 hown hK hP hD hS 0 rfl rfl 4 (by decide) w_2 rfl rfl rfl rfl (Nat.le_of_ble_eq_true rfl) rfl dX7_ahead_43 (fun H locs hP hD hS => ?_)
        refine lv_aload_n hx hb dX7_ahead_46 rfl (lv_at hl 0 rfl) ?_
        refine lv_iload_n hx hb dX7_ahead_47 rfl (lv_at hl 1 rfl) ?_
        refine k_put (D := (dC, dI)) (ci := 7) (v := .int j5_L1) (C := RX7) (T := TX7) (N := 92) (ws' := [(h, .inr (7, oM r (upd (upd i 4 j5_L1) 5 j5_L1) j)), ((r 0), .inl (cI, 1800, .inl f0))]) hx hb hts hinX7 tyX7 tyX7_ok nmX7 hown hK hP hD hS 0 rfl rfl 5 (by decide) w_0 rfl rfl rfl rfl (Nat.le_of_ble_eq_true rfl) rfl dX7_ahead_48 (fun H locs hP hD hS => ?_)
        refine lv_aload_n hx hb dX7_ahead_51 rfl (lv_at hl 0 rfl) ?_
        refine lv_iconst (v := 0) hx hb dX7_ahead_52 (by decide +kernel) ?_
        refine k_put (D := (dC, dI)) (ci := 7) (v := .int 0) (C := RX7) (T := TX7) (N := 92) (ws' := [(h, .inr (7, oM r (upd (upd (upd i 3 0) 4 j5_L1) 5 j5_L1) j)), ((r 0), .inl (cI, 1800, .inl f0))]) hx hb hts hinX7 tyX7 tyX7_ok nmX7 hown hK hP hD hS 0 rfl rfl 3 (by decide) w_3 rfl rfl rfl rfl (Nat.le_of_ble_eq_true rfl) rfl dX7_ahead_53 (fun H locs hP hD hS => ?_)
        refine lv_aload_n hx hb dX7_ahead_56 rfl (lv_at hl 0 rfl) ?_
        refine lv_iconst (v := (-1)) hx hb dX7_ahead_57 (by decide +kernel) ?_
        refine k_put (D := (dC, dI)) (ci := 7) (v := .int (-1)) (C := RX7) (T := TX7) (N := 92) (ws' := [(h, .inr (7, oM r (upd (upd (upd (upd i 3 0) 4 j5_L1) 5 j5_L1) 12 (-1)) j)), ((r 0), .inl (cI, 1800, .inl f0))]) hx hb hts hinX7 tyX7 tyX7_ok nmX7 hown hK hP hD hS 0 rfl rfl 12 (by decide) w_4 rfl rfl rfl rfl (Nat.le_of_ble_eq_true rfl) rfl dX7_ahead_58 (fun H locs hP hD hS => ?_)
        refine lv_iload_n hx hb dX7_ahead_61 rfl (lv_at hl 1 rfl) ?_
        refine lv_aload_n hx hb dX7_ahead_62 rfl (lv_at hl 0 rfl) ?_
        refine k_get (D := (dC, dI)) (ci := 7) (v := .int (i 2)) (C := RX7) (T := TX7) (N := 92) hx hb hts hinX7 hown hK hP 0 rfl rfl 2 (by decide) w_1 rfl rfl dX7_ahead_63 ?_
        refine lv_icmp_lt (tgt := 70) hx hb dX7_ahead_66 (by decide) (fun c_66 => ?_) (fun c_66 => ?_)
        · have c_66 : j5_L1 < (i 2) := c_66
          have f_70_1 : iR j5_L1 0 1599 := iR_ltL c_66 hj5_L1 f_7_1 (by decide +kernel)
          have f_70_2 : iR (i 2) 1 1600 := iR_ltR c_66 hj5_L1 f_7_1 (by decide +kernel)
          refine lv_aload_n hx hb dX7_ahead_70 rfl (lv_at hl 0 rfl) ?_
          refine k_get (D := (dC, dI)) (ci := 7) (v := .ref (r 0)) (C := RX7) (T := TX7) (N := 92) hx hb hts hinX7 hown hK hP 0 rfl rfl 0 (by decide) w_5 rfl rfl dX7_ahead_71 ?_
          refine lv_iload_n hx hb dX7_ahead_74 rfl (lv_at hl 1 rfl) ?_
          refine va_iald hx hb hK hP 1 0 rfl rfl (iR_vp f_70_1 (by decide +kernel)) dX7_ahead_75 ?_
          have f_75_3 : iR (f0 j5_L1.toNatClampNeg) 0 255 := hf0 _
          refine k_ci (wc := []) (wr := [(h, .inr (7, oM r (upd (upd (upd (upd i 3 0) 4 j5_L1) 5 j5_L1) 12 (-1)) j)), ((r 0), .inl (cI, 1800, .inl f0))]) (fun hPc hDc hFc => va_runS (As := [.int (f0 j5_L1.toNatClampNeg)]) (rest := []) ⟨hx, hb, hml, hown, hts⟩ (s_X7_isLetter_v0 l dC dI cI cJ cZ cM (f0 j5_L1.toNatClampNeg) H.size) (va_cwS 1 hts gX7_ahead_X7_isLetter rfl rfl rfl (by decide +kernel) ⟨(Nat.le_of_ble_eq_true rfl), (Nat.le_of_ble_eq_true rfl)⟩) (k_pS hPc hDc hK hN hC hS hFc) rfl rfl hl.1 rfl (lv_room (Nat.le_of_ble_eq_true rfl)) dX7_ahead_76 ⟨(Nat.le_of_ble_eq_true rfl), (Nat.le_of_ble_eq_true rfl)⟩) hP hD hS hA [] [0, 1] rfl rfl rfl rfl (by decide) (fun _ => rfl) 0 0 rfl rfl (fun r_76 u_76 H locs hw hP hD hS => ?_)
          obtain g_76_0 := hw
          have hP : va_P (dC, dI) vwCl [(h, .inr (7, oM r (upd (upd (upd (upd i 3 0) 4 j5_L1) 5 j5_L1) 12 (-1)) j)), ((r 0), .inl (cI, 1800, .inl f0))] H := hP
          have hD : va_D A [(h, .inr (7, oM r (upd (upd (upd (upd i 3 0) 4 j5_L1) 5 j5_L1) 12 (-1)) j)), ((r 0), .inl (cI, 1800, .inl f0))] := hD
          refine lv_istore_n (lv' := [(2, .int r_76), (0, .ref h), (1, .int j5_L1)]) hx hb dX7_ahead_79 rfl hl (by decide) rfl (fun ls hl => ?_)
          refine lv_aload_n hx hb dX7_ahead_80 rfl (lv_at hl 1 rfl) ?_
          refine k_get (D := (dC, dI)) (ci := 7) (v := .ref (r 0)) (C := RX7) (T := TX7) (N := 92) hx hb hts hinX7 hown hK hP 0 rfl rfl 0 (by decide) w_5 rfl rfl dX7_ahead_81 ?_
          refine lv_iload_n hx hb dX7_ahead_84 rfl (lv_at hl 2 rfl) ?_
          refine va_iald hx hb hK hP 1 0 rfl rfl (iR_vp f_70_1 (by decide +kernel)) dX7_ahead_85 ?_
          refine k_ci (wc := []) (wr := [(h, .inr (7, oM r (upd (upd (upd (upd i 3 0) 4 j5_L1) 5 j5_L1) 12 (-1)) j)), ((r 0), .inl (cI, 1800, .inl f0))]) (fun hPc hDc hFc => va_runS (As := [.int (f0 j5_L1.toNatClampNeg)]) (rest := []) ⟨hx, hb, hml, hown, hts⟩ (s_X7_isDigit_v0 l dC dI cI cJ cZ cM (f0 j5_L1.toNatClampNeg) H.size) (va_cwS 1 hts gX7_ahead_X7_isDigit rfl rfl rfl (by decide +kernel) ⟨(Nat.le_of_ble_eq_true rfl), (Nat.le_of_ble_eq_true rfl)⟩) (k_pS hPc hDc hK hN hC hS hFc) rfl rfl hl.1 rfl (lv_room (Nat.le_of_ble_eq_true rfl)) dX7_ahead_86 ⟨(Nat.le_of_ble_eq_true rfl), (Nat.le_of_ble_eq_true rfl)⟩) hP hD hS hA [] [0, 1] rfl rfl rfl rfl (by decide) (fun _ => rfl) 0 0 rfl rfl (fun r_86 u_86 H locs hw hP hD hS => ?_)
          obtain g_86_0 := hw
          have hP : va_P (dC, dI) vwCl [(h, .inr (7, oM r (upd (upd (upd (upd i 3 0) 4 j5_L1) 5 j5_L1) 12 (-1)) j)), ((r 0), .inl (cI, 1800, .inl f0))] H := hP
          have hD : va_D A [(h, .inr (7, oM r (upd (upd (upd (upd i 3 0) 4 j5_L1) 5 j5_L1) 12 (-1)) j)), ((r 0), .inl (cI, 1800, .inl f0))] := hD
          refine lv_istore_n (lv' := [(3, .int r_86), (2, .int r_76), (0, .ref h), (1, .int j5_L1)]) hx hb dX7_ahead_89 rfl hl (by decide) rfl (fun ls hl => ?_)
          refine lv_iload_n hx hb dX7_ahead_90 rfl (lv_at hl 1 rfl) ?_
          have J_135 : ∀ (j135_M0_12 : Int32) (hj135_M0_12 : iR j135_M0_12 (-1) 1599) (H : Heap) (locs : List Loc) (ls : Array Slot), va_P (dC, dI) vwCl [(h, .inr (7, oM r (upd (upd (upd (upd i 3 0) 4 j5_L1) 5 j5_L1) 12 j135_M0_12) j)), ((r 0), .inl (cI, 1800, .inl f0))] H → va_D A [(h, .inr (7, oM r (upd (upd (upd (upd i 3 0) 4 j5_L1) 5 j5_L1) 12 j135_M0_12) j)), ((r 0), .inl (cI, 1800, .inl f0))] → va_S A s.heap H locs → lv_has ls 6 [(0, .ref h), (1, .int j5_L1), (2, .int r_76), (3, .int r_86)] → W p l e ({ frames := 2, cells := 0, slots := 0, locals := 62 }) s m args below meth c H locs 0 0 (MQ below (va_Qv (fun (u9 : SU) => (iR (u9.1 0) 0 3) ∧ (iR (u9.1 1) 0 1600) ∧ (iR (u9.1 2) 0 1600) ∧ (iR (u9.1 4) (-1) 1599)) (fun u => k_B (dC, dI) vwCl (tyy cI cJ cZ cM) A ((fun (u9 : SU) => [(h, .inr (7, oM r (upd (upd (upd (upd (upd i 3 (u9.1 0)) 4 (u9.1 1)) 5 (u9.1 2)) 6 (u9.1 3)) 12 (u9.1 4)) (vp_updL j 7 (u9.2.1 0)))), ((r 0), .inl (cI, 1800, .inl f0))]) u)) A) args s 0 0 A) (F0 m 135 ls []) := by
            intro j135_M0_12 hj135_M0_12 H locs ls hP hD hS hl
            refine lv_aload_n hx hb dX7_ahead_135 rfl (lv_at hl 0 rfl) ?_
            refine lv_iconst (v := 0) hx hb dX7_ahead_136 (by decide +kernel) ?_
            refine k_put (D := (dC, dI)) (ci := 7) (v := .int 0) (C := RX7) (T := TX7) (N := 92) (ws' := [(h, .inr (7, oM r (upd (upd (upd (upd (upd i 3 0) 4 j5_L1) 5 j5_L1) 6 0) 12 j135_M0_12) j)), ((r 0), .inl (cI, 1800, .inl f0))]) hx hb hts hinX7 tyX7 tyX7_ok nmX7 hown hK hP hD hS 0 rfl rfl 6 (by decide) w_6 rfl rfl rfl rfl (Nat.le_of_ble_eq_true rfl) rfl dX7_ahead_137 (fun H locs hP hD hS => ?_)
            refine lv_aload_n hx hb dX7_ahead_140 rfl (lv_at hl 0 rfl) ?_
            refine lv_lconst (v := 0) hx hb dX7_ahead_141 (by decide +kernel) ?_
            refine k_put (D := (dC, dI)) (ci := 7) (v := .long 0) (C := RX7) (T := TX7) (N := 92) (ws' := [(h, .inr (7, oM r (upd (upd (upd (upd (upd i 3 0) 4 j5_L1) 5 j5_L1) 6 0) 12 j135_M0_12) (vp_updL j 7 0))), ((r 0), .inl (cI, 1800, .inl f0))]) hx hb hts hinX7 tyX7 tyX7_ok nmX7 hown hK hP hD hS 0 rfl rfl 7 (by decide) w_7 rfl rfl rfl rfl (Nat.le_of_ble_eq_true rfl) rfl dX7_ahead_142 (fun H locs hP hD hS => ?_)
            refine lv_aload_n hx hb dX7_ahead_145 rfl (lv_at hl 0 rfl) ?_
            refine lv_iconst (v := 3) hx hb dX7_ahead_146 (by decide +kernel) ?_
            refine k_put (D := (dC, dI)) (ci := 7) (v := .int 3) (C := RX7) (T := TX7) (N := 92) (ws' := [(h, .inr (7, oM r (upd (upd (upd (upd (upd i 3 3) 4 j5_L1) 5 j5_L1) 6 0) 12 j135_M0_12) (vp_updL j 7 0))), ((r 0), .inl (cI, 1800, .inl f0))]) hx hb hts hinX7 tyX7 tyX7_ok nmX7 hown hK hP hD hS 0 rfl rfl 3 (by decide) w_3 rfl rfl rfl rfl (Nat.le_of_ble_eq_true rfl) rfl dX7_ahead_147 (fun H locs hP hD hS => ?_)
            refine lv_aload_n hx hb dX7_ahead_150 rfl (lv_at hl 0 rfl) ?_
            refine lv_iload_n hx hb dX7_ahead_151 rfl (lv_at hl 1 rfl) ?_
            refine lv_iconst (v := 1) hx hb dX7_ahead_152 (by decide +kernel) ?_
            refine lv_iadd hx hb dX7_ahead_153 ?_
            refine lv_topi (fun y_153 ey_153 => ?_)
            have f_153_1 : iR y_153 1 1600 := iR_add ey_153 f_70_1 (iR_c (n := 1) (by decide +kernel) (by decide +kernel)) (by decide +kernel)
            refine k_put (D := (dC, dI)) (ci := 7) (v := .int y_153) (C := RX7) (T := TX7) (N := 92) (ws' := [(h, .inr (7, oM r (upd (upd (upd (upd (upd i 3 3) 4 j5_L1) 5 y_153) 6 0) 12 j135_M0_12) (vp_updL j 7 0))), ((r 0), .inl (cI, 1800, .inl f0))]) hx hb hts hinX7 tyX7 tyX7_ok nmX7 hown hK hP hD hS 0 rfl rfl 5 (by decide) w_0 rfl rfl rfl rfl (Nat.le_of_ble_eq_true rfl) rfl dX7_ahead_154 (fun H locs hP hD hS => ?_)
            refine lv_iload_n hx hb dX7_ahead_157 rfl (lv_at hl 2 rfl) ?_
            have J_176 : ∀   (H : Heap) (locs : List Loc) (ls : Array Slot), va_P (dC, dI) vwCl [(h, .inr (7, oM r (upd (upd (upd (upd (upd i 3 3) 4 j5_L1) 5 y_153) 6 0) 12 j135_M0_12) (vp_updL j 7 0))), ((r 0), .inl (cI, 1800, .inl f0))] H → va_D A [(h, .inr (7, oM r (upd (upd (upd (upd (upd i 3 3) 4 j5_L1) 5 y_153) 6 0) 12 j135_M0_12) (vp_updL j 7 0))), ((r 0), .inl (cI, 1800, .inl f0))] → va_S A s.heap H locs → lv_has ls 6 [(0, .ref h), (1, .int j5_L1), (2, .int r_76), (3, .int r_86)] → W p l e ({ frames := 2, cells := 0, slots := 0, locals := 62 }) s m args below meth c H locs 0 0 (MQ below (va_Qv (fun (u9 : SU) => (iR (u9.1 0) 0 3) ∧ (iR (u9.1 1) 0 1600) ∧ (iR (u9.1 2) 0 1600) ∧ (iR (u9.1 4) (-1) 1599)) (fun u => k_B (dC, dI) vwCl (tyy cI cJ cZ cM) A ((fun (u9 : SU) => [(h, .inr (7, oM r (upd (upd (upd (upd (upd i 3 (u9.1 0)) 4 (u9.1 1)) 5 (u9.1 2)) 6 (u9.1 3)) 12 (u9.1 4)) (vp_updL j 7 (u9.2.1 0)))), ((r 0), .inl (cI, 1800, .inl f0))]) u)) A) args s 0 0 A) (F0 m 176 ls []) := by
              intro   H locs ls hP hD hS hl
              refine lv_aload_n hx hb dX7_ahead_176 rfl (lv_at hl 0 rfl) ?_
              refine lv_iload_n hx hb dX7_ahead_177 rfl (lv_at hl 2 rfl) ?_
              have J_186 : ∀ (j186_S0 : Int32) (hj186_S0 : iR j186_S0 1 2) (H : Heap) (locs : List Loc) (ls : Array Slot), va_P (dC, dI) vwCl [(h, .inr (7, oM r (upd (upd (upd (upd (upd i 3 3) 4 j5_L1) 5 y_153) 6 0) 12 j135_M0_12) (vp_updL j 7 0))), ((r 0), .inl (cI, 1800, .inl f0))] H → va_D A [(h, .inr (7, oM r (upd (upd (upd (upd (upd i 3 3) 4 j5_L1) 5 y_153) 6 0) 12 j135_M0_12) (vp_updL j 7 0))), ((r 0), .inl (cI, 1800, .inl f0))] → va_S A s.heap H locs → lv_has ls 6 [(0, .ref h), (1, .int j5_L1), (2, .int r_76), (3, .int r_86)] → W p l e ({ frames := 2, cells := 0, slots := 0, locals := 62 }) s m args below meth c H locs 0 0 (MQ below (va_Qv (fun (u9 : SU) => (iR (u9.1 0) 0 3) ∧ (iR (u9.1 1) 0 1600) ∧ (iR (u9.1 2) 0 1600) ∧ (iR (u9.1 4) (-1) 1599)) (fun u => k_B (dC, dI) vwCl (tyy cI cJ cZ cM) A ((fun (u9 : SU) => [(h, .inr (7, oM r (upd (upd (upd (upd (upd i 3 (u9.1 0)) 4 (u9.1 1)) 5 (u9.1 2)) 6 (u9.1 3)) 12 (u9.1 4)) (vp_updL j 7 (u9.2.1 0)))), ((r 0), .inl (cI, 1800, .inl f0))]) u)) A) args s 0 0 A) (F0 m 186 ls [.int j186_S0, .ref h]) := by
                intro j186_S0 hj186_S0 H locs ls hP hD hS hl
                refine k_put (D := (dC, dI)) (ci := 7) (v := .int j186_S0) (C := RX7) (T := TX7) (N := 92) (ws' := [(h, .inr (7, oM r (upd (upd (upd (upd (upd i 3 j186_S0) 4 j5_L1) 5 y_153) 6 0) 12 j135_M0_12) (vp_updL j 7 0))), ((r 0), .inl (cI, 1800, .inl f0))]) hx hb hts hinX7 tyX7 tyX7_ok nmX7 hown hK hP hD hS 0 rfl rfl 3 (by decide) w_3 rfl rfl rfl rfl (Nat.le_of_ble_eq_true rfl) rfl dX7_ahead_186 (fun H locs hP hD hS => ?_)
                refine lv_iload_n hx hb dX7_ahead_189 rfl (lv_at hl 2 rfl) ?_
                have J_199 : ∀ (j199_S0 : Int32) (hj199_S0 : iR j199_S0 4 6) (H : Heap) (locs : List Loc) (ls : Array Slot), va_P (dC, dI) vwCl [(h, .inr (7, oM r (upd (upd (upd (upd (upd i 3 j186_S0) 4 j5_L1) 5 y_153) 6 0) 12 j135_M0_12) (vp_updL j 7 0))), ((r 0), .inl (cI, 1800, .inl f0))] H → va_D A [(h, .inr (7, oM r (upd (upd (upd (upd (upd i 3 j186_S0) 4 j5_L1) 5 y_153) 6 0) 12 j135_M0_12) (vp_updL j 7 0))), ((r 0), .inl (cI, 1800, .inl f0))] → va_S A s.heap H locs → lv_has ls 6 [(0, .ref h), (1, .int j5_L1), (2, .int r_76), (3, .int r_86)] → W p l e ({ frames := 2, cells := 0, slots := 0, locals := 62 }) s m args below meth c H locs 0 0 (MQ below (va_Qv (fun (u9 : SU) => (iR (u9.1 0) 0 3) ∧ (iR (u9.1 1) 0 1600) ∧ (iR (u9.1 2) 0 1600) ∧ (iR (u9.1 4) (-1) 1599)) (fun u => k_B (dC, dI) vwCl (tyy cI cJ cZ cM) A ((fun (u9 : SU) => [(h, .inr (7, oM r (upd (upd (upd (upd (upd i 3 (u9.1 0)) 4 (u9.1 1)) 5 (u9.1 2)) 6 (u9.1 3)) 12 (u9.1 4)) (vp_updL j 7 (u9.2.1 0)))), ((r 0), .inl (cI, 1800, .inl f0))]) u)) A) args s 0 0 A) (F0 m 199 ls [.int j199_S0]) := by
                  intro j199_S0 hj199_S0 H locs ls hP hD hS hl
                  refine lv_istore (lv' := [(4, .int j199_S0), (0, .ref h), (1, .int j5_L1), (2, .int r_76), (3, .int r_86)]) hx hb dX7_ahead_199 hl (by decide) rfl (fun ls hl => ?_)
                  refine lv_iconst (v := 0) hx hb dX7_ahead_201 (by decide +kernel) ?_
                  have J_204 : ∀ (n_204 : Nat) (j204_L1 : Int32) (j204_L5 : Int32) (j204_M0_6 : Int32) (j204_M0_7 : Int64) (j204_M0_12 : Int32) (hj204_L1 : iR j204_L1 0 1600) (hj204_M0_12 : iR j204_M0_12 (-1) 1599) (hm_204 : (1600 - j204_L1.toInt).toNat < n_204) (H : Heap) (locs : List Loc) (ls : Array Slot), va_P (dC, dI) vwCl [(h, .inr (7, oM r (upd (upd (upd (upd (upd i 3 j186_S0) 4 j5_L1) 5 y_153) 6 j204_M0_6) 12 j204_M0_12) (vp_updL j 7 j204_M0_7))), ((r 0), .inl (cI, 1800, .inl f0))] H → va_D A [(h, .inr (7, oM r (upd (upd (upd (upd (upd i 3 j186_S0) 4 j5_L1) 5 y_153) 6 j204_M0_6) 12 j204_M0_12) (vp_updL j 7 j204_M0_7))), ((r 0), .inl (cI, 1800, .inl f0))] → va_S A s.heap H locs → lv_has ls 6 [(0, .ref h), (1, .int j204_L1), (2, .int r_76), (3, .int r_86), (4, .int j199_S0), (5, .int j204_L5)] → W p l e ({ frames := 2, cells := 0, slots := 0, locals := 62 }) s m args below meth c H locs 0 0 (MQ below (va_Qv (fun (u9 : SU) => (iR (u9.1 0) 0 3) ∧ (iR (u9.1 1) 0 1600) ∧ (iR (u9.1 2) 0 1600) ∧ (iR (u9.1 4) (-1) 1599)) (fun u => k_B (dC, dI) vwCl (tyy cI cJ cZ cM) A ((fun (u9 : SU) => [(h, .inr (7, oM r (upd (upd (upd (upd (upd i 3 (u9.1 0)) 4 (u9.1 1)) 5 (u9.1 2)) 6 (u9.1 3)) 12 (u9.1 4)) (vp_updL j 7 (u9.2.1 0)))), ((r 0), .inl (cI, 1800, .inl f0))]) u)) A) args s 0 0 A) (F0 m 204 ls []) := by
                    intro n_204
                    induction n_204 with
                    | zero => intro j204_L1 j204_L5 j204_M0_6 j204_M0_7 j204_M0_12 hj204_L1 hj204_M0_12 hm_204; exact absurd hm_204 (Nat.not_lt_zero _)
                    | succ n_204 ih_204 =>
                      intro j204_L1 j204_L5 j204_M0_6 j204_M0_7 j204_M0_12 hj204_L1 hj204_M0_12 hm_204 H locs ls hP hD hS hl
                      refine lv_iload_n hx hb dX7_ahead_204 rfl (lv_at hl 1 rfl) ?_
                      refine lv_aload_n hx hb dX7_ahead_205 rfl (lv_at hl 0 rfl) ?_
                      refine k_get (D := (dC, dI)) (ci := 7) (v := .int (i 2)) (C := RX7) (T := TX7) (N := 92) hx hb hts hinX7 hown hK hP 0 rfl rfl 2 (by decide) w_1 rfl rfl dX7_ahead_206 ?_
                      have J_334 : ∀   (H : Heap) (locs : List Loc) (ls : Array Slot), va_P (dC, dI) vwCl [(h, .inr (7, oM r (upd (upd (upd (upd (upd i 3 j186_S0) 4 j5_L1) 5 y_153) 6 j204_M0_6) 12 j204_M0_12) (vp_updL j 7 j204_M0_7))), ((r 0), .inl (cI, 1800, .inl f0))] H → va_D A [(h, .inr (7, oM r (upd (upd (upd (upd (upd i 3 j186_S0) 4 j5_L1) 5 y_153) 6 j204_M0_6) 12 j204_M0_12) (vp_updL j 7 j204_M0_7))), ((r 0), .inl (cI, 1800, .inl f0))] → va_S A s.heap H locs → lv_has ls 6 [(0, .ref h), (1, .int j204_L1), (2, .int r_76), (4, .int j199_S0), (5, .int j204_L5)] → W p l e ({ frames := 2, cells := 0, slots := 0, locals := 62 }) s m args below meth c H locs 0 0 (MQ below (va_Qv (fun (u9 : SU) => (iR (u9.1 0) 0 3) ∧ (iR (u9.1 1) 0 1600) ∧ (iR (u9.1 2) 0 1600) ∧ (iR (u9.1 4) (-1) 1599)) (fun u => k_B (dC, dI) vwCl (tyy cI cJ cZ cM) A ((fun (u9 : SU) => [(h, .inr (7, oM r (upd (upd (upd (upd (upd i 3 (u9.1 0)) 4 (u9.1 1)) 5 (u9.1 2)) 6 (u9.1 3)) 12 (u9.1 4)) (vp_updL j 7 (u9.2.1 0)))), ((r 0), .inl (cI, 1800, .inl f0))]) u)) A) args s 0 0 A) (F0 m 334 ls []) := by
                        intro   H locs ls hP hD hS hl
                        refine lv_aload_n hx hb dX7_ahead_334 rfl (lv_at hl 0 rfl) ?_
                        refine lv_iload_n hx hb dX7_ahead_335 rfl (lv_at hl 1 rfl) ?_
                        refine k_put (D := (dC, dI)) (ci := 7) (v := .int j204_L1) (C := RX7) (T := TX7) (N := 92) (ws' := [(h, .inr (7, oM r (upd (upd (upd (upd (upd i 3 j186_S0) 4 j5_L1) 5 j204_L1) 6 j204_M0_6) 12 j204_M0_12) (vp_updL j 7 j204_M0_7))), ((r 0), .inl (cI, 1800, .inl f0))]) hx hb hts hinX7 tyX7 tyX7_ok nmX7 hown hK hP hD hS 0 rfl rfl 5 (by decide) w_0 rfl rfl rfl rfl (Nat.le_of_ble_eq_true rfl) rfl dX7_ahead_336 (fun H locs hP hD hS => ?_)
                        refine lv_iload_n hx hb dX7_ahead_339 rfl (lv_at hl 2 rfl) ?_
                        have J_380 : ∀ (j380_M0_12 : Int32) (hj380_M0_12 : iR j380_M0_12 (-1) 1599) (H : Heap) (locs : List Loc) (ls : Array Slot), va_P (dC, dI) vwCl [(h, .inr (7, oM r (upd (upd (upd (upd (upd i 3 j186_S0) 4 j5_L1) 5 j204_L1) 6 j204_M0_6) 12 j380_M0_12) (vp_updL j 7 j204_M0_7))), ((r 0), .inl (cI, 1800, .inl f0))] H → va_D A [(h, .inr (7, oM r (upd (upd (upd (upd (upd i 3 j186_S0) 4 j5_L1) 5 j204_L1) 6 j204_M0_6) 12 j380_M0_12) (vp_updL j 7 j204_M0_7))), ((r 0), .inl (cI, 1800, .inl f0))] → va_S A s.heap H locs → lv_has ls 6 [] → W p l e ({ frames := 2, cells := 0, slots := 0, locals := 62 }) s m args below meth c H locs 0 0 (MQ below (va_Qv (fun (u9 : SU) => (iR (u9.1 0) 0 3) ∧ (iR (u9.1 1) 0 1600) ∧ (iR (u9.1 2) 0 1600) ∧ (iR (u9.1 4) (-1) 1599)) (fun u => k_B (dC, dI) vwCl (tyy cI cJ cZ cM) A ((fun (u9 : SU) => [(h, .inr (7, oM r (upd (upd (upd (upd (upd i 3 (u9.1 0)) 4 (u9.1 1)) 5 (u9.1 2)) 6 (u9.1 3)) 12 (u9.1 4)) (vp_updL j 7 (u9.2.1 0)))), ((r 0), .inl (cI, 1800, .inl f0))]) u)) A) args s 0 0 A) (F0 m 380 ls []) := by
                          intro j380_M0_12 hj380_M0_12 H locs ls hP hD hS hl
                          exact k_rv B hP hD hS dX7_ahead_380 ((fun k9 => match k9 with | 0 => j186_S0 | 1 => j5_L1 | 2 => j204_L1 | 3 => j204_M0_6 | 4 => j380_M0_12 | _ => 0), (fun k9 => match k9 with | 0 => j204_M0_7 | _ => 0), (fun _ => (fun _ => 0)), (fun _ => (fun _ => 0)), (fun _ => 0)) [0, 1] rfl rfl (Nat.le_of_ble_eq_true rfl) (Nat.le_of_ble_eq_true rfl) ⟨(iR_w hj186_S0 (by decide +kernel)), (iR_w f_70_1 (by decide +kernel)), hj204_L1, hj380_M0_12⟩
                        refine lv_if_eq (tgt := 380) hx hb dX7_ahead_340 (by decide) (fun c_340 => ?_) (fun c_340 => ?_)
                        · have c_340 : r_76 = 0 := c_340
                          have f_380_1 : iR r_76 0 0 := iR_eqL c_340 g_76_0 (iR_c (n := 0) (by decide +kernel) (by decide +kernel)) (by decide +kernel)
                          exact J_380 j204_M0_12 hj204_M0_12 H locs ls hP hD hS (lv_sub hl [] rfl)
                        · have c_340 : ¬ r_76 = 0 := c_340
                          have f_343_1 : iR r_76 1 1 := iR_neL c_340 g_76_0 (iR_c (n := 0) (by decide +kernel) (by decide +kernel)) (by decide +kernel)
                          refine lv_iload hx hb dX7_ahead_343 (lv_at hl 4 rfl) ?_
                          refine lv_bipush (v := 8) hx hb dX7_ahead_345 (by decide +kernel) ?_
                          refine lv_icmp_gt (tgt := 380) hx hb dX7_ahead_347 (by decide) (fun c_347 => ?_) (fun c_347 => ?_)
                          · have c_347 : 8 < j204_L5 := c_347
                            have f_380_2 : iR j204_L5 9 2147483647 := iR_ltR c_347 (iR_c (n := 8) (by decide +kernel) (by decide +kernel)) (iR_top _) (by decide +kernel)
                            exact J_380 j204_M0_12 hj204_M0_12 H locs ls hP hD hS (lv_sub hl [] rfl)
                          · have c_347 : j204_L5 ≤ 8 := i_nlt c_347
                            have f_350_2 : iR j204_L5 (-2147483648) 8 := iR_leL c_347 (iR_top _) (iR_c (n := 8) (by decide +kernel) (by decide +kernel)) (by decide +kernel)
                            refine lv_aload_n hx hb dX7_ahead_350 rfl (lv_at hl 0 rfl) ?_
                            refine k_get (D := (dC, dI)) (ci := 7) (v := .int j204_M0_12) (C := RX7) (T := TX7) (N := 92) hx hb hts hinX7 hown hK hP 0 rfl rfl 12 (by decide) w_4 rfl rfl dX7_ahead_351 ?_
                            refine lv_aload_n hx hb dX7_ahead_354 rfl (lv_at hl 0 rfl) ?_
                            refine k_get (D := (dC, dI)) (ci := 7) (v := .int j5_L1) (C := RX7) (T := TX7) (N := 92) hx hb hts hinX7 hown hK hP 0 rfl rfl 4 (by decide) w_2 rfl rfl dX7_ahead_355 ?_
                            refine lv_iload hx hb dX7_ahead_358 (lv_at hl 3 rfl) ?_
                            refine lv_iadd hx hb dX7_ahead_360 ?_
                            refine lv_topi (fun y_360 ey_360 => ?_)
                            have f_360_3 : iR y_360 4 1605 := iR_add ey_360 f_70_1 hj199_S0 (by decide +kernel)
                            refine lv_icmp_ne (tgt := 380) hx hb dX7_ahead_361 (by decide) (fun c_361 => ?_) (fun c_361 => ?_)
                            · have c_361 : ¬ j204_M0_12 = y_360 := c_361
                              exact J_380 j204_M0_12 hj204_M0_12 H locs ls hP hD hS (lv_sub hl [] rfl)
                            · have c_361 : j204_M0_12 = y_360 := c_361
                              have f_364_4 : iR j204_M0_12 4 1599 := iR_eqL c_361 hj204_M0_12 f_360_3 (by decide +kernel)
                              have f_364_5 : iR y_360 4 1599 := iR_eqR c_361 hj204_M0_12 f_360_3 (by decide +kernel)
                              refine lv_aload_n hx hb dX7_ahead_364 rfl (lv_at hl 0 rfl) ?_
                              refine lv_aload_n hx hb dX7_ahead_365 rfl (lv_at hl 0 rfl) ?_
                              refine k_get (D := (dC, dI)) (ci := 7) (v := .long j204_M0_7) (C := RX7) (T := TX7) (N := 92) hx hb hts hinX7 hown hK hP 0 rfl rfl 7 (by decide) w_7 rfl rfl dX7_ahead_366 ?_
                              refine k_ci (wc := []) (wr := [(h, .inr (7, oM r (upd (upd (upd (upd (upd i 3 j186_S0) 4 j5_L1) 5 j204_L1) 6 j204_M0_6) 12 j204_M0_12) (vp_updL j 7 j204_M0_7))), ((r 0), .inl (cI, 1800, .inl f0))]) (fun hPc hDc hFc => va_runV (As := [.long j204_M0_7]) (rest := []) ⟨hx, hb, hml, hown, hts⟩ (s_X7_isOwn_v1 l dC dI cI cJ cZ cM h j204_M0_7 H.size) (cwV 1 hts gX7_ahead_X7_isOwn rfl rfl rfl (by decide +kernel) ⟨(Nat.le_of_ble_eq_true rfl), (Nat.le_of_ble_eq_true rfl)⟩) (k_pV hPc hDc hK hN hC hS hFc hP (q0 := 0) (ci := 7) rfl rfl) rfl rfl hl.1 rfl (lv_room (Nat.le_of_ble_eq_true rfl)) dX7_ahead_369 ⟨(Nat.le_of_ble_eq_true rfl), (Nat.le_of_ble_eq_true rfl)⟩) hP hD hS hA [] [0, 1] rfl rfl rfl rfl (by decide) (fun _ => rfl) 0 0 rfl rfl (fun r_369 u_369 H locs hw hP hD hS => ?_)
                              obtain g_369_0 := hw
                              have hP : va_P (dC, dI) vwCl [(h, .inr (7, oM r (upd (upd (upd (upd (upd i 3 j186_S0) 4 j5_L1) 5 j204_L1) 6 j204_M0_6) 12 j204_M0_12) (vp_updL j 7 j204_M0_7))), ((r 0), .inl (cI, 1800, .inl f0))] H := hP
                              have hD : va_D A [(h, .inr (7, oM r (upd (upd (upd (upd (upd i 3 j186_S0) 4 j5_L1) 5 j204_L1) 6 j204_M0_6) 12 j204_M0_12) (vp_updL j 7 j204_M0_7))), ((r 0), .inl (cI, 1800, .inl f0))] := hD
                              refine lv_if_eq (tgt := 380) hx hb dX7_ahead_372 (by decide) (fun c_372 => ?_) (fun c_372 => ?_)
                              · have c_372 : r_369 = 0 := c_372
                                have f_380_6 : iR r_369 0 0 := iR_eqL c_372 g_369_0 (iR_c (n := 0) (by decide +kernel) (by decide +kernel)) (by decide +kernel)
                                exact J_380 j204_M0_12 (iR_w f_364_4 (by decide +kernel)) H locs ls hP hD hS (lv_sub hl [] rfl)
                              · have c_372 : ¬ r_369 = 0 := c_372
                                have f_375_6 : iR r_369 1 1 := iR_neL c_372 g_369_0 (iR_c (n := 0) (by decide +kernel) (by decide +kernel)) (by decide +kernel)
                                refine lv_aload_n hx hb dX7_ahead_375 rfl (lv_at hl 0 rfl) ?_
                                refine lv_iconst (v := (-1)) hx hb dX7_ahead_376 (by decide +kernel) ?_
                                refine k_put (D := (dC, dI)) (ci := 7) (v := .int (-1)) (C := RX7) (T := TX7) (N := 92) (ws' := [(h, .inr (7, oM r (upd (upd (upd (upd (upd i 3 j186_S0) 4 j5_L1) 5 j204_L1) 6 j204_M0_6) 12 (-1)) (vp_updL j 7 j204_M0_7))), ((r 0), .inl (cI, 1800, .inl f0))]) hx hb hts hinX7 tyX7 tyX7_ok nmX7 hown hK hP hD hS 0 rfl rfl 12 (by decide) w_4 rfl rfl rfl rfl (Nat.le_of_ble_eq_true rfl) rfl dX7_ahead_377 (fun H locs hP hD hS => ?_)
                                exact J_380 (-1) (iR_c (n := (-1)) (by decide +kernel) (by decide +kernel)) H locs ls hP hD hS (lv_sub hl [] rfl)
                      refine lv_icmp_ge (tgt := 334) hx hb dX7_ahead_209 (by decide) (fun c_209 => ?_) (fun c_209 => ?_)
                      · have c_209 : (i 2) ≤ j204_L1 := c_209
                        have f_334_1 : iR j204_L1 1 1600 := iR_leR c_209 f_70_2 hj204_L1 (by decide +kernel)
                        exact J_334   H locs ls hP hD hS (lv_sub hl [0, 1, 2, 4, 5] rfl)
                      · have c_209 : j204_L1 < (i 2) := i_nle c_209
                        have f_212_1 : iR j204_L1 0 1599 := iR_ltL c_209 hj204_L1 f_70_2 (by decide +kernel)
                        refine lv_iload_n hx hb dX7_ahead_212 rfl (lv_at hl 2 rfl) ?_
                        have J_243 : ∀  (k243_0 : iR (f0 j204_L1.toNatClampNeg) 0 255) (H : Heap) (locs : List Loc) (ls : Array Slot), va_P (dC, dI) vwCl [(h, .inr (7, oM r (upd (upd (upd (upd (upd i 3 j186_S0) 4 j5_L1) 5 y_153) 6 j204_M0_6) 12 j204_M0_12) (vp_updL j 7 j204_M0_7))), ((r 0), .inl (cI, 1800, .inl f0))] H → va_D A [(h, .inr (7, oM r (upd (upd (upd (upd (upd i 3 j186_S0) 4 j5_L1) 5 y_153) 6 j204_M0_6) 12 j204_M0_12) (vp_updL j 7 j204_M0_7))), ((r 0), .inl (cI, 1800, .inl f0))] → va_S A s.heap H locs → lv_has ls 6 [(0, .ref h), (1, .int j204_L1), (2, .int r_76), (3, .int r_86), (4, .int j199_S0), (5, .int j204_L5)] → W p l e ({ frames := 2, cells := 0, slots := 0, locals := 62 }) s m args below meth c H locs 0 0 (MQ below (va_Qv (fun (u9 : SU) => (iR (u9.1 0) 0 3) ∧ (iR (u9.1 1) 0 1600) ∧ (iR (u9.1 2) 0 1600) ∧ (iR (u9.1 4) (-1) 1599)) (fun u => k_B (dC, dI) vwCl (tyy cI cJ cZ cM) A ((fun (u9 : SU) => [(h, .inr (7, oM r (upd (upd (upd (upd (upd i 3 (u9.1 0)) 4 (u9.1 1)) 5 (u9.1 2)) 6 (u9.1 3)) 12 (u9.1 4)) (vp_updL j 7 (u9.2.1 0)))), ((r 0), .inl (cI, 1800, .inl f0))]) u)) A) args s 0 0 A) (F0 m 243 ls []) := by
                          intro  k243_0 H locs ls hP hD hS hl
                          refine lv_iload hx hb dX7_ahead_243 (lv_at hl 5 rfl) ?_
                          refine lv_iload hx hb dX7_ahead_245 (lv_at hl 4 rfl) ?_
                          have J_263 : ∀ (j263_M0_12 : Int32) (hj263_M0_12 : iR j263_M0_12 (-1) 1599) (H : Heap) (locs : List Loc) (ls : Array Slot), va_P (dC, dI) vwCl [(h, .inr (7, oM r (upd (upd (upd (upd (upd i 3 j186_S0) 4 j5_L1) 5 y_153) 6 j204_M0_6) 12 j263_M0_12) (vp_updL j 7 j204_M0_7))), ((r 0), .inl (cI, 1800, .inl f0))] H → va_D A [(h, .inr (7, oM r (upd (upd (upd (upd (upd i 3 j186_S0) 4 j5_L1) 5 y_153) 6 j204_M0_6) 12 j263_M0_12) (vp_updL j 7 j204_M0_7))), ((r 0), .inl (cI, 1800, .inl f0))] → va_S A s.heap H locs → lv_has ls 6 [(0, .ref h), (1, .int j204_L1), (2, .int r_76), (3, .int r_86), (4, .int j199_S0), (5, .int j204_L5)] → W p l e ({ frames := 2, cells := 0, slots := 0, locals := 62 }) s m args below meth c H locs 0 0 (MQ below (va_Qv (fun (u9 : SU) => (iR (u9.1 0) 0 3) ∧ (iR (u9.1 1) 0 1600) ∧ (iR (u9.1 2) 0 1600) ∧ (iR (u9.1 4) (-1) 1599)) (fun u => k_B (dC, dI) vwCl (tyy cI cJ cZ cM) A ((fun (u9 : SU) => [(h, .inr (7, oM r (upd (upd (upd (upd (upd i 3 (u9.1 0)) 4 (u9.1 1)) 5 (u9.1 2)) 6 (u9.1 3)) 12 (u9.1 4)) (vp_updL j 7 (u9.2.1 0)))), ((r 0), .inl (cI, 1800, .inl f0))]) u)) A) args s 0 0 A) (F0 m 263 ls []) := by
                            intro j263_M0_12 hj263_M0_12 H locs ls hP hD hS hl
                            refine lv_iload hx hb dX7_ahead_263 (lv_at hl 5 rfl) ?_
                            refine lv_bipush (v := 8) hx hb dX7_ahead_265 (by decide +kernel) ?_
                            have J_293 : ∀ (j293_M0_7 : Int64)  (H : Heap) (locs : List Loc) (ls : Array Slot), va_P (dC, dI) vwCl [(h, .inr (7, oM r (upd (upd (upd (upd (upd i 3 j186_S0) 4 j5_L1) 5 y_153) 6 j204_M0_6) 12 j263_M0_12) (vp_updL j 7 j293_M0_7))), ((r 0), .inl (cI, 1800, .inl f0))] H → va_D A [(h, .inr (7, oM r (upd (upd (upd (upd (upd i 3 j186_S0) 4 j5_L1) 5 y_153) 6 j204_M0_6) 12 j263_M0_12) (vp_updL j 7 j293_M0_7))), ((r 0), .inl (cI, 1800, .inl f0))] → va_S A s.heap H locs → lv_has ls 6 [(0, .ref h), (1, .int j204_L1), (2, .int r_76), (3, .int r_86), (4, .int j199_S0), (5, .int j204_L5)] → W p l e ({ frames := 2, cells := 0, slots := 0, locals := 62 }) s m args below meth c H locs 0 0 (MQ below (va_Qv (fun (u9 : SU) => (iR (u9.1 0) 0 3) ∧ (iR (u9.1 1) 0 1600) ∧ (iR (u9.1 2) 0 1600) ∧ (iR (u9.1 4) (-1) 1599)) (fun u => k_B (dC, dI) vwCl (tyy cI cJ cZ cM) A ((fun (u9 : SU) => [(h, .inr (7, oM r (upd (upd (upd (upd (upd i 3 (u9.1 0)) 4 (u9.1 1)) 5 (u9.1 2)) 6 (u9.1 3)) 12 (u9.1 4)) (vp_updL j 7 (u9.2.1 0)))), ((r 0), .inl (cI, 1800, .inl f0))]) u)) A) args s 0 0 A) (F0 m 293 ls []) := by
                              intro j293_M0_7  H locs ls hP hD hS hl
                              refine lv_iload hx hb dX7_ahead_293 (lv_at hl 5 rfl) ?_
                              refine lv_iload hx hb dX7_ahead_295 (lv_at hl 4 rfl) ?_
                              have J_325 : ∀ (j325_M0_6 : Int32)  (H : Heap) (locs : List Loc) (ls : Array Slot), va_P (dC, dI) vwCl [(h, .inr (7, oM r (upd (upd (upd (upd (upd i 3 j186_S0) 4 j5_L1) 5 y_153) 6 j325_M0_6) 12 j263_M0_12) (vp_updL j 7 j293_M0_7))), ((r 0), .inl (cI, 1800, .inl f0))] H → va_D A [(h, .inr (7, oM r (upd (upd (upd (upd (upd i 3 j186_S0) 4 j5_L1) 5 y_153) 6 j325_M0_6) 12 j263_M0_12) (vp_updL j 7 j293_M0_7))), ((r 0), .inl (cI, 1800, .inl f0))] → va_S A s.heap H locs → lv_has ls 6 [(0, .ref h), (1, .int j204_L1), (2, .int r_76), (3, .int r_86), (4, .int j199_S0), (5, .int j204_L5)] → W p l e ({ frames := 2, cells := 0, slots := 0, locals := 62 }) s m args below meth c H locs 0 0 (MQ below (va_Qv (fun (u9 : SU) => (iR (u9.1 0) 0 3) ∧ (iR (u9.1 1) 0 1600) ∧ (iR (u9.1 2) 0 1600) ∧ (iR (u9.1 4) (-1) 1599)) (fun u => k_B (dC, dI) vwCl (tyy cI cJ cZ cM) A ((fun (u9 : SU) => [(h, .inr (7, oM r (upd (upd (upd (upd (upd i 3 (u9.1 0)) 4 (u9.1 1)) 5 (u9.1 2)) 6 (u9.1 3)) 12 (u9.1 4)) (vp_updL j 7 (u9.2.1 0)))), ((r 0), .inl (cI, 1800, .inl f0))]) u)) A) args s 0 0 A) (F0 m 325 ls []) := by
                                intro j325_M0_6  H locs ls hP hD hS hl
                                obtain ⟨y_325, ey_325⟩ : ∃ y : Int32, y = j204_L5 + 1 := ⟨_, rfl⟩
                                refine lv_iinc (v := y_325) (lv' := [(5, .int y_325), (0, .ref h), (1, .int j204_L1), (2, .int r_76), (3, .int r_86), (4, .int j199_S0)]) hx hb dX7_ahead_325 hl (k := 5) rfl ey_325.symm (by decide) rfl (fun ls hl => ?_)
                                obtain ⟨y_328, ey_328⟩ : ∃ y : Int32, y = j204_L1 + 1 := ⟨_, rfl⟩
                                refine lv_iinc (v := y_328) (lv' := [(1, .int y_328), (5, .int y_325), (0, .ref h), (2, .int r_76), (3, .int r_86), (4, .int j199_S0)]) hx hb dX7_ahead_328 hl (k := 2) rfl ey_328.symm (by decide) rfl (fun ls hl => ?_)
                                have f_328_1 : iR y_328 1 1600 := iR_add ey_328 f_212_1 (iR_c (n := 1) (by decide +kernel) (by decide +kernel)) (by decide +kernel)
                                refine lv_goto (tgt := 204) hx hb dX7_ahead_331 (by decide) ?_
                                exact ih_204 y_328 y_325 j325_M0_6 j293_M0_7 j263_M0_12 (iR_w f_328_1 (by decide +kernel)) hj263_M0_12 (m_up (B := 1600) hm_204 ey_328 f_212_1 (by decide +kernel)) H locs ls hP hD hS (lv_sub hl [2, 0, 3, 4, 5, 1] rfl)
                              refine lv_icmp_ge (tgt := 325) hx hb dX7_ahead_297 (by decide) (fun c_297 => ?_) (fun c_297 => ?_)
                              · have c_297 : j199_S0 ≤ j204_L5 := c_297
                                have f_325_1 : iR j204_L5 4 2147483647 := iR_leR c_297 hj199_S0 (iR_top _) (by decide +kernel)
                                exact J_325 j204_M0_6  H locs ls hP hD hS (lv_sub hl [0, 1, 2, 3, 4, 5] rfl)
                              · have c_297 : j204_L5 < j199_S0 := i_nle c_297
                                have f_300_1 : iR j204_L5 (-2147483648) 5 := iR_ltL c_297 (iR_top _) hj199_S0 (by decide +kernel)
                                refine lv_iload_n hx hb dX7_ahead_300 rfl (lv_at hl 3 rfl) ?_
                                refine lv_if_eq (tgt := 325) hx hb dX7_ahead_301 (by decide) (fun c_301 => ?_) (fun c_301 => ?_)
                                · have c_301 : r_86 = 0 := c_301
                                  have f_325_2 : iR r_86 0 0 := iR_eqL c_301 g_86_0 (iR_c (n := 0) (by decide +kernel) (by decide +kernel)) (by decide +kernel)
                                  exact J_325 j204_M0_6  H locs ls hP hD hS (lv_sub hl [0, 1, 2, 3, 4, 5] rfl)
                                · have c_301 : ¬ r_86 = 0 := c_301
                                  have f_304_2 : iR r_86 1 1 := iR_neL c_301 g_86_0 (iR_c (n := 0) (by decide +kernel) (by decide +kernel)) (by decide +kernel)
                                  refine lv_aload_n hx hb dX7_ahead_304 rfl (lv_at hl 0 rfl) ?_
                                  refine lv_bipush (v := 10) hx hb dX7_ahead_305 (by decide +kernel) ?_
                                  refine lv_aload_n hx hb dX7_ahead_307 rfl (lv_at hl 0 rfl) ?_
                                  refine k_get (D := (dC, dI)) (ci := 7) (v := .int j204_M0_6) (C := RX7) (T := TX7) (N := 92) hx hb hts hinX7 hown hK hP 0 rfl rfl 6 (by decide) w_6 rfl rfl dX7_ahead_308 ?_
                                  refine lv_imul hx hb dX7_ahead_311 ?_
                                  refine lv_topi (fun y_311 ey_311 => ?_)
                                  refine lv_aload_n hx hb dX7_ahead_312 rfl (lv_at hl 0 rfl) ?_
                                  refine k_get (D := (dC, dI)) (ci := 7) (v := .ref (r 0)) (C := RX7) (T := TX7) (N := 92) hx hb hts hinX7 hown hK hP 0 rfl rfl 0 (by decide) w_5 rfl rfl dX7_ahead_313 ?_
                                  refine lv_iload_n hx hb dX7_ahead_316 rfl (lv_at hl 1 rfl) ?_
                                  refine va_iald hx hb hK hP 1 0 rfl rfl (iR_vp f_212_1 (by decide +kernel)) dX7_ahead_317 ?_
                                  refine lv_iadd hx hb dX7_ahead_318 ?_
                                  refine lv_topi (fun y_318 ey_318 => ?_)
                                  refine lv_bipush (v := 48) hx hb dX7_ahead_319 (by decide +kernel) ?_
                                  refine lv_isub hx hb dX7_ahead_321 ?_
                                  refine lv_topi (fun y_321 ey_321 => ?_)
                                  refine k_put (D := (dC, dI)) (ci := 7) (v := .int y_321) (C := RX7) (T := TX7) (N := 92) (ws' := [(h, .inr (7, oM r (upd (upd (upd (upd (upd i 3 j186_S0) 4 j5_L1) 5 y_153) 6 y_321) 12 j263_M0_12) (vp_updL j 7 j293_M0_7))), ((r 0), .inl (cI, 1800, .inl f0))]) hx hb hts hinX7 tyX7 tyX7_ok nmX7 hown hK hP hD hS 0 rfl rfl 6 (by decide) w_6 rfl rfl rfl rfl (Nat.le_of_ble_eq_true rfl) rfl dX7_ahead_322 (fun H locs hP hD hS => ?_)
                                  exact J_325 y_321  H locs ls hP hD hS (lv_sub hl [0, 1, 2, 3, 4, 5] rfl)
                            refine lv_icmp_ge (tgt := 293) hx hb dX7_ahead_267 (by decide) (fun c_267 => ?_) (fun c_267 => ?_)
                            · have c_267 : 8 ≤ j204_L5 := c_267
                              have f_293_1 : iR j204_L5 8 2147483647 := iR_leR c_267 (iR_c (n := 8) (by decide +kernel) (by decide +kernel)) (iR_top _) (by decide +kernel)
                              exact J_293 j204_M0_7  H locs ls hP hD hS (lv_sub hl [0, 1, 2, 3, 4, 5] rfl)
                            · have c_267 : j204_L5 < 8 := i_nle c_267
                              have f_270_1 : iR j204_L5 (-2147483648) 7 := iR_ltL c_267 (iR_top _) (iR_c (n := 8) (by decide +kernel) (by decide +kernel)) (by decide +kernel)
                              refine lv_iload_n hx hb dX7_ahead_270 rfl (lv_at hl 2 rfl) ?_
                              refine lv_if_eq (tgt := 293) hx hb dX7_ahead_271 (by decide) (fun c_271 => ?_) (fun c_271 => ?_)
                              · have c_271 : r_76 = 0 := c_271
                                have f_293_2 : iR r_76 0 0 := iR_eqL c_271 g_76_0 (iR_c (n := 0) (by decide +kernel) (by decide +kernel)) (by decide +kernel)
                                exact J_293 j204_M0_7  H locs ls hP hD hS (lv_sub hl [0, 1, 2, 3, 4, 5] rfl)
                              · have c_271 : ¬ r_76 = 0 := c_271
                                have f_274_2 : iR r_76 1 1 := iR_neL c_271 g_76_0 (iR_c (n := 0) (by decide +kernel) (by decide +kernel)) (by decide +kernel)
                                refine lv_aload_n hx hb dX7_ahead_274 rfl (lv_at hl 0 rfl) ?_
                                refine lv_aload_n hx hb dX7_ahead_275 rfl (lv_at hl 0 rfl) ?_
                                refine k_get (D := (dC, dI)) (ci := 7) (v := .long j204_M0_7) (C := RX7) (T := TX7) (N := 92) hx hb hts hinX7 hown hK hP 0 rfl rfl 7 (by decide) w_7 rfl rfl dX7_ahead_276 ?_
                                refine lv_bipush (v := 8) hx hb dX7_ahead_279 (by decide +kernel) ?_
                                refine lv_lshl (v := j204_M0_7 <<< ((8 : Int32).toInt64 &&& 63)) hx hb dX7_ahead_281 rfl ?_
                                refine lv_topl (fun y_281 ey_281 => ?_)
                                refine lv_aload_n hx hb dX7_ahead_282 rfl (lv_at hl 0 rfl) ?_
                                refine k_get (D := (dC, dI)) (ci := 7) (v := .ref (r 0)) (C := RX7) (T := TX7) (N := 92) hx hb hts hinX7 hown hK hP 0 rfl rfl 0 (by decide) w_5 rfl rfl dX7_ahead_283 ?_
                                refine lv_iload_n hx hb dX7_ahead_286 rfl (lv_at hl 1 rfl) ?_
                                refine va_iald hx hb hK hP 1 0 rfl rfl (iR_vp f_212_1 (by decide +kernel)) dX7_ahead_287 ?_
                                refine lv_i2l (v := (f0 j204_L1.toNatClampNeg).toInt64) hx hb dX7_ahead_288 rfl ?_
                                refine lv_topl (fun y_288 ey_288 => ?_)
                                refine lv_lor hx hb dX7_ahead_289 ?_
                                refine lv_topl (fun y_289 ey_289 => ?_)
                                refine k_put (D := (dC, dI)) (ci := 7) (v := .long y_289) (C := RX7) (T := TX7) (N := 92) (ws' := [(h, .inr (7, oM r (upd (upd (upd (upd (upd i 3 j186_S0) 4 j5_L1) 5 y_153) 6 j204_M0_6) 12 j263_M0_12) (vp_updL j 7 y_289))), ((r 0), .inl (cI, 1800, .inl f0))]) hx hb hts hinX7 tyX7 tyX7_ok nmX7 hown hK hP hD hS 0 rfl rfl 7 (by decide) w_7 rfl rfl rfl rfl (Nat.le_of_ble_eq_true rfl) rfl dX7_ahead_290 (fun H locs hP hD hS => ?_)
                                exact J_293 y_289  H locs ls hP hD hS (lv_sub hl [0, 1, 2, 3, 4, 5] rfl)
                          refine lv_icmp_ne (tgt := 263) hx hb dX7_ahead_247 (by decide) (fun c_247 => ?_) (fun c_247 => ?_)
                          · have c_247 : ¬ j204_L5 = j199_S0 := c_247
                            exact J_263 j204_M0_12 hj204_M0_12 H locs ls hP hD hS (lv_sub hl [0, 1, 2, 3, 4, 5] rfl)
                          · have c_247 : j204_L5 = j199_S0 := c_247
                            have f_250_1 : iR j204_L5 4 6 := iR_eqL c_247 (iR_top _) hj199_S0 (by decide +kernel)
                            refine lv_aload_n hx hb dX7_ahead_250 rfl (lv_at hl 0 rfl) ?_
                            refine k_get (D := (dC, dI)) (ci := 7) (v := .int j204_M0_12) (C := RX7) (T := TX7) (N := 92) hx hb hts hinX7 hown hK hP 0 rfl rfl 12 (by decide) w_4 rfl rfl dX7_ahead_251 ?_
                            refine lv_iconst (v := (-1)) hx hb dX7_ahead_254 (by decide +kernel) ?_
                            refine lv_icmp_ne (tgt := 263) hx hb dX7_ahead_255 (by decide) (fun c_255 => ?_) (fun c_255 => ?_)
                            · have c_255 : ¬ j204_M0_12 = (-1) := c_255
                              have f_263_2 : iR j204_M0_12 0 1599 := iR_neL c_255 hj204_M0_12 (iR_c (n := (-1)) (by decide +kernel) (by decide +kernel)) (by decide +kernel)
                              exact J_263 j204_M0_12 (iR_w f_263_2 (by decide +kernel)) H locs ls hP hD hS (lv_sub hl [0, 1, 2, 3, 4, 5] rfl)
                            · have c_255 : j204_M0_12 = (-1) := c_255
                              have f_258_2 : iR j204_M0_12 (-1) (-1) := iR_eqL c_255 hj204_M0_12 (iR_c (n := (-1)) (by decide +kernel) (by decide +kernel)) (by decide +kernel)
                              refine lv_aload_n hx hb dX7_ahead_258 rfl (lv_at hl 0 rfl) ?_
                              refine lv_iload_n hx hb dX7_ahead_259 rfl (lv_at hl 1 rfl) ?_
                              refine k_put (D := (dC, dI)) (ci := 7) (v := .int j204_L1) (C := RX7) (T := TX7) (N := 92) (ws' := [(h, .inr (7, oM r (upd (upd (upd (upd (upd i 3 j186_S0) 4 j5_L1) 5 y_153) 6 j204_M0_6) 12 j204_L1) (vp_updL j 7 j204_M0_7))), ((r 0), .inl (cI, 1800, .inl f0))]) hx hb hts hinX7 tyX7 tyX7_ok nmX7 hown hK hP hD hS 0 rfl rfl 12 (by decide) w_4 rfl rfl rfl rfl (Nat.le_of_ble_eq_true rfl) rfl dX7_ahead_260 (fun H locs hP hD hS => ?_)
                              exact J_263 j204_L1 (iR_w f_212_1 (by decide +kernel)) H locs ls hP hD hS (lv_sub hl [0, 1, 2, 3, 4, 5] rfl)
                        refine lv_if_eq (tgt := 231) hx hb dX7_ahead_213 (by decide) (fun c_213 => ?_) (fun c_213 => ?_)
                        · have c_213 : r_76 = 0 := c_213
                          have f_231_2 : iR r_76 0 0 := iR_eqL c_213 g_76_0 (iR_c (n := 0) (by decide +kernel) (by decide +kernel)) (by decide +kernel)
                          refine lv_aload_n hx hb dX7_ahead_231 rfl (lv_at hl 0 rfl) ?_
                          refine k_get (D := (dC, dI)) (ci := 7) (v := .ref (r 0)) (C := RX7) (T := TX7) (N := 92) hx hb hts hinX7 hown hK hP 0 rfl rfl 0 (by decide) w_5 rfl rfl dX7_ahead_232 ?_
                          refine lv_iload_n hx hb dX7_ahead_235 rfl (lv_at hl 1 rfl) ?_
                          refine va_iald hx hb hK hP 1 0 rfl rfl (iR_vp f_212_1 (by decide +kernel)) dX7_ahead_236 ?_
                          have f_236_3 : iR (f0 j204_L1.toNatClampNeg) 0 255 := hf0 _
                          refine k_ci (wc := []) (wr := [(h, .inr (7, oM r (upd (upd (upd (upd (upd i 3 j186_S0) 4 j5_L1) 5 y_153) 6 j204_M0_6) 12 j204_M0_12) (vp_updL j 7 j204_M0_7))), ((r 0), .inl (cI, 1800, .inl f0))]) (fun hPc hDc hFc => va_runS (As := [.int (f0 j204_L1.toNatClampNeg)]) (rest := []) ⟨hx, hb, hml, hown, hts⟩ (s_X7_isDigit_v0 l dC dI cI cJ cZ cM (f0 j204_L1.toNatClampNeg) H.size) (va_cwS 1 hts gX7_ahead_X7_isDigit rfl rfl rfl (by decide +kernel) ⟨(Nat.le_of_ble_eq_true rfl), (Nat.le_of_ble_eq_true rfl)⟩) (k_pS hPc hDc hK hN hC hS hFc) rfl rfl hl.1 rfl (lv_room (Nat.le_of_ble_eq_true rfl)) dX7_ahead_237 ⟨(Nat.le_of_ble_eq_true rfl), (Nat.le_of_ble_eq_true rfl)⟩) hP hD hS hA [] [0, 1] rfl rfl rfl rfl (by decide) (fun _ => rfl) 0 0 rfl rfl (fun r_237 u_237 H locs hw hP hD hS => ?_)
                          obtain g_237_0 := hw
                          have hP : va_P (dC, dI) vwCl [(h, .inr (7, oM r (upd (upd (upd (upd (upd i 3 j186_S0) 4 j5_L1) 5 y_153) 6 j204_M0_6) 12 j204_M0_12) (vp_updL j 7 j204_M0_7))), ((r 0), .inl (cI, 1800, .inl f0))] H := hP
                          have hD : va_D A [(h, .inr (7, oM r (upd (upd (upd (upd (upd i 3 j186_S0) 4 j5_L1) 5 y_153) 6 j204_M0_6) 12 j204_M0_12) (vp_updL j 7 j204_M0_7))), ((r 0), .inl (cI, 1800, .inl f0))] := hD
                          refine lv_if_eq (tgt := 334) hx hb dX7_ahead_240 (by decide) (fun c_240 => ?_) (fun c_240 => ?_)
                          · have c_240 : r_237 = 0 := c_240
                            have f_334_4 : iR r_237 0 0 := iR_eqL c_240 g_237_0 (iR_c (n := 0) (by decide +kernel) (by decide +kernel)) (by decide +kernel)
                            exact J_334   H locs ls hP hD hS (lv_sub hl [0, 1, 2, 4, 5] rfl)
                          · have c_240 : ¬ r_237 = 0 := c_240
                            have f_243_4 : iR r_237 1 1 := iR_neL c_240 g_237_0 (iR_c (n := 0) (by decide +kernel) (by decide +kernel)) (by decide +kernel)
                            exact J_243  f_236_3 H locs ls hP hD hS (lv_sub hl [0, 1, 2, 3, 4, 5] rfl)
                        · have c_213 : ¬ r_76 = 0 := c_213
                          have f_216_2 : iR r_76 1 1 := iR_neL c_213 g_76_0 (iR_c (n := 0) (by decide +kernel) (by decide +kernel)) (by decide +kernel)
                          refine lv_aload_n hx hb dX7_ahead_216 rfl (lv_at hl 0 rfl) ?_
                          refine k_get (D := (dC, dI)) (ci := 7) (v := .ref (r 0)) (C := RX7) (T := TX7) (N := 92) hx hb hts hinX7 hown hK hP 0 rfl rfl 0 (by decide) w_5 rfl rfl dX7_ahead_217 ?_
                          refine lv_iload_n hx hb dX7_ahead_220 rfl (lv_at hl 1 rfl) ?_
                          refine va_iald hx hb hK hP 1 0 rfl rfl (iR_vp f_212_1 (by decide +kernel)) dX7_ahead_221 ?_
                          have f_221_3 : iR (f0 j204_L1.toNatClampNeg) 0 255 := hf0 _
                          refine k_ci (wc := []) (wr := [(h, .inr (7, oM r (upd (upd (upd (upd (upd i 3 j186_S0) 4 j5_L1) 5 y_153) 6 j204_M0_6) 12 j204_M0_12) (vp_updL j 7 j204_M0_7))), ((r 0), .inl (cI, 1800, .inl f0))]) (fun hPc hDc hFc => va_runS (As := [.int (f0 j204_L1.toNatClampNeg)]) (rest := []) ⟨hx, hb, hml, hown, hts⟩ (s_X7_isLetter_v0 l dC dI cI cJ cZ cM (f0 j204_L1.toNatClampNeg) H.size) (va_cwS 1 hts gX7_ahead_X7_isLetter rfl rfl rfl (by decide +kernel) ⟨(Nat.le_of_ble_eq_true rfl), (Nat.le_of_ble_eq_true rfl)⟩) (k_pS hPc hDc hK hN hC hS hFc) rfl rfl hl.1 rfl (lv_room (Nat.le_of_ble_eq_true rfl)) dX7_ahead_222 ⟨(Nat.le_of_ble_eq_true rfl), (Nat.le_of_ble_eq_true rfl)⟩) hP hD hS hA [] [0, 1] rfl rfl rfl rfl (by decide) (fun _ => rfl) 0 0 rfl rfl (fun r_222 u_222 H locs hw hP hD hS => ?_)
                          obtain g_222_0 := hw
                          have hP : va_P (dC, dI) vwCl [(h, .inr (7, oM r (upd (upd (upd (upd (upd i 3 j186_S0) 4 j5_L1) 5 y_153) 6 j204_M0_6) 12 j204_M0_12) (vp_updL j 7 j204_M0_7))), ((r 0), .inl (cI, 1800, .inl f0))] H := hP
                          have hD : va_D A [(h, .inr (7, oM r (upd (upd (upd (upd (upd i 3 j186_S0) 4 j5_L1) 5 y_153) 6 j204_M0_6) 12 j204_M0_12) (vp_updL j 7 j204_M0_7))), ((r 0), .inl (cI, 1800, .inl f0))] := hD
                          refine lv_if_eq (tgt := 334) hx hb dX7_ahead_225 (by decide) (fun c_225 => ?_) (fun c_225 => ?_)
                          · have c_225 : r_222 = 0 := c_225
                            have f_334_4 : iR r_222 0 0 := iR_eqL c_225 g_222_0 (iR_c (n := 0) (by decide +kernel) (by decide +kernel)) (by decide +kernel)
                            exact J_334   H locs ls hP hD hS (lv_sub hl [0, 1, 2, 4, 5] rfl)
                          · have c_225 : ¬ r_222 = 0 := c_225
                            have f_228_4 : iR r_222 1 1 := iR_neL c_225 g_222_0 (iR_c (n := 0) (by decide +kernel) (by decide +kernel)) (by decide +kernel)
                            refine lv_goto (tgt := 243) hx hb dX7_ahead_228 (by decide) ?_
                            exact J_243  f_221_3 H locs ls hP hD hS (lv_sub hl [0, 1, 2, 3, 4, 5] rfl)
                  refine lv_istore (lv' := [(5, .int 0), (4, .int j199_S0), (0, .ref h), (1, .int j5_L1), (2, .int r_76), (3, .int r_86)]) hx hb dX7_ahead_202 hl (by decide) rfl (fun ls hl => ?_)
                  exact J_204 _ j5_L1 0 0 0 j135_M0_12 (iR_w f_70_1 (by decide +kernel)) hj135_M0_12 (Nat.lt_succ_self _) H locs ls hP hD hS (lv_sub hl [2, 3, 4, 5, 1, 0] rfl)
                refine lv_if_eq (tgt := 198) hx hb dX7_ahead_190 (by decide) (fun c_190 => ?_) (fun c_190 => ?_)
                · have c_190 : r_76 = 0 := c_190
                  have f_198_1 : iR r_76 0 0 := iR_eqL c_190 g_76_0 (iR_c (n := 0) (by decide +kernel) (by decide +kernel)) (by decide +kernel)
                  refine lv_iconst (v := 4) hx hb dX7_ahead_198 (by decide +kernel) ?_
                  exact J_199 4 (iR_c (n := 4) (by decide +kernel) (by decide +kernel)) H locs ls hP hD hS (lv_sub hl [0, 1, 2, 3] rfl)
                · have c_190 : ¬ r_76 = 0 := c_190
                  have f_193_1 : iR r_76 1 1 := iR_neL c_190 g_76_0 (iR_c (n := 0) (by decide +kernel) (by decide +kernel)) (by decide +kernel)
                  refine lv_bipush (v := 6) hx hb dX7_ahead_193 (by decide +kernel) ?_
                  refine lv_goto (tgt := 199) hx hb dX7_ahead_195 (by decide) ?_
                  exact J_199 6 (iR_c (n := 6) (by decide +kernel) (by decide +kernel)) H locs ls hP hD hS (lv_sub hl [0, 1, 2, 3] rfl)
              refine lv_if_eq (tgt := 185) hx hb dX7_ahead_178 (by decide) (fun c_178 => ?_) (fun c_178 => ?_)
              · have c_178 : r_76 = 0 := c_178
                have f_185_1 : iR r_76 0 0 := iR_eqL c_178 g_76_0 (iR_c (n := 0) (by decide +kernel) (by decide +kernel)) (by decide +kernel)
                refine lv_iconst (v := 2) hx hb dX7_ahead_185 (by decide +kernel) ?_
                exact J_186 2 (iR_c (n := 2) (by decide +kernel) (by decide +kernel)) H locs ls hP hD hS (lv_sub hl [0, 1, 2, 3] rfl)
              · have c_178 : ¬ r_76 = 0 := c_178
                have f_181_1 : iR r_76 1 1 := iR_neL c_178 g_76_0 (iR_c (n := 0) (by decide +kernel) (by decide +kernel)) (by decide +kernel)
                refine lv_iconst (v := 1) hx hb dX7_ahead_181 (by decide +kernel) ?_
                refine lv_goto (tgt := 186) hx hb dX7_ahead_182 (by decide) ?_
                exact J_186 1 (iR_c (n := 1) (by decide +kernel) (by decide +kernel)) H locs ls hP hD hS (lv_sub hl [0, 1, 2, 3] rfl)
            refine lv_if_ne (tgt := 176) hx hb dX7_ahead_158 (by decide) (fun c_158 => ?_) (fun c_158 => ?_)
            · have c_158 : ¬ r_76 = 0 := c_158
              have f_176_2 : iR r_76 1 1 := iR_neL c_158 g_76_0 (iR_c (n := 0) (by decide +kernel) (by decide +kernel)) (by decide +kernel)
              exact J_176   H locs ls hP hD hS (lv_sub hl [0, 1, 2, 3] rfl)
            · have c_158 : r_76 = 0 := c_158
              have f_161_2 : iR r_76 0 0 := iR_eqL c_158 g_76_0 (iR_c (n := 0) (by decide +kernel) (by decide +kernel)) (by decide +kernel)
              refine lv_iload_n hx hb dX7_ahead_161 rfl (lv_at hl 3 rfl) ?_
              refine lv_if_ne (tgt := 176) hx hb dX7_ahead_162 (by decide) (fun c_162 => ?_) (fun c_162 => ?_)
              · have c_162 : ¬ r_86 = 0 := c_162
                have f_176_3 : iR r_86 1 1 := iR_neL c_162 g_86_0 (iR_c (n := 0) (by decide +kernel) (by decide +kernel)) (by decide +kernel)
                exact J_176   H locs ls hP hD hS (lv_sub hl [0, 1, 2, 3] rfl)
              · have c_162 : r_86 = 0 := c_162
                have f_165_3 : iR r_86 0 0 := iR_eqL c_162 g_86_0 (iR_c (n := 0) (by decide +kernel) (by decide +kernel)) (by decide +kernel)
                refine lv_aload_n hx hb dX7_ahead_165 rfl (lv_at hl 0 rfl) ?_
                refine lv_aload_n hx hb dX7_ahead_166 rfl (lv_at hl 0 rfl) ?_
                refine k_get (D := (dC, dI)) (ci := 7) (v := .ref (r 0)) (C := RX7) (T := TX7) (N := 92) hx hb hts hinX7 hown hK hP 0 rfl rfl 0 (by decide) w_5 rfl rfl dX7_ahead_167 ?_
                refine lv_iload_n hx hb dX7_ahead_170 rfl (lv_at hl 1 rfl) ?_
                refine va_iald hx hb hK hP 1 0 rfl rfl (iR_vp f_70_1 (by decide +kernel)) dX7_ahead_171 ?_
                refine k_put (D := (dC, dI)) (ci := 7) (v := .int (f0 j5_L1.toNatClampNeg)) (C := RX7) (T := TX7) (N := 92) (ws' := [(h, .inr (7, oM r (upd (upd (upd (upd (upd i 3 3) 4 j5_L1) 5 y_153) 6 (f0 j5_L1.toNatClampNeg)) 12 j135_M0_12) (vp_updL j 7 0))), ((r 0), .inl (cI, 1800, .inl f0))]) hx hb hts hinX7 tyX7 tyX7_ok nmX7 hown hK hP hD hS 0 rfl rfl 6 (by decide) w_6 rfl rfl rfl rfl (Nat.le_of_ble_eq_true rfl) rfl dX7_ahead_172 (fun H locs hP hD hS => ?_)
                exact k_rv B hP hD hS dX7_ahead_175 ((fun k9 => match k9 with | 0 => 3 | 1 => j5_L1 | 2 => y_153 | 3 => (f0 j5_L1.toNatClampNeg) | 4 => j135_M0_12 | _ => 0), (fun k9 => match k9 with | 0 => 0 | _ => 0), (fun _ => (fun _ => 0)), (fun _ => (fun _ => 0)), (fun _ => 0)) [0, 1] rfl rfl (Nat.le_of_ble_eq_true rfl) (Nat.le_of_ble_eq_true rfl) ⟨(iR_c (n := 3) (by decide +kernel) (by decide +kernel)), (iR_w f_70_1 (by decide +kernel)), (iR_w f_153_1 (by decide +kernel)), hj135_M0_12⟩
          have J_98 : ∀   (H : Heap) (locs : List Loc) (ls : Array Slot), va_P (dC, dI) vwCl [(h, .inr (7, oM r (upd (upd (upd (upd i 3 0) 4 j5_L1) 5 j5_L1) 12 (-1)) j)), ((r 0), .inl (cI, 1800, .inl f0))] H → va_D A [(h, .inr (7, oM r (upd (upd (upd (upd i 3 0) 4 j5_L1) 5 j5_L1) 12 (-1)) j)), ((r 0), .inl (cI, 1800, .inl f0))] → va_S A s.heap H locs → lv_has ls 6 [(0, .ref h), (1, .int j5_L1), (2, .int r_76), (3, .int r_86)] → W p l e ({ frames := 2, cells := 0, slots := 0, locals := 62 }) s m args below meth c H locs 0 0 (MQ below (va_Qv (fun (u9 : SU) => (iR (u9.1 0) 0 3) ∧ (iR (u9.1 1) 0 1600) ∧ (iR (u9.1 2) 0 1600) ∧ (iR (u9.1 4) (-1) 1599)) (fun u => k_B (dC, dI) vwCl (tyy cI cJ cZ cM) A ((fun (u9 : SU) => [(h, .inr (7, oM r (upd (upd (upd (upd (upd i 3 (u9.1 0)) 4 (u9.1 1)) 5 (u9.1 2)) 6 (u9.1 3)) 12 (u9.1 4)) (vp_updL j 7 (u9.2.1 0)))), ((r 0), .inl (cI, 1800, .inl f0))]) u)) A) args s 0 0 A) (F0 m 98 ls []) := by
            intro   H locs ls hP hD hS hl
            refine lv_iload_n hx hb dX7_ahead_98 rfl (lv_at hl 1 rfl) ?_
            refine lv_if_le (tgt := 135) hx hb dX7_ahead_99 (by decide) (fun c_99 => ?_) (fun c_99 => ?_)
            · have c_99 : j5_L1 ≤ 0 := c_99
              have f_135_1 : iR j5_L1 0 0 := iR_leL c_99 f_70_1 (iR_c (n := 0) (by decide +kernel) (by decide +kernel)) (by decide +kernel)
              exact J_135 (-1) (iR_c (n := (-1)) (by decide +kernel) (by decide +kernel)) H locs ls hP hD hS (lv_sub hl [0, 1, 2, 3] rfl)
            · have c_99 : 0 < j5_L1 := i_nle c_99
              have f_102_1 : iR j5_L1 1 1599 := iR_ltR c_99 (iR_c (n := 0) (by decide +kernel) (by decide +kernel)) f_70_1 (by decide +kernel)
              refine lv_aload_n hx hb dX7_ahead_102 rfl (lv_at hl 0 rfl) ?_
              refine k_get (D := (dC, dI)) (ci := 7) (v := .ref (r 0)) (C := RX7) (T := TX7) (N := 92) hx hb hts hinX7 hown hK hP 0 rfl rfl 0 (by decide) w_5 rfl rfl dX7_ahead_103 ?_
              refine lv_iload_n hx hb dX7_ahead_106 rfl (lv_at hl 1 rfl) ?_
              refine lv_iconst (v := 1) hx hb dX7_ahead_107 (by decide +kernel) ?_
              refine lv_isub hx hb dX7_ahead_108 ?_
              refine lv_topi (fun y_108 ey_108 => ?_)
              have f_108_2 : iR y_108 0 1598 := iR_sub ey_108 f_102_1 (iR_c (n := 1) (by decide +kernel) (by decide +kernel)) (by decide +kernel)
              refine va_iald hx hb hK hP 1 0 rfl rfl (iR_vp f_108_2 (by decide +kernel)) dX7_ahead_109 ?_
              have f_109_3 : iR (f0 y_108.toNatClampNeg) 0 255 := hf0 _
              refine k_ci (wc := []) (wr := [(h, .inr (7, oM r (upd (upd (upd (upd i 3 0) 4 j5_L1) 5 j5_L1) 12 (-1)) j)), ((r 0), .inl (cI, 1800, .inl f0))]) (fun hPc hDc hFc => va_runS (As := [.int (f0 y_108.toNatClampNeg)]) (rest := []) ⟨hx, hb, hml, hown, hts⟩ (s_X7_isLetter_v0 l dC dI cI cJ cZ cM (f0 y_108.toNatClampNeg) H.size) (va_cwS 1 hts gX7_ahead_X7_isLetter rfl rfl rfl (by decide +kernel) ⟨(Nat.le_of_ble_eq_true rfl), (Nat.le_of_ble_eq_true rfl)⟩) (k_pS hPc hDc hK hN hC hS hFc) rfl rfl hl.1 rfl (lv_room (Nat.le_of_ble_eq_true rfl)) dX7_ahead_110 ⟨(Nat.le_of_ble_eq_true rfl), (Nat.le_of_ble_eq_true rfl)⟩) hP hD hS hA [] [0, 1] rfl rfl rfl rfl (by decide) (fun _ => rfl) 0 0 rfl rfl (fun r_110 u_110 H locs hw hP hD hS => ?_)
              obtain g_110_0 := hw
              have hP : va_P (dC, dI) vwCl [(h, .inr (7, oM r (upd (upd (upd (upd i 3 0) 4 j5_L1) 5 j5_L1) 12 (-1)) j)), ((r 0), .inl (cI, 1800, .inl f0))] H := hP
              have hD : va_D A [(h, .inr (7, oM r (upd (upd (upd (upd i 3 0) 4 j5_L1) 5 j5_L1) 12 (-1)) j)), ((r 0), .inl (cI, 1800, .inl f0))] := hD
              have J_130 : ∀   (H : Heap) (locs : List Loc) (ls : Array Slot), va_P (dC, dI) vwCl [(h, .inr (7, oM r (upd (upd (upd (upd i 3 0) 4 j5_L1) 5 j5_L1) 12 (-1)) j)), ((r 0), .inl (cI, 1800, .inl f0))] H → va_D A [(h, .inr (7, oM r (upd (upd (upd (upd i 3 0) 4 j5_L1) 5 j5_L1) 12 (-1)) j)), ((r 0), .inl (cI, 1800, .inl f0))] → va_S A s.heap H locs → lv_has ls 6 [(0, .ref h), (1, .int j5_L1), (2, .int r_76), (3, .int r_86)] → W p l e ({ frames := 2, cells := 0, slots := 0, locals := 62 }) s m args below meth c H locs 0 0 (MQ below (va_Qv (fun (u9 : SU) => (iR (u9.1 0) 0 3) ∧ (iR (u9.1 1) 0 1600) ∧ (iR (u9.1 2) 0 1600) ∧ (iR (u9.1 4) (-1) 1599)) (fun u => k_B (dC, dI) vwCl (tyy cI cJ cZ cM) A ((fun (u9 : SU) => [(h, .inr (7, oM r (upd (upd (upd (upd (upd i 3 (u9.1 0)) 4 (u9.1 1)) 5 (u9.1 2)) 6 (u9.1 3)) 12 (u9.1 4)) (vp_updL j 7 (u9.2.1 0)))), ((r 0), .inl (cI, 1800, .inl f0))]) u)) A) args s 0 0 A) (F0 m 130 ls []) := by
                intro   H locs ls hP hD hS hl
                refine lv_aload_n hx hb dX7_ahead_130 rfl (lv_at hl 0 rfl) ?_
                refine lv_iload_n hx hb dX7_ahead_131 rfl (lv_at hl 1 rfl) ?_
                refine k_put (D := (dC, dI)) (ci := 7) (v := .int j5_L1) (C := RX7) (T := TX7) (N := 92) (ws' := [(h, .inr (7, oM r (upd (upd (upd (upd i 3 0) 4 j5_L1) 5 j5_L1) 12 j5_L1) j)), ((r 0), .inl (cI, 1800, .inl f0))]) hx hb hts hinX7 tyX7 tyX7_ok nmX7 hown hK hP hD hS 0 rfl rfl 12 (by decide) w_4 rfl rfl rfl rfl (Nat.le_of_ble_eq_true rfl) rfl dX7_ahead_132 (fun H locs hP hD hS => ?_)
                exact J_135 j5_L1 (iR_w f_102_1 (by decide +kernel)) H locs ls hP hD hS (lv_sub hl [0, 1, 2, 3] rfl)
              refine lv_if_ne (tgt := 130) hx hb dX7_ahead_113 (by decide) (fun c_113 => ?_) (fun c_113 => ?_)
              · have c_113 : ¬ r_110 = 0 := c_113
                have f_130_4 : iR r_110 1 1 := iR_neL c_113 g_110_0 (iR_c (n := 0) (by decide +kernel) (by decide +kernel)) (by decide +kernel)
                exact J_130   H locs ls hP hD hS (lv_sub hl [0, 1, 2, 3] rfl)
              · have c_113 : r_110 = 0 := c_113
                have f_116_4 : iR r_110 0 0 := iR_eqL c_113 g_110_0 (iR_c (n := 0) (by decide +kernel) (by decide +kernel)) (by decide +kernel)
                refine lv_aload_n hx hb dX7_ahead_116 rfl (lv_at hl 0 rfl) ?_
                refine k_get (D := (dC, dI)) (ci := 7) (v := .ref (r 0)) (C := RX7) (T := TX7) (N := 92) hx hb hts hinX7 hown hK hP 0 rfl rfl 0 (by decide) w_5 rfl rfl dX7_ahead_117 ?_
                refine lv_iload_n hx hb dX7_ahead_120 rfl (lv_at hl 1 rfl) ?_
                refine lv_iconst (v := 1) hx hb dX7_ahead_121 (by decide +kernel) ?_
                refine lv_isub hx hb dX7_ahead_122 ?_
                refine lv_topi (fun y_122 ey_122 => ?_)
                have f_122_5 : iR y_122 0 1598 := iR_sub ey_122 f_102_1 (iR_c (n := 1) (by decide +kernel) (by decide +kernel)) (by decide +kernel)
                refine va_iald hx hb hK hP 1 0 rfl rfl (iR_vp f_122_5 (by decide +kernel)) dX7_ahead_123 ?_
                have f_123_6 : iR (f0 y_122.toNatClampNeg) 0 255 := hf0 _
                refine k_ci (wc := []) (wr := [(h, .inr (7, oM r (upd (upd (upd (upd i 3 0) 4 j5_L1) 5 j5_L1) 12 (-1)) j)), ((r 0), .inl (cI, 1800, .inl f0))]) (fun hPc hDc hFc => va_runS (As := [.int (f0 y_122.toNatClampNeg)]) (rest := []) ⟨hx, hb, hml, hown, hts⟩ (s_X7_isDigit_v0 l dC dI cI cJ cZ cM (f0 y_122.toNatClampNeg) H.size) (va_cwS 1 hts gX7_ahead_X7_isDigit rfl rfl rfl (by decide +kernel) ⟨(Nat.le_of_ble_eq_true rfl), (Nat.le_of_ble_eq_true rfl)⟩) (k_pS hPc hDc hK hN hC hS hFc) rfl rfl hl.1 rfl (lv_room (Nat.le_of_ble_eq_true rfl)) dX7_ahead_124 ⟨(Nat.le_of_ble_eq_true rfl), (Nat.le_of_ble_eq_true rfl)⟩) hP hD hS hA [] [0, 1] rfl rfl rfl rfl (by decide) (fun _ => rfl) 0 0 rfl rfl (fun r_124 u_124 H locs hw hP hD hS => ?_)
                obtain g_124_0 := hw
                have hP : va_P (dC, dI) vwCl [(h, .inr (7, oM r (upd (upd (upd (upd i 3 0) 4 j5_L1) 5 j5_L1) 12 (-1)) j)), ((r 0), .inl (cI, 1800, .inl f0))] H := hP
                have hD : va_D A [(h, .inr (7, oM r (upd (upd (upd (upd i 3 0) 4 j5_L1) 5 j5_L1) 12 (-1)) j)), ((r 0), .inl (cI, 1800, .inl f0))] := hD
                refine lv_if_eq (tgt := 135) hx hb dX7_ahead_127 (by decide) (fun c_127 => ?_) (fun c_127 => ?_)
                · have c_127 : r_124 = 0 := c_127
                  have f_135_7 : iR r_124 0 0 := iR_eqL c_127 g_124_0 (iR_c (n := 0) (by decide +kernel) (by decide +kernel)) (by decide +kernel)
                  exact J_135 (-1) (iR_c (n := (-1)) (by decide +kernel) (by decide +kernel)) H locs ls hP hD hS (lv_sub hl [0, 1, 2, 3] rfl)
                · have c_127 : ¬ r_124 = 0 := c_127
                  have f_130_7 : iR r_124 1 1 := iR_neL c_127 g_124_0 (iR_c (n := 0) (by decide +kernel) (by decide +kernel)) (by decide +kernel)
                  exact J_130   H locs ls hP hD hS (lv_sub hl [0, 1, 2, 3] rfl)
          refine lv_if_ne (tgt := 98) hx hb dX7_ahead_91 (by decide) (fun c_91 => ?_) (fun c_91 => ?_)
          · have c_91 : ¬ r_76 = 0 := c_91
            have f_98_4 : iR r_76 1 1 := iR_neL c_91 g_76_0 (iR_c (n := 0) (by decide +kernel) (by decide +kernel)) (by decide +kernel)
            exact J_98   H locs ls hP hD hS (lv_sub hl [2, 3, 1, 0] rfl)
          · have c_91 : r_76 = 0 := c_91
            have f_94_4 : iR r_76 0 0 := iR_eqL c_91 g_76_0 (iR_c (n := 0) (by decide +kernel) (by decide +kernel)) (by decide +kernel)
            refine lv_iload_n hx hb dX7_ahead_94 rfl (lv_at hl 0 rfl) ?_
            refine lv_if_eq (tgt := 135) hx hb dX7_ahead_95 (by decide) (fun c_95 => ?_) (fun c_95 => ?_)
            · have c_95 : r_86 = 0 := c_95
              have f_135_5 : iR r_86 0 0 := iR_eqL c_95 g_86_0 (iR_c (n := 0) (by decide +kernel) (by decide +kernel)) (by decide +kernel)
              exact J_135 (-1) (iR_c (n := (-1)) (by decide +kernel) (by decide +kernel)) H locs ls hP hD hS (lv_sub hl [2, 3, 1, 0] rfl)
            · have c_95 : ¬ r_86 = 0 := c_95
              have f_98_5 : iR r_86 1 1 := iR_neL c_95 g_86_0 (iR_c (n := 0) (by decide +kernel) (by decide +kernel)) (by decide +kernel)
              exact J_98   H locs ls hP hD hS (lv_sub hl [2, 3, 1, 0] rfl)
        · have c_66 : (i 2) ≤ j5_L1 := i_nlt c_66
          exact k_rv B hP hD hS dX7_ahead_69 ((fun k9 => match k9 with | 0 => 0 | 1 => j5_L1 | 2 => j5_L1 | 3 => (i 6) | 4 => -1 | _ => 0), (fun k9 => match k9 with | 0 => (j 7) | _ => 0), (fun _ => (fun _ => 0)), (fun _ => (fun _ => 0)), (fun _ => 0)) [0, 1] rfl rfl (Nat.le_of_ble_eq_true rfl) (Nat.le_of_ble_eq_true rfl) ⟨(iR_c (n := 0) (by decide +kernel) (by decide +kernel)), hj5_L1, hj5_L1, (iR_c (n := (-1)) (by decide +kernel) (by decide +kernel))⟩
      refine lv_icmp_ge (tgt := 41) hx hb dX7_ahead_10 (by decide) (fun c_10 => ?_) (fun c_10 => ?_)
      · have c_10 : (i 2) ≤ j5_L1 := c_10
        exact J_41   H locs ls hP hD hS (lv_sub hl [0, 1] rfl)
      · have c_10 : j5_L1 < (i 2) := i_nle c_10
        have f_13_2 : iR j5_L1 0 1599 := iR_ltL c_10 hj5_L1 f_7_1 (by decide +kernel)
        have f_13_3 : iR (i 2) 1 1600 := iR_ltR c_10 hj5_L1 f_7_1 (by decide +kernel)
        refine lv_aload_n hx hb dX7_ahead_13 rfl (lv_at hl 0 rfl) ?_
        refine k_get (D := (dC, dI)) (ci := 7) (v := .ref (r 0)) (C := RX7) (T := TX7) (N := 92) hx hb hts hinX7 hown hK hP 0 rfl rfl 0 (by decide) w_5 rfl rfl dX7_ahead_14 ?_
        refine lv_iload_n hx hb dX7_ahead_17 rfl (lv_at hl 1 rfl) ?_
        refine va_iald hx hb hK hP 1 0 rfl rfl (iR_vp f_13_2 (by decide +kernel)) dX7_ahead_18 ?_
        have f_18_4 : iR (f0 j5_L1.toNatClampNeg) 0 255 := hf0 _
        refine lv_bipush (v := 32) hx hb dX7_ahead_19 (by decide +kernel) ?_
        have J_35 : ∀  (k35_0 : iR (f0 j5_L1.toNatClampNeg) 10 32) (H : Heap) (locs : List Loc) (ls : Array Slot), va_P (dC, dI) vwCl [(h, .inr (7, oM r i j)), ((r 0), .inl (cI, 1800, .inl f0))] H → va_D A [(h, .inr (7, oM r i j)), ((r 0), .inl (cI, 1800, .inl f0))] → va_S A s.heap H locs → lv_has ls 6 [(0, .ref h), (1, .int j5_L1)] → W p l e ({ frames := 2, cells := 0, slots := 0, locals := 62 }) s m args below meth c H locs 0 0 (MQ below (va_Qv (fun (u9 : SU) => (iR (u9.1 0) 0 3) ∧ (iR (u9.1 1) 0 1600) ∧ (iR (u9.1 2) 0 1600) ∧ (iR (u9.1 4) (-1) 1599)) (fun u => k_B (dC, dI) vwCl (tyy cI cJ cZ cM) A ((fun (u9 : SU) => [(h, .inr (7, oM r (upd (upd (upd (upd (upd i 3 (u9.1 0)) 4 (u9.1 1)) 5 (u9.1 2)) 6 (u9.1 3)) 12 (u9.1 4)) (vp_updL j 7 (u9.2.1 0)))), ((r 0), .inl (cI, 1800, .inl f0))]) u)) A) args s 0 0 A) (F0 m 35 ls []) := by
          intro  k35_0 H locs ls hP hD hS hl
          obtain ⟨y_35, ey_35⟩ : ∃ y : Int32, y = j5_L1 + 1 := ⟨_, rfl⟩
          refine lv_iinc (v := y_35) (lv' := [(1, .int y_35), (0, .ref h)]) hx hb dX7_ahead_35 hl (k := 1) rfl ey_35.symm (by decide) rfl (fun ls hl => ?_)
          have f_35_1 : iR y_35 1 1600 := iR_add ey_35 f_13_2 (iR_c (n := 1) (by decide +kernel) (by decide +kernel)) (by decide +kernel)
          refine lv_goto (tgt := 5) hx hb dX7_ahead_38 (by decide) ?_
          exact ih_5 y_35 (iR_w f_35_1 (by decide +kernel)) (m_up (B := 1600) hm_5 ey_35 f_13_2 (by decide +kernel)) H locs ls hP hD hS (lv_sub hl [1, 0] rfl)
        refine lv_icmp_eq (tgt := 35) hx hb dX7_ahead_21 (by decide) (fun c_21 => ?_) (fun c_21 => ?_)
        · have c_21 : (f0 j5_L1.toNatClampNeg) = 32 := c_21
          have f_35_5 : iR (f0 j5_L1.toNatClampNeg) 32 32 := iR_eqL c_21 f_18_4 (iR_c (n := 32) (by decide +kernel) (by decide +kernel)) (by decide +kernel)
          exact J_35  (iR_w f_35_5 (by decide +kernel)) H locs ls hP hD hS (lv_sub hl [0, 1] rfl)
        · have c_21 : ¬ (f0 j5_L1.toNatClampNeg) = 32 := c_21
          refine lv_aload_n hx hb dX7_ahead_24 rfl (lv_at hl 0 rfl) ?_
          refine k_get (D := (dC, dI)) (ci := 7) (v := .ref (r 0)) (C := RX7) (T := TX7) (N := 92) hx hb hts hinX7 hown hK hP 0 rfl rfl 0 (by decide) w_5 rfl rfl dX7_ahead_25 ?_
          refine lv_iload_n hx hb dX7_ahead_28 rfl (lv_at hl 1 rfl) ?_
          refine va_iald hx hb hK hP 1 0 rfl rfl (iR_vp f_13_2 (by decide +kernel)) dX7_ahead_29 ?_
          refine lv_bipush (v := 10) hx hb dX7_ahead_30 (by decide +kernel) ?_
          refine lv_icmp_ne (tgt := 41) hx hb dX7_ahead_32 (by decide) (fun c_32 => ?_) (fun c_32 => ?_)
          · have c_32 : ¬ (f0 j5_L1.toNatClampNeg) = 10 := c_32
            exact J_41   H locs ls hP hD hS (lv_sub hl [0, 1] rfl)
          · have c_32 : (f0 j5_L1.toNatClampNeg) = 10 := c_32
            have f_35_5 : iR (f0 j5_L1.toNatClampNeg) 10 10 := iR_eqL c_32 f_18_4 (iR_c (n := 10) (by decide +kernel) (by decide +kernel)) (by decide +kernel)
            exact J_35  (iR_w f_35_5 (by decide +kernel)) H locs ls hP hD hS (lv_sub hl [0, 1] rfl)
  refine lv_istore_n (lv' := [(1, .int (i 5)), (0, .ref h)]) hx hb dX7_ahead_4 rfl hl (by decide) rfl (fun ls hl => ?_)
  exact J_5 _ (i 5) f_1_1 (Nat.lt_succ_self _) H locs ls hP hD hS (lv_sub hl [1, 0] rfl)
set_option maxHeartbeats 8000000 in
set_option maxRecDepth 100000 in
theorem s_X7_counts_v2 (l : Launch) (dC : Nat → ClassId) (dI : Nat → Nat → Nat) (cI cJ cZ cM : ClassId) (h : Nat) (r : Nat → Nat) (i : Nat → Int32) (j : Nat → Int64) (f0 : Nat → Int32) (hI : mR i) (hf0 : aR f0 0 255) : k_Mi l yX7_counts wsX7_counts ({ frames := 3, cells := 0, slots := 0, locals := 87 }) (dC, dI) vwCl (tyy cI cJ cZ cM) [(h, .inr (7, oM r i j)), ((r 0), .inl (cI, 1800, .inl f0))] [.ref h, .int 0] 0 0 (fun (u9 : SU) => [(h, .inr (7, oM r (upd (upd (upd (upd (upd i 3 (u9.1 0)) 4 (u9.1 1)) 5 (u9.1 2)) 6 (u9.1 3)) 12 (u9.1 4)) (vp_updL j 7 (u9.2.1 0)))), ((r 0), .inl (cI, 1800, .inl f0))]) (fun (r9 : Int32) (u9 : SU) => (iR r9 0 1) ∧ (iR (u9.1 0) 0 3) ∧ (iR (u9.1 1) 0 1600) ∧ (iR (u9.1 2) 0 1600)) := by
  refine fun sz => k_enter (cc := cX7_counts) (maxL := 2) (ret := some (.boolean)) (Qc := fun A => va_Qi (fun (r9 : Int32) (u9 : SU) => (iR r9 0 1) ∧ (iR (u9.1 0) 0 3) ∧ (iR (u9.1 1) 0 1600) ∧ (iR (u9.1 2) 0 1600)) (fun u => k_B (dC, dI) vwCl (tyy cI cJ cZ cM) A ((fun (u9 : SU) => [(h, .inr (7, oM r (upd (upd (upd (upd (upd i 3 (u9.1 0)) 4 (u9.1 1)) 5 (u9.1 2)) 6 (u9.1 3)) 12 (u9.1 4)) (vp_updL j 7 (u9.2.1 0)))), ((r 0), .inl (cI, 1800, .inl f0))]) u)) A) sz (by decide +kernel) rfl (Nat.le_of_ble_eq_true rfl) (fun p e s m args below meth c A ls H locs B hP hD hS hl => ?_)
  obtain ⟨hx, hb, hml, hown, hts, hr, hlk, hnm, hK, hA, hN, hC⟩ := id B
  have hown : s.vm.findClass RX7 = some m.cls := hown
  have hl : lv_has ls 2 [(0, .ref h), (1, .int 0)] := hl
  have w_0 : (Cond.fieldLink RX7 36 "WishSeaModel" "faultKind" "I").before args s = true := hts _ (List.mem_of_getElem? (i := 1) rfl)
  have hinX7 : ∀ w ∈ u_ws RX7 TX7 92, w ∈ wsX7_counts := fun _ h => List.mem_cons_of_mem _ (List.mem_append_right _ h)
  refine lv_aload_n hx hb dX7_counts_0 rfl (lv_at hl 0 rfl) ?_
  have f_1_1 : iR (i 8) 0 6 := hI 8
  refine k_get (D := (dC, dI)) (ci := 7) (v := .int (i 8)) (C := RX7) (T := TX7) (N := 92) hx hb hts hinX7 hown hK hP 0 rfl rfl 8 (by decide) w_0 rfl rfl dX7_counts_1 ?_
  refine lv_if_ne (tgt := 21) hx hb dX7_counts_4 (by decide) (fun c_4 => ?_) (fun c_4 => ?_)
  · have c_4 : ¬ (i 8) = 0 := c_4
    have f_21_2 : iR (i 8) 1 6 := iR_neL c_4 f_1_1 (iR_c (n := 0) (by decide +kernel) (by decide +kernel)) (by decide +kernel)
    refine lv_aload_n hx hb dX7_counts_21 rfl (lv_at hl 0 rfl) ?_
    refine k_get (D := (dC, dI)) (ci := 7) (v := .int (i 8)) (C := RX7) (T := TX7) (N := 92) hx hb hts hinX7 hown hK hP 0 rfl rfl 8 (by decide) w_0 rfl rfl dX7_counts_22 ?_
    refine lv_if_ne (tgt := 32) hx hb dX7_counts_25 (by decide) (fun c_25p4 => ?_) (fun c_25p4 => ?_)
    · have c_25p4 : ¬ (i 8) = 0 := c_25p4
      refine lv_aload_n hx hb dX7_counts_32 rfl (lv_at hl 0 rfl) ?_
      refine k_get (D := (dC, dI)) (ci := 7) (v := .int (i 8)) (C := RX7) (T := TX7) (N := 92) hx hb hts hinX7 hown hK hP 0 rfl rfl 8 (by decide) w_0 rfl rfl dX7_counts_33 ?_
      refine lv_if_ne (tgt := 43) hx hb dX7_counts_36 (by decide) (fun c_36p4p25 => ?_) (fun c_36p4p25 => ?_)
      · have c_36p4p25 : ¬ (i 8) = 0 := c_36p4p25
        refine lv_iconst (v := 0) hx hb dX7_counts_43 (by decide +kernel) ?_
        exact k_ri B hP hD hS dX7_counts_44 ((fun k9 => match k9 with | 0 => (i 3) | 1 => (i 4) | 2 => (i 5) | 3 => (i 6) | 4 => (i 12) | _ => 0), (fun k9 => match k9 with | 0 => (j 7) | _ => 0), (fun _ => (fun _ => 0)), (fun _ => (fun _ => 0)), (fun _ => 0)) [0, 1] rfl rfl rfl (Nat.le_of_ble_eq_true rfl) (Nat.le_of_ble_eq_true rfl) ⟨(iR_c (n := 0) (by decide +kernel) (by decide +kernel)), (hI 3), (hI 4), (hI 5)⟩
      · exact iR_cl (iR_eqL (a' := 1) (b' := 0) c_36p4p25 f_21_2 (iR_c (n := 0) (by decide +kernel) (by decide +kernel)) (by decide +kernel)) (by decide +kernel)
    · exact iR_cl (iR_eqL (a' := 1) (b' := 0) c_25p4 f_21_2 (iR_c (n := 0) (by decide +kernel) (by decide +kernel)) (by decide +kernel)) (by decide +kernel)
  · have c_4 : (i 8) = 0 := c_4
    have f_7_2 : iR (i 8) 0 0 := iR_eqL c_4 f_1_1 (iR_c (n := 0) (by decide +kernel) (by decide +kernel)) (by decide +kernel)
    refine lv_iload_n hx hb dX7_counts_7 rfl (lv_at hl 1 rfl) ?_
    refine lv_if_eq (tgt := 21) hx hb dX7_counts_8 (by decide) (fun _ => ?_) (fun q9 => absurd q9 (by decide +kernel))
    refine lv_aload_n hx hb dX7_counts_21 rfl (lv_at hl 0 rfl) ?_
    refine k_get (D := (dC, dI)) (ci := 7) (v := .int (i 8)) (C := RX7) (T := TX7) (N := 92) hx hb hts hinX7 hown hK hP 0 rfl rfl 8 (by decide) w_0 rfl rfl dX7_counts_22 ?_
    refine lv_if_ne (tgt := 32) hx hb dX7_counts_25 (by decide) (fun c_25p8 => ?_) (fun c_25p8 => ?_)
    · exact absurd (i_eqc f_7_2 (iR_c (n := 0) (by decide +kernel) (by decide +kernel))) c_25p8
    · have c_25p8 : (i 8) = 0 := c_25p8
      refine lv_aload_n hx hb dX7_counts_28 rfl (lv_at hl 0 rfl) ?_
      refine k_cv (wc := [(h, .inr (7, oM r i j)), ((r 0), .inl (cI, 1800, .inl f0))]) (wr := []) (fun hPc hDc hFc => va_runV (As := []) (rest := []) ⟨hx, hb, hml, hown, hts⟩ (s_X7_ahead_v1 l dC dI cI cJ cZ cM h r i j f0 hI hf0 H.size) (cwV 0 hts gX7_counts_X7_ahead rfl rfl rfl (by decide +kernel) ⟨(Nat.le_of_ble_eq_true rfl), (Nat.le_of_ble_eq_true rfl)⟩) (k_pV hPc hDc hK hN hC hS hFc hP (q0 := 0) (ci := 7) rfl rfl) rfl rfl hl.1 rfl (lv_room (Nat.le_of_ble_eq_true rfl)) dX7_counts_29 ⟨(Nat.le_of_ble_eq_true rfl), (Nat.le_of_ble_eq_true rfl)⟩) hP hD hS hA [0, 1] [] rfl rfl rfl rfl (by decide) (fun _ => rfl) 0 0 rfl rfl (fun u_29p8 H locs hw hP hD hS => ?_)
      obtain ⟨g_29p8_0, g_29p8_1, g_29p8_2, g_29p8_3⟩ := hw
      have hP : va_P (dC, dI) vwCl [(h, .inr (7, oM r (upd (upd (upd (upd (upd i 3 (u_29p8.1 0)) 4 (u_29p8.1 1)) 5 (u_29p8.1 2)) 6 (u_29p8.1 3)) 12 (u_29p8.1 4)) (vp_updL j 7 (u_29p8.2.1 0)))), ((r 0), .inl (cI, 1800, .inl f0))] H := hP
      have hD : va_D A [(h, .inr (7, oM r (upd (upd (upd (upd (upd i 3 (u_29p8.1 0)) 4 (u_29p8.1 1)) 5 (u_29p8.1 2)) 6 (u_29p8.1 3)) 12 (u_29p8.1 4)) (vp_updL j 7 (u_29p8.2.1 0)))), ((r 0), .inl (cI, 1800, .inl f0))] := hD
      refine lv_aload_n hx hb dX7_counts_32 rfl (lv_at hl 0 rfl) ?_
      refine k_get (D := (dC, dI)) (ci := 7) (v := .int (i 8)) (C := RX7) (T := TX7) (N := 92) hx hb hts hinX7 hown hK hP 0 rfl rfl 8 (by decide) w_0 rfl rfl dX7_counts_33 ?_
      refine lv_if_ne (tgt := 43) hx hb dX7_counts_36 (by decide) (fun c_36p8p29 => ?_) (fun c_36p8p29 => ?_)
      · exact absurd (i_eqc f_7_2 (iR_c (n := 0) (by decide +kernel) (by decide +kernel))) c_36p8p29
      · have c_36p8p29 : (i 8) = 0 := c_36p8p29
        refine lv_iconst (v := 1) hx hb dX7_counts_39 (by decide +kernel) ?_
        refine lv_goto (tgt := 44) hx hb dX7_counts_40 (by decide) ?_
        exact k_ri B hP hD hS dX7_counts_44 ((fun k9 => match k9 with | 0 => (u_29p8.1 0) | 1 => (u_29p8.1 1) | 2 => (u_29p8.1 2) | 3 => (u_29p8.1 3) | 4 => (u_29p8.1 4) | _ => 0), (fun k9 => match k9 with | 0 => (u_29p8.2.1 0) | _ => 0), (fun _ => (fun _ => 0)), (fun _ => (fun _ => 0)), (fun _ => 0)) [0, 1] rfl rfl rfl (Nat.le_of_ble_eq_true rfl) (Nat.le_of_ble_eq_true rfl) ⟨(iR_c (n := 1) (by decide +kernel) (by decide +kernel)), g_29p8_0, g_29p8_1, g_29p8_2⟩
set_option maxHeartbeats 8000000 in
set_option maxRecDepth 100000 in
theorem s_X7_blame_v3 (l : Launch) (dC : Nat → ClassId) (dI : Nat → Nat → Nat) (cI cJ cZ cM : ClassId) (h : Nat) (r : Nat → Nat) (i : Nat → Int32) (j : Nat → Int64) (x1 : Int32) (x2 : Int32) (hx1 : iR x1 1 6) (hI : mR i) : k_Mv l yX7_blame wsX7_blame ({ frames := 1, cells := 0, slots := 0, locals := 40 }) (dC, dI) vwCl (tyy cI cJ cZ cM) [(h, .inr (7, oM r i j))] [.ref h, .int x1, .int x2] 0 0 (fun (u9 : SU) => [(h, .inr (7, oM r (upd (upd i 8 (u9.1 0)) 9 (u9.1 1)) j))]) (fun (u9 : SU) => (iR (u9.1 0) 1 6)) := by
  refine fun sz => k_enter (cc := cX7_blame) (maxL := 3) (ret := none) (Qc := fun A => va_Qv (fun (u9 : SU) => (iR (u9.1 0) 1 6)) (fun u => k_B (dC, dI) vwCl (tyy cI cJ cZ cM) A ((fun (u9 : SU) => [(h, .inr (7, oM r (upd (upd i 8 (u9.1 0)) 9 (u9.1 1)) j))]) u)) A) sz (by decide +kernel) rfl (Nat.le_of_ble_eq_true rfl) (fun p e s m args below meth c A ls H locs B hP hD hS hl => ?_)
  obtain ⟨hx, hb, hml, hown, hts, hr, hlk, hnm, hK, hA, hN, hC⟩ := id B
  have hown : s.vm.findClass RX7 = some m.cls := hown
  have hl : lv_has ls 3 [(0, .ref h), (1, .int x1), (2, .int x2)] := hl
  have w_0 : (Cond.fieldLink RX7 36 "WishSeaModel" "faultKind" "I").before args s = true := hts _ (List.mem_of_getElem? (i := 1) rfl)
  have w_1 : (Cond.fieldLink RX7 39 "WishSeaModel" "faultPlace" "I").before args s = true := hts _ (List.mem_of_getElem? (i := 2) rfl)
  have hinX7 : ∀ w ∈ u_ws RX7 TX7 92, w ∈ wsX7_blame := fun _ h => List.mem_cons_of_mem _ (List.mem_append_right _ h)
  refine lv_aload_n hx hb dX7_blame_0 rfl (lv_at hl 0 rfl) ?_
  have f_1_1 : iR (i 8) 0 6 := hI 8
  refine k_get (D := (dC, dI)) (ci := 7) (v := .int (i 8)) (C := RX7) (T := TX7) (N := 92) hx hb hts hinX7 hown hK hP 0 rfl rfl 8 (by decide) w_0 rfl rfl dX7_blame_1 ?_
  refine lv_if_le (tgt := 8) hx hb dX7_blame_4 (by decide) (fun c_4 => ?_) (fun c_4 => ?_)
  · have c_4 : (i 8) ≤ 0 := c_4
    have f_8_2 : iR (i 8) 0 0 := iR_leL c_4 f_1_1 (iR_c (n := 0) (by decide +kernel) (by decide +kernel)) (by decide +kernel)
    refine lv_aload_n hx hb dX7_blame_8 rfl (lv_at hl 0 rfl) ?_
    refine lv_iload_n hx hb dX7_blame_9 rfl (lv_at hl 1 rfl) ?_
    refine k_put (D := (dC, dI)) (ci := 7) (v := .int x1) (C := RX7) (T := TX7) (N := 92) (ws' := [(h, .inr (7, oM r (upd i 8 x1) j))]) hx hb hts hinX7 tyX7 tyX7_ok nmX7 hown hK hP hD hS 0 rfl rfl 8 (by decide) w_0 rfl rfl rfl rfl (Nat.le_of_ble_eq_true rfl) rfl dX7_blame_10 (fun H locs hP hD hS => ?_)
    refine lv_aload_n hx hb dX7_blame_13 rfl (lv_at hl 0 rfl) ?_
    refine lv_iload_n hx hb dX7_blame_14 rfl (lv_at hl 2 rfl) ?_
    refine k_put (D := (dC, dI)) (ci := 7) (v := .int x2) (C := RX7) (T := TX7) (N := 92) (ws' := [(h, .inr (7, oM r (upd (upd i 8 x1) 9 x2) j))]) hx hb hts hinX7 tyX7 tyX7_ok nmX7 hown hK hP hD hS 0 rfl rfl 9 (by decide) w_1 rfl rfl rfl rfl (Nat.le_of_ble_eq_true rfl) rfl dX7_blame_15 (fun H locs hP hD hS => ?_)
    exact k_rv B hP hD hS dX7_blame_18 ((fun k9 => match k9 with | 0 => x1 | 1 => x2 | _ => 0), (fun _ => 0), (fun _ => (fun _ => 0)), (fun _ => (fun _ => 0)), (fun _ => 0)) [0] rfl rfl (Nat.le_of_ble_eq_true rfl) (Nat.le_of_ble_eq_true rfl) hx1
  · have c_4 : 0 < (i 8) := i_nle c_4
    have f_7_2 : iR (i 8) 1 6 := iR_ltR c_4 (iR_c (n := 0) (by decide +kernel) (by decide +kernel)) f_1_1 (by decide +kernel)
    exact k_rv B hP hD hS dX7_blame_7 ((fun k9 => match k9 with | 0 => (i 8) | 1 => (i 9) | _ => 0), (fun _ => 0), (fun _ => (fun _ => 0)), (fun _ => (fun _ => 0)), (fun _ => 0)) [0] rfl rfl (Nat.le_of_ble_eq_true rfl) (Nat.le_of_ble_eq_true rfl) f_7_2
set_option maxHeartbeats 8000000 in
set_option maxRecDepth 100000 in
theorem s_X7_lex_v2 (l : Launch) (dC : Nat → ClassId) (dI : Nat → Nat → Nat) (cI cJ cZ cM : ClassId) (h : Nat) (r : Nat → Nat) (i : Nat → Int32) (j : Nat → Int64) (hI : mR i) : k_Mv l yX7_lex wsX7_lex ({ frames := 2, cells := 0, slots := 0, locals := 62 }) (dC, dI) vwCl (tyy cI cJ cZ cM) [(h, .inr (7, oM r i j))] [.ref h] 0 0 (fun (u9 : SU) => [(h, .inr (7, oM r (upd (upd i 8 (u9.1 0)) 9 (u9.1 1)) j))]) (fun (u9 : SU) => (iR (u9.1 0) 0 6)) := by
  refine fun sz => k_enter (cc := cX7_lex) (maxL := 1) (ret := none) (Qc := fun A => va_Qv (fun (u9 : SU) => (iR (u9.1 0) 0 6)) (fun u => k_B (dC, dI) vwCl (tyy cI cJ cZ cM) A ((fun (u9 : SU) => [(h, .inr (7, oM r (upd (upd i 8 (u9.1 0)) 9 (u9.1 1)) j))]) u)) A) sz (by decide +kernel) rfl (Nat.le_of_ble_eq_true rfl) (fun p e s m args below meth c A ls H locs B hP hD hS hl => ?_)
  obtain ⟨hx, hb, hml, hown, hts, hr, hlk, hnm, hK, hA, hN, hC⟩ := id B
  have hown : s.vm.findClass RX7 = some m.cls := hown
  have hl : lv_has ls 1 [(0, .ref h)] := hl
  have w_0 : (Cond.fieldLink RX7 48 "WishSeaModel" "lexAt" "I").before args s = true := hts _ (List.mem_of_getElem? (i := 1) rfl)
  have hinX7 : ∀ w ∈ u_ws RX7 TX7 92, w ∈ wsX7_lex := fun _ h => List.mem_cons_of_mem _ (List.mem_append_right _ h)
  refine lv_aload_n hx hb dX7_lex_0 rfl (lv_at hl 0 rfl) ?_
  refine k_get (D := (dC, dI)) (ci := 7) (v := .int (i 12)) (C := RX7) (T := TX7) (N := 92) hx hb hts hinX7 hown hK hP 0 rfl rfl 12 (by decide) w_0 rfl rfl dX7_lex_1 ?_
  refine lv_iconst (v := (-1)) hx hb dX7_lex_4 (by decide +kernel) ?_
  have J_17 : ∀ (j17_M0_8 : Int32) (j17_M0_9 : Int32) (hj17_M0_8 : iR j17_M0_8 0 6) (H : Heap) (locs : List Loc) (ls : Array Slot), va_P (dC, dI) vwCl [(h, .inr (7, oM r (upd (upd i 8 j17_M0_8) 9 j17_M0_9) j))] H → va_D A [(h, .inr (7, oM r (upd (upd i 8 j17_M0_8) 9 j17_M0_9) j))] → va_S A s.heap H locs → lv_has ls 1 [] → W p l e ({ frames := 2, cells := 0, slots := 0, locals := 62 }) s m args below meth c H locs 0 0 (MQ below (va_Qv (fun (u9 : SU) => (iR (u9.1 0) 0 6)) (fun u => k_B (dC, dI) vwCl (tyy cI cJ cZ cM) A ((fun (u9 : SU) => [(h, .inr (7, oM r (upd (upd i 8 (u9.1 0)) 9 (u9.1 1)) j))]) u)) A) args s 0 0 A) (F0 m 17 ls []) := by
    intro j17_M0_8 j17_M0_9 hj17_M0_8 H locs ls hP hD hS hl
    exact k_rv B hP hD hS dX7_lex_17 ((fun k9 => match k9 with | 0 => j17_M0_8 | 1 => j17_M0_9 | _ => 0), (fun _ => 0), (fun _ => (fun _ => 0)), (fun _ => (fun _ => 0)), (fun _ => 0)) [0] rfl rfl (Nat.le_of_ble_eq_true rfl) (Nat.le_of_ble_eq_true rfl) hj17_M0_8
  refine lv_icmp_eq (tgt := 17) hx hb dX7_lex_5 (by decide) (fun c_5 => ?_) (fun c_5 => ?_)
  · have c_5 : (i 12) = (-1) := c_5
    have f_17_1 : iR (i 12) (-1) (-1) := iR_eqL c_5 (iR_top _) (iR_c (n := (-1)) (by decide +kernel) (by decide +kernel)) (by decide +kernel)
    exact J_17 (i 8) (i 9) (show iR (i 8) 0 6 from hI 8) H locs ls hP hD hS (lv_sub hl [] rfl)
  · have c_5 : ¬ (i 12) = (-1) := c_5
    refine lv_aload_n hx hb dX7_lex_8 rfl (lv_at hl 0 rfl) ?_
    refine lv_iconst (v := 1) hx hb dX7_lex_9 (by decide +kernel) ?_
    refine lv_aload_n hx hb dX7_lex_10 rfl (lv_at hl 0 rfl) ?_
    refine k_get (D := (dC, dI)) (ci := 7) (v := .int (i 12)) (C := RX7) (T := TX7) (N := 92) hx hb hts hinX7 hown hK hP 0 rfl rfl 12 (by decide) w_0 rfl rfl dX7_lex_11 ?_
    refine k_cv (wc := [(h, .inr (7, oM r i j))]) (wr := []) (fun hPc hDc hFc => va_runV (As := [.int 1, .int (i 12)]) (rest := []) ⟨hx, hb, hml, hown, hts⟩ (s_X7_blame_v1 l dC dI cI cJ cZ cM h r i j 1 (i 12) (iR_c (n := 1) (by decide +kernel) (by decide +kernel)) hI H.size) (cwV 2 hts gX7_lex_X7_blame rfl rfl rfl (by decide +kernel) ⟨(Nat.le_of_ble_eq_true rfl), (Nat.le_of_ble_eq_true rfl)⟩) (k_pV hPc hDc hK hN hC hS hFc hP (q0 := 0) (ci := 7) rfl rfl) rfl rfl hl.1 rfl (lv_room (Nat.le_of_ble_eq_true rfl)) dX7_lex_14 ⟨(Nat.le_of_ble_eq_true rfl), (Nat.le_of_ble_eq_true rfl)⟩) hP hD hS hA [0] [] rfl rfl rfl rfl (by decide) (fun _ => rfl) 0 0 rfl rfl (fun u_14 H locs hw hP hD hS => ?_)
    obtain g_14_0 := hw
    have hP : va_P (dC, dI) vwCl [(h, .inr (7, oM r (upd (upd i 8 (u_14.1 0)) 9 (u_14.1 1)) j))] H := hP
    have hD : va_D A [(h, .inr (7, oM r (upd (upd i 8 (u_14.1 0)) 9 (u_14.1 1)) j))] := hD
    exact J_17 (u_14.1 0) (u_14.1 1) (iR_w g_14_0 (by decide +kernel)) H locs ls hP hD hS (lv_sub hl [] rfl)
set_option maxHeartbeats 8000000 in
set_option maxRecDepth 100000 in
theorem s_X7_number_v1 (l : Launch) (dC : Nat → ClassId) (dI : Nat → Nat → Nat) (cI cJ cZ cM : ClassId) (h : Nat) (r : Nat → Nat) (i : Nat → Int32) (j : Nat → Int64) (x1 : Int32) (x2 : Int32) (f0 : Nat → Int32) (hI : mR i) (hf0 : aR f0 0 255) : k_Mi l yX7_number wsX7_number ({ frames := 3, cells := 0, slots := 0, locals := 87 }) (dC, dI) vwCl (tyy cI cJ cZ cM) [(h, .inr (7, oM r i j)), ((r 0), .inl (cI, 1800, .inl f0))] [.ref h, .int x1, .int x2] 0 0 (fun (u9 : SU) => [(h, .inr (7, oM r (upd (upd (upd (upd (upd (upd (upd i 3 (u9.1 0)) 4 (u9.1 1)) 5 (u9.1 2)) 6 (u9.1 3)) 8 (u9.1 4)) 9 (u9.1 5)) 12 (u9.1 6)) (vp_updL j 7 (u9.2.1 0)))), ((r 0), .inl (cI, 1800, .inl f0))]) (fun (r9 : Int32) (u9 : SU) => (iR (u9.1 0) 0 3) ∧ (iR (u9.1 1) 0 1600) ∧ (iR (u9.1 2) 0 1600) ∧ (iR (u9.1 4) 0 6) ∧ ((0 < (u9.1 4)) ∨ ((x1 ≤ r9) ∧ (r9 ≤ x2)))) := by
  refine fun sz => k_enter (cc := cX7_number) (maxL := 4) (ret := some (.int)) (Qc := fun A => va_Qi (fun (r9 : Int32) (u9 : SU) => (iR (u9.1 0) 0 3) ∧ (iR (u9.1 1) 0 1600) ∧ (iR (u9.1 2) 0 1600) ∧ (iR (u9.1 4) 0 6) ∧ ((0 < (u9.1 4)) ∨ ((x1 ≤ r9) ∧ (r9 ≤ x2)))) (fun u => k_B (dC, dI) vwCl (tyy cI cJ cZ cM) A ((fun (u9 : SU) => [(h, .inr (7, oM r (upd (upd (upd (upd (upd (upd (upd i 3 (u9.1 0)) 4 (u9.1 1)) 5 (u9.1 2)) 6 (u9.1 3)) 8 (u9.1 4)) 9 (u9.1 5)) 12 (u9.1 6)) (vp_updL j 7 (u9.2.1 0)))), ((r 0), .inl (cI, 1800, .inl f0))]) u)) A) sz (by decide +kernel) rfl (Nat.le_of_ble_eq_true rfl) (fun p e s m args below meth c A ls H locs B hP hD hS hl => ?_)
  obtain ⟨hx, hb, hml, hown, hts, hr, hlk, hnm, hK, hA, hN, hC⟩ := id B
  have hown : s.vm.findClass RX7 = some m.cls := hown
  have hl : lv_has ls 4 [(0, .ref h), (1, .int x1), (2, .int x2)] := hl
  have w_0 : (Cond.fieldLink RX7 36 "WishSeaModel" "faultKind" "I").before args s = true := hts _ (List.mem_of_getElem? (i := 1) rfl)
  have w_1 : (Cond.fieldLink RX7 20 "WishSeaModel" "sign" "I").before args s = true := hts _ (List.mem_of_getElem? (i := 2) rfl)
  have w_2 : (Cond.fieldLink RX7 29 "WishSeaModel" "value" "I").before args s = true := hts _ (List.mem_of_getElem? (i := 4) rfl)
  have w_3 : (Cond.fieldLink RX7 23 "WishSeaModel" "signAt" "I").before args s = true := hts _ (List.mem_of_getElem? (i := 3) rfl)
  have hinX7 : ∀ w ∈ u_ws RX7 TX7 92, w ∈ wsX7_number := fun _ h => List.mem_cons_of_mem _ (List.mem_append_right _ h)
  refine lv_aload_n hx hb dX7_number_0 rfl (lv_at hl 0 rfl) ?_
  refine k_cv (wc := [(h, .inr (7, oM r i j))]) (wr := [((r 0), .inl (cI, 1800, .inl f0))]) (fun hPc hDc hFc => va_runV (As := []) (rest := []) ⟨hx, hb, hml, hown, hts⟩ (s_X7_lex_v1 l dC dI cI cJ cZ cM h r i j hI H.size) (cwV 0 hts gX7_number_X7_lex rfl rfl rfl (by decide +kernel) ⟨(Nat.le_of_ble_eq_true rfl), (Nat.le_of_ble_eq_true rfl)⟩) (k_pV hPc hDc hK hN hC hS hFc hP (q0 := 0) (ci := 7) rfl rfl) rfl rfl hl.1 rfl (lv_room (Nat.le_of_ble_eq_true rfl)) dX7_number_1 ⟨(Nat.le_of_ble_eq_true rfl), (Nat.le_of_ble_eq_true rfl)⟩) hP hD hS hA [0] [1] rfl rfl rfl rfl (by decide) (fun _ => rfl) 0 0 rfl rfl (fun u_1 H locs hw hP hD hS => ?_)
  obtain g_1_0 := hw
  have hP : va_P (dC, dI) vwCl [((r 0), .inl (cI, 1800, .inl f0)), (h, .inr (7, oM r (upd (upd i 8 (u_1.1 0)) 9 (u_1.1 1)) j))] H := hP
  have hD : va_D A [((r 0), .inl (cI, 1800, .inl f0)), (h, .inr (7, oM r (upd (upd i 8 (u_1.1 0)) 9 (u_1.1 1)) j))] := hD
  refine lv_aload_n hx hb dX7_number_4 rfl (lv_at hl 0 rfl) ?_
  refine k_get (D := (dC, dI)) (ci := 7) (v := .int (u_1.1 0)) (C := RX7) (T := TX7) (N := 92) hx hb hts hinX7 hown hK hP 1 rfl rfl 8 (by decide) w_0 rfl rfl dX7_number_5 ?_
  refine lv_if_le (tgt := 13) hx hb dX7_number_8 (by decide) (fun c_8 => ?_) (fun c_8 => ?_)
  · have c_8 : (u_1.1 0) ≤ 0 := c_8
    have f_13_1 : iR (u_1.1 0) 0 0 := iR_leL c_8 g_1_0 (iR_c (n := 0) (by decide +kernel) (by decide +kernel)) (by decide +kernel)
    refine lv_aload_n hx hb dX7_number_13 rfl (lv_at hl 0 rfl) ?_
    have f_14_2 : iR (i 3) 0 3 := hI 3
    refine k_get (D := (dC, dI)) (ci := 7) (v := .int (i 3)) (C := RX7) (T := TX7) (N := 92) hx hb hts hinX7 hown hK hP 1 rfl rfl 3 (by decide) w_1 rfl rfl dX7_number_14 ?_
    refine lv_iconst (v := 2) hx hb dX7_number_17 (by decide +kernel) ?_
    refine lv_icmp_eq (tgt := 30) hx hb dX7_number_18 (by decide) (fun c_18 => ?_) (fun c_18 => ?_)
    · have c_18 : (i 3) = 2 := c_18
      have f_30_3 : iR (i 3) 2 2 := iR_eqL c_18 f_14_2 (iR_c (n := 2) (by decide +kernel) (by decide +kernel)) (by decide +kernel)
      refine lv_aload_n hx hb dX7_number_30 rfl (lv_at hl 0 rfl) ?_
      refine k_get (D := (dC, dI)) (ci := 7) (v := .int (u_1.1 0)) (C := RX7) (T := TX7) (N := 92) hx hb hts hinX7 hown hK hP 1 rfl rfl 8 (by decide) w_0 rfl rfl dX7_number_31 ?_
      refine lv_if_ne (tgt := 58) hx hb dX7_number_34 (by decide) (fun c_34p18 => ?_) (fun c_34p18 => ?_)
      · exact absurd (i_eqc f_13_1 (iR_c (n := 0) (by decide +kernel) (by decide +kernel))) c_34p18
      · have c_34p18 : (u_1.1 0) = 0 := c_34p18
        refine lv_aload_n hx hb dX7_number_37 rfl (lv_at hl 0 rfl) ?_
        refine k_get (D := (dC, dI)) (ci := 7) (v := .int (i 6)) (C := RX7) (T := TX7) (N := 92) hx hb hts hinX7 hown hK hP 1 rfl rfl 6 (by decide) w_2 rfl rfl dX7_number_38 ?_
        refine lv_iload_n hx hb dX7_number_41 rfl (lv_at hl 1 rfl) ?_
        refine lv_iload_n hx hb dX7_number_42 rfl (lv_at hl 2 rfl) ?_
        refine k_ci (wc := []) (wr := [((r 0), .inl (cI, 1800, .inl f0)), (h, .inr (7, oM r (upd (upd i 8 (u_1.1 0)) 9 (u_1.1 1)) j))]) (fun hPc hDc hFc => va_runS (As := [.int (i 6), .int x1, .int x2]) (rest := []) ⟨hx, hb, hml, hown, hts⟩ (s_X7_is_v0 l dC dI cI cJ cZ cM (i 6) x1 x2 H.size) (va_cwS 3 hts gX7_number_X7_is rfl rfl rfl (by decide +kernel) ⟨(Nat.le_of_ble_eq_true rfl), (Nat.le_of_ble_eq_true rfl)⟩) (k_pS hPc hDc hK hN hC hS hFc) rfl rfl hl.1 rfl (lv_room (Nat.le_of_ble_eq_true rfl)) dX7_number_43 ⟨(Nat.le_of_ble_eq_true rfl), (Nat.le_of_ble_eq_true rfl)⟩) hP hD hS hA [] [0, 1] rfl rfl rfl rfl (by decide) (fun _ => rfl) 0 0 rfl rfl (fun r_43p18 u_43p18 H locs hw hP hD hS => ?_)
        obtain ⟨g_43p18_0, g_43p18_1⟩ := hw
        have hP : va_P (dC, dI) vwCl [((r 0), .inl (cI, 1800, .inl f0)), (h, .inr (7, oM r (upd (upd i 8 (u_1.1 0)) 9 (u_1.1 1)) j))] H := hP
        have hD : va_D A [((r 0), .inl (cI, 1800, .inl f0)), (h, .inr (7, oM r (upd (upd i 8 (u_1.1 0)) 9 (u_1.1 1)) j))] := hD
        refine lv_if_ne (tgt := 58) hx hb dX7_number_46 (by decide) (fun c_46p18 => ?_) (fun c_46p18 => ?_)
        · have c_46p18 : ¬ r_43p18 = 0 := c_46p18
          have f_58p18_4 : iR r_43p18 1 1 := iR_neL c_46p18 g_43p18_0 (iR_c (n := 0) (by decide +kernel) (by decide +kernel)) (by decide +kernel)
          obtain ⟨d_46p18_1_0, d_46p18_1_1⟩ := g_43p18_1.resolve_left c_46p18
          refine lv_aload_n hx hb dX7_number_58 rfl (lv_at hl 0 rfl) ?_
          refine k_get (D := (dC, dI)) (ci := 7) (v := .int (i 6)) (C := RX7) (T := TX7) (N := 92) hx hb hts hinX7 hown hK hP 1 rfl rfl 6 (by decide) w_2 rfl rfl dX7_number_59 ?_
          refine lv_istore_n (lv' := [(3, .int (i 6)), (0, .ref h), (1, .int x1), (2, .int x2)]) hx hb dX7_number_62 rfl hl (by decide) rfl (fun ls hl => ?_)
          refine lv_aload_n hx hb dX7_number_63 rfl (lv_at hl 1 rfl) ?_
          refine k_get (D := (dC, dI)) (ci := 7) (v := .int (u_1.1 0)) (C := RX7) (T := TX7) (N := 92) hx hb hts hinX7 hown hK hP 1 rfl rfl 8 (by decide) w_0 rfl rfl dX7_number_64 ?_
          refine lv_if_ne (tgt := 74) hx hb dX7_number_67 (by decide) (fun c_67p18p46 => ?_) (fun c_67p18p46 => ?_)
          · exact absurd (i_eqc f_13_1 (iR_c (n := 0) (by decide +kernel) (by decide +kernel))) c_67p18p46
          · have c_67p18p46 : (u_1.1 0) = 0 := c_67p18p46
            refine lv_aload_n hx hb dX7_number_70 rfl (lv_at hl 1 rfl) ?_
            refine k_cv (wc := [(h, .inr (7, oM r (upd (upd i 8 (u_1.1 0)) 9 (u_1.1 1)) j)), ((r 0), .inl (cI, 1800, .inl f0))]) (wr := []) (fun hPc hDc hFc => va_runV (As := []) (rest := []) ⟨hx, hb, hml, hown, hts⟩ (s_X7_ahead_v1 l dC dI cI cJ cZ cM h r (upd (upd i 8 (u_1.1 0)) 9 (u_1.1 1)) j f0 (mR_upd 9 (mR_upd 8 hI (show iR _ (loI 8) (hiI 8) from (iR_w f_13_1 (by decide +kernel)))) (show iR _ (loI 9) (hiI 9) from (iR_top _))) hf0 H.size) (cwV 0 hts gX7_number_X7_ahead rfl rfl rfl (by decide +kernel) ⟨(Nat.le_of_ble_eq_true rfl), (Nat.le_of_ble_eq_true rfl)⟩) (k_pV hPc hDc hK hN hC hS hFc hP (q0 := 1) (ci := 7) rfl rfl) rfl rfl hl.1 rfl (lv_room (Nat.le_of_ble_eq_true rfl)) dX7_number_71 ⟨(Nat.le_of_ble_eq_true rfl), (Nat.le_of_ble_eq_true rfl)⟩) hP hD hS hA [1, 0] [] rfl rfl rfl rfl (by decide) (fun _ => rfl) 0 0 rfl rfl (fun u_71p18p46 H locs hw hP hD hS => ?_)
            obtain ⟨g_71p18p46_0, g_71p18p46_1, g_71p18p46_2, g_71p18p46_3⟩ := hw
            have hP : va_P (dC, dI) vwCl [(h, .inr (7, oM r (upd (upd (upd (upd (upd (upd (upd i 3 (u_71p18p46.1 0)) 4 (u_71p18p46.1 1)) 5 (u_71p18p46.1 2)) 6 (u_71p18p46.1 3)) 8 (u_1.1 0)) 9 (u_1.1 1)) 12 (u_71p18p46.1 4)) (vp_updL j 7 (u_71p18p46.2.1 0)))), ((r 0), .inl (cI, 1800, .inl f0))] H := hP
            have hD : va_D A [(h, .inr (7, oM r (upd (upd (upd (upd (upd (upd (upd i 3 (u_71p18p46.1 0)) 4 (u_71p18p46.1 1)) 5 (u_71p18p46.1 2)) 6 (u_71p18p46.1 3)) 8 (u_1.1 0)) 9 (u_1.1 1)) 12 (u_71p18p46.1 4)) (vp_updL j 7 (u_71p18p46.2.1 0)))), ((r 0), .inl (cI, 1800, .inl f0))] := hD
            refine lv_iload_n hx hb dX7_number_74 rfl (lv_at hl 0 rfl) ?_
            exact k_ri B hP hD hS dX7_number_75 ((fun k9 => match k9 with | 0 => (u_71p18p46.1 0) | 1 => (u_71p18p46.1 1) | 2 => (u_71p18p46.1 2) | 3 => (u_71p18p46.1 3) | 4 => (u_1.1 0) | 5 => (u_1.1 1) | 6 => (u_71p18p46.1 4) | _ => 0), (fun k9 => match k9 with | 0 => (u_71p18p46.2.1 0) | _ => 0), (fun _ => (fun _ => 0)), (fun _ => (fun _ => 0)), (fun _ => 0)) [0, 1] rfl rfl rfl (Nat.le_of_ble_eq_true rfl) (Nat.le_of_ble_eq_true rfl) ⟨g_71p18p46_0, g_71p18p46_1, g_71p18p46_2, (iR_w f_13_1 (by decide +kernel)), (Or.inr ⟨d_46p18_1_0, d_46p18_1_1⟩)⟩
        · have c_46p18 : r_43p18 = 0 := c_46p18
          have f_49p18_4 : iR r_43p18 0 0 := iR_eqL c_46p18 g_43p18_0 (iR_c (n := 0) (by decide +kernel) (by decide +kernel)) (by decide +kernel)
          refine lv_aload_n hx hb dX7_number_49 rfl (lv_at hl 0 rfl) ?_
          refine lv_iconst (v := 4) hx hb dX7_number_50 (by decide +kernel) ?_
          refine lv_aload_n hx hb dX7_number_51 rfl (lv_at hl 0 rfl) ?_
          have f_52p18_5 : iR (i 4) 0 1600 := hI 4
          refine k_get (D := (dC, dI)) (ci := 7) (v := .int (i 4)) (C := RX7) (T := TX7) (N := 92) hx hb hts hinX7 hown hK hP 1 rfl rfl 4 (by decide) w_3 rfl rfl dX7_number_52 ?_
          refine k_cv (wc := [(h, .inr (7, oM r (upd (upd i 8 (u_1.1 0)) 9 (u_1.1 1)) j))]) (wr := [((r 0), .inl (cI, 1800, .inl f0))]) (fun hPc hDc hFc => va_runV (As := [.int 4, .int (i 4)]) (rest := []) ⟨hx, hb, hml, hown, hts⟩ (s_X7_blame_v2 l dC dI cI cJ cZ cM h r (upd (upd i 8 (u_1.1 0)) 9 (u_1.1 1)) j 4 (i 4) (iR_c (n := 4) (by decide +kernel) (by decide +kernel)) (mR_upd 9 (mR_upd 8 hI (show iR _ (loI 8) (hiI 8) from (iR_w f_13_1 (by decide +kernel)))) (show iR _ (loI 9) (hiI 9) from (iR_top _))) H.size) (cwV 2 hts gX7_number_X7_blame rfl rfl rfl (by decide +kernel) ⟨(Nat.le_of_ble_eq_true rfl), (Nat.le_of_ble_eq_true rfl)⟩) (k_pV hPc hDc hK hN hC hS hFc hP (q0 := 1) (ci := 7) rfl rfl) rfl rfl hl.1 rfl (lv_room (Nat.le_of_ble_eq_true rfl)) dX7_number_55 ⟨(Nat.le_of_ble_eq_true rfl), (Nat.le_of_ble_eq_true rfl)⟩) hP hD hS hA [1] [0] rfl rfl rfl rfl (by decide) (fun _ => rfl) 0 0 rfl rfl (fun u_55p18 H locs hw hP hD hS => ?_)
          obtain g_55p18_0 := hw
          have hP : va_P (dC, dI) vwCl [((r 0), .inl (cI, 1800, .inl f0)), (h, .inr (7, oM r (upd (upd i 8 (u_55p18.1 0)) 9 (u_55p18.1 1)) j))] H := hP
          have hD : va_D A [((r 0), .inl (cI, 1800, .inl f0)), (h, .inr (7, oM r (upd (upd i 8 (u_55p18.1 0)) 9 (u_55p18.1 1)) j))] := hD
          refine lv_aload_n hx hb dX7_number_58 rfl (lv_at hl 0 rfl) ?_
          refine k_get (D := (dC, dI)) (ci := 7) (v := .int (i 6)) (C := RX7) (T := TX7) (N := 92) hx hb hts hinX7 hown hK hP 1 rfl rfl 6 (by decide) w_2 rfl rfl dX7_number_59 ?_
          refine lv_istore_n (lv' := [(3, .int (i 6)), (0, .ref h), (1, .int x1), (2, .int x2)]) hx hb dX7_number_62 rfl hl (by decide) rfl (fun ls hl => ?_)
          refine lv_aload_n hx hb dX7_number_63 rfl (lv_at hl 1 rfl) ?_
          refine k_get (D := (dC, dI)) (ci := 7) (v := .int (u_55p18.1 0)) (C := RX7) (T := TX7) (N := 92) hx hb hts hinX7 hown hK hP 1 rfl rfl 8 (by decide) w_0 rfl rfl dX7_number_64 ?_
          refine lv_if_ne (tgt := 74) hx hb dX7_number_67 (by decide) (fun c_67p18p55 => ?_) (fun c_67p18p55 => ?_)
          · have c_67p18p55 : ¬ (u_55p18.1 0) = 0 := c_67p18p55
            refine lv_iload_n hx hb dX7_number_74 rfl (lv_at hl 0 rfl) ?_
            exact k_ri B hP hD hS dX7_number_75 ((fun k9 => match k9 with | 0 => (i 3) | 1 => (i 4) | 2 => (i 5) | 3 => (i 6) | 4 => (u_55p18.1 0) | 5 => (u_55p18.1 1) | 6 => (i 12) | _ => 0), (fun k9 => match k9 with | 0 => (j 7) | _ => 0), (fun _ => (fun _ => 0)), (fun _ => (fun _ => 0)), (fun _ => 0)) [1, 0] rfl rfl rfl (Nat.le_of_ble_eq_true rfl) (Nat.le_of_ble_eq_true rfl) ⟨(iR_w f_30_3 (by decide +kernel)), f_52p18_5, (hI 5), (iR_w g_55p18_0 (by decide +kernel)), (Or.inl (i_ltf (iR_c (n := 0) (by decide +kernel) (by decide +kernel)) g_55p18_0 (by decide +kernel)))⟩
          · exact iR_cl (iR_eqL (a' := 1) (b' := 0) c_67p18p55 g_55p18_0 (iR_c (n := 0) (by decide +kernel) (by decide +kernel)) (by decide +kernel)) (by decide +kernel)
    · have c_18 : ¬ (i 3) = 2 := c_18
      refine lv_aload_n hx hb dX7_number_21 rfl (lv_at hl 0 rfl) ?_
      refine lv_iconst (v := 1) hx hb dX7_number_22 (by decide +kernel) ?_
      refine lv_aload_n hx hb dX7_number_23 rfl (lv_at hl 0 rfl) ?_
      have f_24_3 : iR (i 4) 0 1600 := hI 4
      refine k_get (D := (dC, dI)) (ci := 7) (v := .int (i 4)) (C := RX7) (T := TX7) (N := 92) hx hb hts hinX7 hown hK hP 1 rfl rfl 4 (by decide) w_3 rfl rfl dX7_number_24 ?_
      refine k_cv (wc := [(h, .inr (7, oM r (upd (upd i 8 (u_1.1 0)) 9 (u_1.1 1)) j))]) (wr := [((r 0), .inl (cI, 1800, .inl f0))]) (fun hPc hDc hFc => va_runV (As := [.int 1, .int (i 4)]) (rest := []) ⟨hx, hb, hml, hown, hts⟩ (s_X7_blame_v2 l dC dI cI cJ cZ cM h r (upd (upd i 8 (u_1.1 0)) 9 (u_1.1 1)) j 1 (i 4) (iR_c (n := 1) (by decide +kernel) (by decide +kernel)) (mR_upd 9 (mR_upd 8 hI (show iR _ (loI 8) (hiI 8) from (iR_w f_13_1 (by decide +kernel)))) (show iR _ (loI 9) (hiI 9) from (iR_top _))) H.size) (cwV 2 hts gX7_number_X7_blame rfl rfl rfl (by decide +kernel) ⟨(Nat.le_of_ble_eq_true rfl), (Nat.le_of_ble_eq_true rfl)⟩) (k_pV hPc hDc hK hN hC hS hFc hP (q0 := 1) (ci := 7) rfl rfl) rfl rfl hl.1 rfl (lv_room (Nat.le_of_ble_eq_true rfl)) dX7_number_27 ⟨(Nat.le_of_ble_eq_true rfl), (Nat.le_of_ble_eq_true rfl)⟩) hP hD hS hA [1] [0] rfl rfl rfl rfl (by decide) (fun _ => rfl) 0 0 rfl rfl (fun u_27 H locs hw hP hD hS => ?_)
      obtain g_27_0 := hw
      have hP : va_P (dC, dI) vwCl [((r 0), .inl (cI, 1800, .inl f0)), (h, .inr (7, oM r (upd (upd i 8 (u_27.1 0)) 9 (u_27.1 1)) j))] H := hP
      have hD : va_D A [((r 0), .inl (cI, 1800, .inl f0)), (h, .inr (7, oM r (upd (upd i 8 (u_27.1 0)) 9 (u_27.1 1)) j))] := hD
      refine lv_aload_n hx hb dX7_number_30 rfl (lv_at hl 0 rfl) ?_
      refine k_get (D := (dC, dI)) (ci := 7) (v := .int (u_27.1 0)) (C := RX7) (T := TX7) (N := 92) hx hb hts hinX7 hown hK hP 1 rfl rfl 8 (by decide) w_0 rfl rfl dX7_number_31 ?_
      refine lv_if_ne (tgt := 58) hx hb dX7_number_34 (by decide) (fun c_34p27 => ?_) (fun c_34p27 => ?_)
      · have c_34p27 : ¬ (u_27.1 0) = 0 := c_34p27
        refine lv_aload_n hx hb dX7_number_58 rfl (lv_at hl 0 rfl) ?_
        refine k_get (D := (dC, dI)) (ci := 7) (v := .int (i 6)) (C := RX7) (T := TX7) (N := 92) hx hb hts hinX7 hown hK hP 1 rfl rfl 6 (by decide) w_2 rfl rfl dX7_number_59 ?_
        refine lv_istore_n (lv' := [(3, .int (i 6)), (0, .ref h), (1, .int x1), (2, .int x2)]) hx hb dX7_number_62 rfl hl (by decide) rfl (fun ls hl => ?_)
        refine lv_aload_n hx hb dX7_number_63 rfl (lv_at hl 1 rfl) ?_
        refine k_get (D := (dC, dI)) (ci := 7) (v := .int (u_27.1 0)) (C := RX7) (T := TX7) (N := 92) hx hb hts hinX7 hown hK hP 1 rfl rfl 8 (by decide) w_0 rfl rfl dX7_number_64 ?_
        refine lv_if_ne (tgt := 74) hx hb dX7_number_67 (by decide) (fun c_67p27p34 => ?_) (fun c_67p27p34 => ?_)
        · have c_67p27p34 : ¬ (u_27.1 0) = 0 := c_67p27p34
          refine lv_iload_n hx hb dX7_number_74 rfl (lv_at hl 0 rfl) ?_
          exact k_ri B hP hD hS dX7_number_75 ((fun k9 => match k9 with | 0 => (i 3) | 1 => (i 4) | 2 => (i 5) | 3 => (i 6) | 4 => (u_27.1 0) | 5 => (u_27.1 1) | 6 => (i 12) | _ => 0), (fun k9 => match k9 with | 0 => (j 7) | _ => 0), (fun _ => (fun _ => 0)), (fun _ => (fun _ => 0)), (fun _ => 0)) [1, 0] rfl rfl rfl (Nat.le_of_ble_eq_true rfl) (Nat.le_of_ble_eq_true rfl) ⟨f_14_2, f_24_3, (hI 5), (iR_w g_27_0 (by decide +kernel)), (Or.inl (i_ltf (iR_c (n := 0) (by decide +kernel) (by decide +kernel)) g_27_0 (by decide +kernel)))⟩
        · exact iR_cl (iR_eqL (a' := 1) (b' := 0) c_67p27p34 g_27_0 (iR_c (n := 0) (by decide +kernel) (by decide +kernel)) (by decide +kernel)) (by decide +kernel)
      · exact iR_cl (iR_eqL (a' := 1) (b' := 0) c_34p27 g_27_0 (iR_c (n := 0) (by decide +kernel) (by decide +kernel)) (by decide +kernel)) (by decide +kernel)
  · have c_8 : 0 < (u_1.1 0) := i_nle c_8
    have f_11_1 : iR (u_1.1 0) 1 6 := iR_ltR c_8 (iR_c (n := 0) (by decide +kernel) (by decide +kernel)) g_1_0 (by decide +kernel)
    refine lv_iconst (v := 0) hx hb dX7_number_11 (by decide +kernel) ?_
    exact k_ri B hP hD hS dX7_number_12 ((fun k9 => match k9 with | 0 => (i 3) | 1 => (i 4) | 2 => (i 5) | 3 => (i 6) | 4 => (u_1.1 0) | 5 => (u_1.1 1) | 6 => (i 12) | _ => 0), (fun k9 => match k9 with | 0 => (j 7) | _ => 0), (fun _ => (fun _ => 0)), (fun _ => (fun _ => 0)), (fun _ => 0)) [1, 0] rfl rfl rfl (Nat.le_of_ble_eq_true rfl) (Nat.le_of_ble_eq_true rfl) ⟨(hI 3), (hI 4), (hI 5), (iR_w f_11_1 (by decide +kernel)), (Or.inl c_8)⟩
set_option maxHeartbeats 8000000 in
set_option maxRecDepth 100000 in
theorem s_X7_telling_v0 (l : Launch) (dC : Nat → ClassId) (dI : Nat → Nat → Nat) (cI cJ cZ cM : ClassId) (h : Nat) (r : Nat → Nat) (i : Nat → Int32) (j : Nat → Int64) (x1 : Int32) (f0 : Nat → Int32) (f30 : Nat → Int32) (f31 : Nat → Int32) (hI : mR i) (hf0 : aR f0 0 255) (hf30 : aR f30 0 999) (hf31 : aR f31 0 999) : k_Mv l yX7_telling wsX7_telling ({ frames := 4, cells := 0, slots := 0, locals := 110 }) (dC, dI) vwCl (tyy cI cJ cZ cM) [(h, .inr (7, oM r i j)), ((r 0), .inl (cI, 1800, .inl f0)), ((r 30), .inl (cI, 2, .inl f30)), ((r 31), .inl (cI, 2, .inl f31))] [.ref h, .int x1] 0 0 (fun (u9 : SU) => [(h, .inr (7, oM r (upd (upd (upd (upd (upd (upd (upd i 3 (u9.1 0)) 4 (u9.1 1)) 5 (u9.1 2)) 6 (u9.1 3)) 8 (u9.1 4)) 9 (u9.1 5)) 12 (u9.1 6)) (vp_updL j 7 (u9.2.1 0)))), ((r 0), .inl (cI, 1800, .inl f0)), ((r 30), .inl (cI, 2, .inl (u9.2.2.1 0))), ((r 31), .inl (cI, 2, .inl (u9.2.2.1 1)))]) (fun (u9 : SU) => (iR (u9.1 0) 0 3) ∧ (iR (u9.1 1) 0 1600) ∧ (iR (u9.1 2) 0 1600) ∧ (iR (u9.1 4) 0 6) ∧ (aR (u9.2.2.1 0) 0 999) ∧ (aR (u9.2.2.1 1) 0 999)) := by
  refine fun sz => k_enter (cc := cX7_telling) (maxL := 3) (ret := none) (Qc := fun A => va_Qv (fun (u9 : SU) => (iR (u9.1 0) 0 3) ∧ (iR (u9.1 1) 0 1600) ∧ (iR (u9.1 2) 0 1600) ∧ (iR (u9.1 4) 0 6) ∧ (aR (u9.2.2.1 0) 0 999) ∧ (aR (u9.2.2.1 1) 0 999)) (fun u => k_B (dC, dI) vwCl (tyy cI cJ cZ cM) A ((fun (u9 : SU) => [(h, .inr (7, oM r (upd (upd (upd (upd (upd (upd (upd i 3 (u9.1 0)) 4 (u9.1 1)) 5 (u9.1 2)) 6 (u9.1 3)) 8 (u9.1 4)) 9 (u9.1 5)) 12 (u9.1 6)) (vp_updL j 7 (u9.2.1 0)))), ((r 0), .inl (cI, 1800, .inl f0)), ((r 30), .inl (cI, 2, .inl (u9.2.2.1 0))), ((r 31), .inl (cI, 2, .inl (u9.2.2.1 1)))]) u)) A) sz (by decide +kernel) rfl (Nat.le_of_ble_eq_true rfl) (fun p e s m args below meth c A ls H locs B hP hD hS hl => ?_)
  obtain ⟨hx, hb, hml, hown, hts, hr, hlk, hnm, hK, hA, hN, hC⟩ := id B
  have hown : s.vm.findClass RX7 = some m.cls := hown
  have hl : lv_has ls 3 [(0, .ref h), (1, .int x1)] := hl
  have w_0 : (Cond.fieldLink RX7 36 "WishSeaModel" "faultKind" "I").before args s = true := hts _ (List.mem_of_getElem? (i := 1) rfl)
  have w_1 : (Cond.fieldLink RX7 105 "WishSeaModel" "calming" "[I").before args s = true := hts _ (List.mem_of_getElem? (i := 4) rfl)
  have w_2 : (Cond.fieldLink RX7 124 "WishSeaModel" "in" "I").before args s = true := hts _ (List.mem_of_getElem? (i := 3) rfl)
  have w_3 : (Cond.fieldLink RX7 102 "WishSeaModel" "bearing" "[I").before args s = true := hts _ (List.mem_of_getElem? (i := 2) rfl)
  have hinX7 : ∀ w ∈ u_ws RX7 TX7 92, w ∈ wsX7_telling := fun _ h => List.mem_cons_of_mem _ (List.mem_append_right _ h)
  refine lv_aload_n hx hb dX7_telling_0 rfl (lv_at hl 0 rfl) ?_
  refine lv_iconst (v := 0) hx hb dX7_telling_1 (by decide +kernel) ?_
  refine k_ci (wc := [(h, .inr (7, oM r i j)), ((r 0), .inl (cI, 1800, .inl f0))]) (wr := [((r 30), .inl (cI, 2, .inl f30)), ((r 31), .inl (cI, 2, .inl f31))]) (fun hPc hDc hFc => va_runV (As := [.int 0]) (rest := []) ⟨hx, hb, hml, hown, hts⟩ (s_X7_counts_v2 l dC dI cI cJ cZ cM h r i j f0 hI hf0 H.size) (cwV 1 hts gX7_telling_X7_counts rfl rfl rfl (by decide +kernel) ⟨(Nat.le_of_ble_eq_true rfl), (Nat.le_of_ble_eq_true rfl)⟩) (k_pV hPc hDc hK hN hC hS hFc hP (q0 := 0) (ci := 7) rfl rfl) rfl rfl hl.1 rfl (lv_room (Nat.le_of_ble_eq_true rfl)) dX7_telling_2 ⟨(Nat.le_of_ble_eq_true rfl), (Nat.le_of_ble_eq_true rfl)⟩) hP hD hS hA [0, 1] [2, 3] rfl rfl rfl rfl (by decide) (fun _ => rfl) 0 0 rfl rfl (fun r_2 u_2 H locs hw hP hD hS => ?_)
  obtain ⟨g_2_0, g_2_1, g_2_2, g_2_3⟩ := hw
  have hP : va_P (dC, dI) vwCl [((r 30), .inl (cI, 2, .inl f30)), ((r 31), .inl (cI, 2, .inl f31)), (h, .inr (7, oM r (upd (upd (upd (upd (upd i 3 (u_2.1 0)) 4 (u_2.1 1)) 5 (u_2.1 2)) 6 (u_2.1 3)) 12 (u_2.1 4)) (vp_updL j 7 (u_2.2.1 0)))), ((r 0), .inl (cI, 1800, .inl f0))] H := hP
  have hD : va_D A [((r 30), .inl (cI, 2, .inl f30)), ((r 31), .inl (cI, 2, .inl f31)), (h, .inr (7, oM r (upd (upd (upd (upd (upd i 3 (u_2.1 0)) 4 (u_2.1 1)) 5 (u_2.1 2)) 6 (u_2.1 3)) 12 (u_2.1 4)) (vp_updL j 7 (u_2.2.1 0)))), ((r 0), .inl (cI, 1800, .inl f0))] := hD
  refine lv_if_ne (tgt := 9) hx hb dX7_telling_5 (by decide) (fun c_5 => ?_) (fun c_5 => ?_)
  · have c_5 : ¬ r_2 = 0 := c_5
    have f_9_1 : iR r_2 1 1 := iR_neL c_5 g_2_0 (iR_c (n := 0) (by decide +kernel) (by decide +kernel)) (by decide +kernel)
    refine lv_iload_n hx hb dX7_telling_9 rfl (lv_at hl 1 rfl) ?_
    refine lv_if_eq (tgt := 24) hx hb dX7_telling_10 (by decide) (fun c_10 => ?_) (fun c_10 => ?_)
    · have c_10 : x1 = 0 := c_10
      have f_24_2 : iR x1 0 0 := iR_eqL c_10 (iR_top _) (iR_c (n := 0) (by decide +kernel) (by decide +kernel)) (by decide +kernel)
      refine lv_aload_n hx hb dX7_telling_24 rfl (lv_at hl 0 rfl) ?_
      refine lv_iconst (v := 0) hx hb dX7_telling_25 (by decide +kernel) ?_
      refine lv_sipush (v := 999) hx hb dX7_telling_26 (by decide +kernel) ?_
      refine k_ci (wc := [(h, .inr (7, oM r (upd (upd (upd (upd (upd i 3 (u_2.1 0)) 4 (u_2.1 1)) 5 (u_2.1 2)) 6 (u_2.1 3)) 12 (u_2.1 4)) (vp_updL j 7 (u_2.2.1 0)))), ((r 0), .inl (cI, 1800, .inl f0))]) (wr := [((r 30), .inl (cI, 2, .inl f30)), ((r 31), .inl (cI, 2, .inl f31))]) (fun hPc hDc hFc => va_runV (As := [.int 0, .int 999]) (rest := []) ⟨hx, hb, hml, hown, hts⟩ (s_X7_number_v1 l dC dI cI cJ cZ cM h r (upd (upd (upd (upd (upd i 3 (u_2.1 0)) 4 (u_2.1 1)) 5 (u_2.1 2)) 6 (u_2.1 3)) 12 (u_2.1 4)) (vp_updL j 7 (u_2.2.1 0)) 0 999 f0 (mR_upd 12 (mR_upd 6 (mR_upd 5 (mR_upd 4 (mR_upd 3 hI (show iR _ (loI 3) (hiI 3) from g_2_1)) (show iR _ (loI 4) (hiI 4) from g_2_2)) (show iR _ (loI 5) (hiI 5) from g_2_3)) (show iR _ (loI 6) (hiI 6) from (iR_top _))) (show iR _ (loI 12) (hiI 12) from (iR_top _))) hf0 H.size) (cwV 2 hts gX7_telling_X7_number rfl rfl rfl (by decide +kernel) ⟨(Nat.le_of_ble_eq_true rfl), (Nat.le_of_ble_eq_true rfl)⟩) (k_pV hPc hDc hK hN hC hS hFc hP (q0 := 2) (ci := 7) rfl rfl) rfl rfl hl.1 rfl (lv_room (Nat.le_of_ble_eq_true rfl)) dX7_telling_29 ⟨(Nat.le_of_ble_eq_true rfl), (Nat.le_of_ble_eq_true rfl)⟩) hP hD hS hA [2, 3] [0, 1] rfl rfl rfl rfl (by decide) (fun _ => rfl) 0 0 rfl rfl (fun r_29 u_29 H locs hw hP hD hS => ?_)
      obtain ⟨g_29_0, g_29_1, g_29_2, g_29_3, g_29_4⟩ := hw
      have hP : va_P (dC, dI) vwCl [((r 30), .inl (cI, 2, .inl f30)), ((r 31), .inl (cI, 2, .inl f31)), (h, .inr (7, oM r (upd (upd (upd (upd (upd (upd (upd i 3 (u_29.1 0)) 4 (u_29.1 1)) 5 (u_29.1 2)) 6 (u_29.1 3)) 8 (u_29.1 4)) 9 (u_29.1 5)) 12 (u_29.1 6)) (vp_updL j 7 (u_29.2.1 0)))), ((r 0), .inl (cI, 1800, .inl f0))] H := hP
      have hD : va_D A [((r 30), .inl (cI, 2, .inl f30)), ((r 31), .inl (cI, 2, .inl f31)), (h, .inr (7, oM r (upd (upd (upd (upd (upd (upd (upd i 3 (u_29.1 0)) 4 (u_29.1 1)) 5 (u_29.1 2)) 6 (u_29.1 3)) 8 (u_29.1 4)) 9 (u_29.1 5)) 12 (u_29.1 6)) (vp_updL j 7 (u_29.2.1 0)))), ((r 0), .inl (cI, 1800, .inl f0))] := hD
      refine lv_istore_n (lv' := [(2, .int r_29), (0, .ref h), (1, .int x1)]) hx hb dX7_telling_32 rfl hl (by decide) rfl (fun ls hl => ?_)
      refine lv_aload_n hx hb dX7_telling_33 rfl (lv_at hl 1 rfl) ?_
      refine k_get (D := (dC, dI)) (ci := 7) (v := .int (u_29.1 4)) (C := RX7) (T := TX7) (N := 92) hx hb hts hinX7 hown hK hP 2 rfl rfl 8 (by decide) w_0 rfl rfl dX7_telling_34 ?_
      refine lv_if_le (tgt := 41) hx hb dX7_telling_37 (by decide) (fun c_37p29 => ?_) (fun c_37p29 => ?_)
      · have c_37p29 : (u_29.1 4) ≤ 0 := c_37p29
        have f_41p29_3 : iR (u_29.1 4) 0 0 := iR_leL c_37p29 g_29_3 (iR_c (n := 0) (by decide +kernel) (by decide +kernel)) (by decide +kernel)
        obtain ⟨d_37p29_1_0, d_37p29_1_1⟩ := g_29_4.resolve_left (i_lenl c_37p29)
        have f_41p29_4 : iR r_29 0 2147483647 := iR_leR d_37p29_1_0 (iR_c (n := 0) (by decide +kernel) (by decide +kernel)) (iR_top _) (by decide +kernel)
        have f_41p29_5 : iR r_29 0 999 := iR_leL d_37p29_1_1 f_41p29_4 (iR_c (n := 999) (by decide +kernel) (by decide +kernel)) (by decide +kernel)
        refine lv_iload_n hx hb dX7_telling_41 rfl (lv_at hl 2 rfl) ?_
        have J_68p29 : ∀  (k68p29_0 : iR (i 37) 0 1) (H : Heap) (locs : List Loc) (ls : Array Slot), va_P (dC, dI) vwCl [(h, .inr (7, oM r (upd (upd (upd (upd (upd (upd (upd i 3 (u_29.1 0)) 4 (u_29.1 1)) 5 (u_29.1 2)) 6 (u_29.1 3)) 8 (u_29.1 4)) 9 (u_29.1 5)) 12 (u_29.1 6)) (vp_updL j 7 (u_29.2.1 0)))), ((r 0), .inl (cI, 1800, .inl f0)), ((r 30), .inl (cI, 2, .inl f30)), ((r 31), .inl (cI, 2, .inl (upd f31 (i 37).toNatClampNeg r_29)))] H → va_D A [(h, .inr (7, oM r (upd (upd (upd (upd (upd (upd (upd i 3 (u_29.1 0)) 4 (u_29.1 1)) 5 (u_29.1 2)) 6 (u_29.1 3)) 8 (u_29.1 4)) 9 (u_29.1 5)) 12 (u_29.1 6)) (vp_updL j 7 (u_29.2.1 0)))), ((r 0), .inl (cI, 1800, .inl f0)), ((r 30), .inl (cI, 2, .inl f30)), ((r 31), .inl (cI, 2, .inl (upd f31 (i 37).toNatClampNeg r_29)))] → va_S A s.heap H locs → lv_has ls 3 [] → W p l e ({ frames := 4, cells := 0, slots := 0, locals := 110 }) s m args below meth c H locs 0 0 (MQ below (va_Qv (fun (u9 : SU) => (iR (u9.1 0) 0 3) ∧ (iR (u9.1 1) 0 1600) ∧ (iR (u9.1 2) 0 1600) ∧ (iR (u9.1 4) 0 6) ∧ (aR (u9.2.2.1 0) 0 999) ∧ (aR (u9.2.2.1 1) 0 999)) (fun u => k_B (dC, dI) vwCl (tyy cI cJ cZ cM) A ((fun (u9 : SU) => [(h, .inr (7, oM r (upd (upd (upd (upd (upd (upd (upd i 3 (u9.1 0)) 4 (u9.1 1)) 5 (u9.1 2)) 6 (u9.1 3)) 8 (u9.1 4)) 9 (u9.1 5)) 12 (u9.1 6)) (vp_updL j 7 (u9.2.1 0)))), ((r 0), .inl (cI, 1800, .inl f0)), ((r 30), .inl (cI, 2, .inl (u9.2.2.1 0))), ((r 31), .inl (cI, 2, .inl (u9.2.2.1 1)))]) u)) A) args s 0 0 A) (F0 m 68 ls []) := by
          intro  k68p29_0 H locs ls hP hD hS hl
          exact k_rv B hP hD hS dX7_telling_68 ((fun k9 => match k9 with | 0 => (u_29.1 0) | 1 => (u_29.1 1) | 2 => (u_29.1 2) | 3 => (u_29.1 3) | 4 => (u_29.1 4) | 5 => (u_29.1 5) | 6 => (u_29.1 6) | _ => 0), (fun k9 => match k9 with | 0 => (u_29.2.1 0) | _ => 0), (fun k9 => match k9 with | 0 => f30 | 1 => (upd f31 (i 37).toNatClampNeg r_29) | _ => (fun _ => 0)), (fun _ => (fun _ => 0)), (fun _ => 0)) [0, 1, 2, 3] rfl rfl (Nat.le_of_ble_eq_true rfl) (Nat.le_of_ble_eq_true rfl) ⟨g_29_0, g_29_1, g_29_2, (iR_w f_41p29_3 (by decide +kernel)), hf30, (aR_upd _ hf31 f_41p29_5)⟩
        refine lv_if_eq (tgt := 58) hx hb dX7_telling_42 (by decide) (fun c_42p29 => ?_) (fun c_42p29 => ?_)
        · have c_42p29 : x1 = 0 := c_42p29
          refine lv_aload_n hx hb dX7_telling_58 rfl (lv_at hl 1 rfl) ?_
          refine k_get (D := (dC, dI)) (ci := 7) (v := .ref (r 31)) (C := RX7) (T := TX7) (N := 92) hx hb hts hinX7 hown hK hP 2 rfl rfl 31 (by decide) w_1 rfl rfl dX7_telling_59 ?_
          refine lv_aload_n hx hb dX7_telling_62 rfl (lv_at hl 1 rfl) ?_
          have f_63p29_6 : iR (i 37) 0 1 := hI 37
          refine k_get (D := (dC, dI)) (ci := 7) (v := .int (i 37)) (C := RX7) (T := TX7) (N := 92) hx hb hts hinX7 hown hK hP 2 rfl rfl 37 (by decide) w_2 rfl rfl dX7_telling_63 ?_
          refine lv_iload_n hx hb dX7_telling_66 rfl (lv_at hl 0 rfl) ?_
          refine s_iast (g := (upd f31 (i 37).toNatClampNeg r_29)) (ws' := [((r 30), .inl (cI, 2, .inl f30)), ((r 31), .inl (cI, 2, .inl (upd f31 (i 37).toNatClampNeg r_29))), (h, .inr (7, oM r (upd (upd (upd (upd (upd (upd (upd i 3 (u_29.1 0)) 4 (u_29.1 1)) 5 (u_29.1 2)) 6 (u_29.1 3)) 8 (u_29.1 4)) 9 (u_29.1 5)) 12 (u_29.1 6)) (vp_updL j 7 (u_29.2.1 0)))), ((r 0), .inl (cI, 1800, .inl f0))]) hx hb hK hP hD hS 1 0 rfl rfl (iR_vp f_63p29_6 (by decide +kernel)) rfl rfl dX7_telling_67 (fun H locs hP hD hS => ?_)
          exact J_68p29  f_63p29_6 H locs ls (hP.sub [2, 3, 0, 1] rfl) (hD.sub [2, 3, 0, 1] (by decide +kernel) rfl) hS (lv_sub hl [] rfl)
        · exact absurd (i_eqc f_24_2 (iR_c (n := 0) (by decide +kernel) (by decide +kernel))) c_42p29
      · have c_37p29 : 0 < (u_29.1 4) := i_nle c_37p29
        have f_40p29_3 : iR (u_29.1 4) 1 6 := iR_ltR c_37p29 (iR_c (n := 0) (by decide +kernel) (by decide +kernel)) g_29_3 (by decide +kernel)
        exact k_rv B hP hD hS dX7_telling_40 ((fun k9 => match k9 with | 0 => (u_29.1 0) | 1 => (u_29.1 1) | 2 => (u_29.1 2) | 3 => (u_29.1 3) | 4 => (u_29.1 4) | 5 => (u_29.1 5) | 6 => (u_29.1 6) | _ => 0), (fun k9 => match k9 with | 0 => (u_29.2.1 0) | _ => 0), (fun k9 => match k9 with | 0 => f30 | 1 => f31 | _ => (fun _ => 0)), (fun _ => (fun _ => 0)), (fun _ => 0)) [2, 3, 0, 1] rfl rfl (Nat.le_of_ble_eq_true rfl) (Nat.le_of_ble_eq_true rfl) ⟨g_29_0, g_29_1, g_29_2, (iR_w f_40p29_3 (by decide +kernel)), hf30, hf31⟩
    · have c_10 : ¬ x1 = 0 := c_10
      refine lv_aload_n hx hb dX7_telling_13 rfl (lv_at hl 0 rfl) ?_
      refine lv_iconst (v := 1) hx hb dX7_telling_14 (by decide +kernel) ?_
      refine lv_sipush (v := 999) hx hb dX7_telling_15 (by decide +kernel) ?_
      refine k_ci (wc := [(h, .inr (7, oM r (upd (upd (upd (upd (upd i 3 (u_2.1 0)) 4 (u_2.1 1)) 5 (u_2.1 2)) 6 (u_2.1 3)) 12 (u_2.1 4)) (vp_updL j 7 (u_2.2.1 0)))), ((r 0), .inl (cI, 1800, .inl f0))]) (wr := [((r 30), .inl (cI, 2, .inl f30)), ((r 31), .inl (cI, 2, .inl f31))]) (fun hPc hDc hFc => va_runV (As := [.int 1, .int 999]) (rest := []) ⟨hx, hb, hml, hown, hts⟩ (s_X7_number_v1 l dC dI cI cJ cZ cM h r (upd (upd (upd (upd (upd i 3 (u_2.1 0)) 4 (u_2.1 1)) 5 (u_2.1 2)) 6 (u_2.1 3)) 12 (u_2.1 4)) (vp_updL j 7 (u_2.2.1 0)) 1 999 f0 (mR_upd 12 (mR_upd 6 (mR_upd 5 (mR_upd 4 (mR_upd 3 hI (show iR _ (loI 3) (hiI 3) from g_2_1)) (show iR _ (loI 4) (hiI 4) from g_2_2)) (show iR _ (loI 5) (hiI 5) from g_2_3)) (show iR _ (loI 6) (hiI 6) from (iR_top _))) (show iR _ (loI 12) (hiI 12) from (iR_top _))) hf0 H.size) (cwV 2 hts gX7_telling_X7_number rfl rfl rfl (by decide +kernel) ⟨(Nat.le_of_ble_eq_true rfl), (Nat.le_of_ble_eq_true rfl)⟩) (k_pV hPc hDc hK hN hC hS hFc hP (q0 := 2) (ci := 7) rfl rfl) rfl rfl hl.1 rfl (lv_room (Nat.le_of_ble_eq_true rfl)) dX7_telling_18 ⟨(Nat.le_of_ble_eq_true rfl), (Nat.le_of_ble_eq_true rfl)⟩) hP hD hS hA [2, 3] [0, 1] rfl rfl rfl rfl (by decide) (fun _ => rfl) 0 0 rfl rfl (fun r_18 u_18 H locs hw hP hD hS => ?_)
      obtain ⟨g_18_0, g_18_1, g_18_2, g_18_3, g_18_4⟩ := hw
      have hP : va_P (dC, dI) vwCl [((r 30), .inl (cI, 2, .inl f30)), ((r 31), .inl (cI, 2, .inl f31)), (h, .inr (7, oM r (upd (upd (upd (upd (upd (upd (upd i 3 (u_18.1 0)) 4 (u_18.1 1)) 5 (u_18.1 2)) 6 (u_18.1 3)) 8 (u_18.1 4)) 9 (u_18.1 5)) 12 (u_18.1 6)) (vp_updL j 7 (u_18.2.1 0)))), ((r 0), .inl (cI, 1800, .inl f0))] H := hP
      have hD : va_D A [((r 30), .inl (cI, 2, .inl f30)), ((r 31), .inl (cI, 2, .inl f31)), (h, .inr (7, oM r (upd (upd (upd (upd (upd (upd (upd i 3 (u_18.1 0)) 4 (u_18.1 1)) 5 (u_18.1 2)) 6 (u_18.1 3)) 8 (u_18.1 4)) 9 (u_18.1 5)) 12 (u_18.1 6)) (vp_updL j 7 (u_18.2.1 0)))), ((r 0), .inl (cI, 1800, .inl f0))] := hD
      refine lv_goto (tgt := 32) hx hb dX7_telling_21 (by decide) ?_
      refine lv_istore_n (lv' := [(2, .int r_18), (0, .ref h), (1, .int x1)]) hx hb dX7_telling_32 rfl hl (by decide) rfl (fun ls hl => ?_)
      refine lv_aload_n hx hb dX7_telling_33 rfl (lv_at hl 1 rfl) ?_
      refine k_get (D := (dC, dI)) (ci := 7) (v := .int (u_18.1 4)) (C := RX7) (T := TX7) (N := 92) hx hb hts hinX7 hown hK hP 2 rfl rfl 8 (by decide) w_0 rfl rfl dX7_telling_34 ?_
      refine lv_if_le (tgt := 41) hx hb dX7_telling_37 (by decide) (fun c_37p21 => ?_) (fun c_37p21 => ?_)
      · have c_37p21 : (u_18.1 4) ≤ 0 := c_37p21
        have f_41p21_2 : iR (u_18.1 4) 0 0 := iR_leL c_37p21 g_18_3 (iR_c (n := 0) (by decide +kernel) (by decide +kernel)) (by decide +kernel)
        obtain ⟨d_37p21_1_0, d_37p21_1_1⟩ := g_18_4.resolve_left (i_lenl c_37p21)
        have f_41p21_3 : iR r_18 1 2147483647 := iR_leR d_37p21_1_0 (iR_c (n := 1) (by decide +kernel) (by decide +kernel)) (iR_top _) (by decide +kernel)
        have f_41p21_4 : iR r_18 1 999 := iR_leL d_37p21_1_1 f_41p21_3 (iR_c (n := 999) (by decide +kernel) (by decide +kernel)) (by decide +kernel)
        refine lv_iload_n hx hb dX7_telling_41 rfl (lv_at hl 2 rfl) ?_
        have J_68p21 : ∀ (j68p21_A2 : Nat → Int32) (j68p21_A3 : Nat → Int32) (hj68p21_A2 : aR j68p21_A2 0 999) (hj68p21_A3 : aR j68p21_A3 0 999) (k68p21_0 : iR (i 37) 0 1) (H : Heap) (locs : List Loc) (ls : Array Slot), va_P (dC, dI) vwCl [(h, .inr (7, oM r (upd (upd (upd (upd (upd (upd (upd i 3 (u_18.1 0)) 4 (u_18.1 1)) 5 (u_18.1 2)) 6 (u_18.1 3)) 8 (u_18.1 4)) 9 (u_18.1 5)) 12 (u_18.1 6)) (vp_updL j 7 (u_18.2.1 0)))), ((r 0), .inl (cI, 1800, .inl f0)), ((r 30), .inl (cI, 2, .inl j68p21_A2)), ((r 31), .inl (cI, 2, .inl j68p21_A3))] H → va_D A [(h, .inr (7, oM r (upd (upd (upd (upd (upd (upd (upd i 3 (u_18.1 0)) 4 (u_18.1 1)) 5 (u_18.1 2)) 6 (u_18.1 3)) 8 (u_18.1 4)) 9 (u_18.1 5)) 12 (u_18.1 6)) (vp_updL j 7 (u_18.2.1 0)))), ((r 0), .inl (cI, 1800, .inl f0)), ((r 30), .inl (cI, 2, .inl j68p21_A2)), ((r 31), .inl (cI, 2, .inl j68p21_A3))] → va_S A s.heap H locs → lv_has ls 3 [] → W p l e ({ frames := 4, cells := 0, slots := 0, locals := 110 }) s m args below meth c H locs 0 0 (MQ below (va_Qv (fun (u9 : SU) => (iR (u9.1 0) 0 3) ∧ (iR (u9.1 1) 0 1600) ∧ (iR (u9.1 2) 0 1600) ∧ (iR (u9.1 4) 0 6) ∧ (aR (u9.2.2.1 0) 0 999) ∧ (aR (u9.2.2.1 1) 0 999)) (fun u => k_B (dC, dI) vwCl (tyy cI cJ cZ cM) A ((fun (u9 : SU) => [(h, .inr (7, oM r (upd (upd (upd (upd (upd (upd (upd i 3 (u9.1 0)) 4 (u9.1 1)) 5 (u9.1 2)) 6 (u9.1 3)) 8 (u9.1 4)) 9 (u9.1 5)) 12 (u9.1 6)) (vp_updL j 7 (u9.2.1 0)))), ((r 0), .inl (cI, 1800, .inl f0)), ((r 30), .inl (cI, 2, .inl (u9.2.2.1 0))), ((r 31), .inl (cI, 2, .inl (u9.2.2.1 1)))]) u)) A) args s 0 0 A) (F0 m 68 ls []) := by
          intro j68p21_A2 j68p21_A3 hj68p21_A2 hj68p21_A3 k68p21_0 H locs ls hP hD hS hl
          exact k_rv B hP hD hS dX7_telling_68 ((fun k9 => match k9 with | 0 => (u_18.1 0) | 1 => (u_18.1 1) | 2 => (u_18.1 2) | 3 => (u_18.1 3) | 4 => (u_18.1 4) | 5 => (u_18.1 5) | 6 => (u_18.1 6) | _ => 0), (fun k9 => match k9 with | 0 => (u_18.2.1 0) | _ => 0), (fun k9 => match k9 with | 0 => j68p21_A2 | 1 => j68p21_A3 | _ => (fun _ => 0)), (fun _ => (fun _ => 0)), (fun _ => 0)) [0, 1, 2, 3] rfl rfl (Nat.le_of_ble_eq_true rfl) (Nat.le_of_ble_eq_true rfl) ⟨g_18_0, g_18_1, g_18_2, (iR_w f_41p21_2 (by decide +kernel)), hj68p21_A2, hj68p21_A3⟩
        refine lv_if_eq (tgt := 58) hx hb dX7_telling_42 (by decide) (fun c_42p21 => ?_) (fun c_42p21 => ?_)
        · have c_42p21 : x1 = 0 := c_42p21
          have f_58p21_5 : iR x1 0 0 := iR_eqL c_42p21 (iR_top _) (iR_c (n := 0) (by decide +kernel) (by decide +kernel)) (by decide +kernel)
          refine lv_aload_n hx hb dX7_telling_58 rfl (lv_at hl 1 rfl) ?_
          refine k_get (D := (dC, dI)) (ci := 7) (v := .ref (r 31)) (C := RX7) (T := TX7) (N := 92) hx hb hts hinX7 hown hK hP 2 rfl rfl 31 (by decide) w_1 rfl rfl dX7_telling_59 ?_
          refine lv_aload_n hx hb dX7_telling_62 rfl (lv_at hl 1 rfl) ?_
          have f_63p21_6 : iR (i 37) 0 1 := hI 37
          refine k_get (D := (dC, dI)) (ci := 7) (v := .int (i 37)) (C := RX7) (T := TX7) (N := 92) hx hb hts hinX7 hown hK hP 2 rfl rfl 37 (by decide) w_2 rfl rfl dX7_telling_63 ?_
          refine lv_iload_n hx hb dX7_telling_66 rfl (lv_at hl 0 rfl) ?_
          refine s_iast (g := (upd f31 (i 37).toNatClampNeg r_18)) (ws' := [((r 30), .inl (cI, 2, .inl f30)), ((r 31), .inl (cI, 2, .inl (upd f31 (i 37).toNatClampNeg r_18))), (h, .inr (7, oM r (upd (upd (upd (upd (upd (upd (upd i 3 (u_18.1 0)) 4 (u_18.1 1)) 5 (u_18.1 2)) 6 (u_18.1 3)) 8 (u_18.1 4)) 9 (u_18.1 5)) 12 (u_18.1 6)) (vp_updL j 7 (u_18.2.1 0)))), ((r 0), .inl (cI, 1800, .inl f0))]) hx hb hK hP hD hS 1 0 rfl rfl (iR_vp f_63p21_6 (by decide +kernel)) rfl rfl dX7_telling_67 (fun H locs hP hD hS => ?_)
          exact J_68p21 f30 (upd f31 (i 37).toNatClampNeg r_18) hf30 (aR_upd _ hf31 (iR_w f_41p21_4 (by decide +kernel))) f_63p21_6 H locs ls (hP.sub [2, 3, 0, 1] rfl) (hD.sub [2, 3, 0, 1] (by decide +kernel) rfl) hS (lv_sub hl [] rfl)
        · have c_42p21 : ¬ x1 = 0 := c_42p21
          refine lv_aload_n hx hb dX7_telling_45 rfl (lv_at hl 1 rfl) ?_
          refine k_get (D := (dC, dI)) (ci := 7) (v := .ref (r 30)) (C := RX7) (T := TX7) (N := 92) hx hb hts hinX7 hown hK hP 2 rfl rfl 30 (by decide) w_3 rfl rfl dX7_telling_46 ?_
          refine lv_aload_n hx hb dX7_telling_49 rfl (lv_at hl 1 rfl) ?_
          have f_50p21_5 : iR (i 37) 0 1 := hI 37
          refine k_get (D := (dC, dI)) (ci := 7) (v := .int (i 37)) (C := RX7) (T := TX7) (N := 92) hx hb hts hinX7 hown hK hP 2 rfl rfl 37 (by decide) w_2 rfl rfl dX7_telling_50 ?_
          refine lv_iload_n hx hb dX7_telling_53 rfl (lv_at hl 0 rfl) ?_
          refine s_iast (g := (upd f30 (i 37).toNatClampNeg r_18)) (ws' := [((r 30), .inl (cI, 2, .inl (upd f30 (i 37).toNatClampNeg r_18))), ((r 31), .inl (cI, 2, .inl f31)), (h, .inr (7, oM r (upd (upd (upd (upd (upd (upd (upd i 3 (u_18.1 0)) 4 (u_18.1 1)) 5 (u_18.1 2)) 6 (u_18.1 3)) 8 (u_18.1 4)) 9 (u_18.1 5)) 12 (u_18.1 6)) (vp_updL j 7 (u_18.2.1 0)))), ((r 0), .inl (cI, 1800, .inl f0))]) hx hb hK hP hD hS 0 0 rfl rfl (iR_vp f_50p21_5 (by decide +kernel)) rfl rfl dX7_telling_54 (fun H locs hP hD hS => ?_)
          refine lv_goto (tgt := 68) hx hb dX7_telling_55 (by decide) ?_
          exact J_68p21 (upd f30 (i 37).toNatClampNeg r_18) f31 (aR_upd _ hf30 (iR_w f_41p21_4 (by decide +kernel))) hf31 f_50p21_5 H locs ls (hP.sub [2, 3, 0, 1] rfl) (hD.sub [2, 3, 0, 1] (by decide +kernel) rfl) hS (lv_sub hl [] rfl)
      · have c_37p21 : 0 < (u_18.1 4) := i_nle c_37p21
        have f_40p21_2 : iR (u_18.1 4) 1 6 := iR_ltR c_37p21 (iR_c (n := 0) (by decide +kernel) (by decide +kernel)) g_18_3 (by decide +kernel)
        exact k_rv B hP hD hS dX7_telling_40 ((fun k9 => match k9 with | 0 => (u_18.1 0) | 1 => (u_18.1 1) | 2 => (u_18.1 2) | 3 => (u_18.1 3) | 4 => (u_18.1 4) | 5 => (u_18.1 5) | 6 => (u_18.1 6) | _ => 0), (fun k9 => match k9 with | 0 => (u_18.2.1 0) | _ => 0), (fun k9 => match k9 with | 0 => f30 | 1 => f31 | _ => (fun _ => 0)), (fun _ => (fun _ => 0)), (fun _ => 0)) [2, 3, 0, 1] rfl rfl (Nat.le_of_ble_eq_true rfl) (Nat.le_of_ble_eq_true rfl) ⟨g_18_0, g_18_1, g_18_2, (iR_w f_40p21_2 (by decide +kernel)), hf30, hf31⟩
  · have c_5 : r_2 = 0 := c_5
    have f_8_1 : iR r_2 0 0 := iR_eqL c_5 g_2_0 (iR_c (n := 0) (by decide +kernel) (by decide +kernel)) (by decide +kernel)
    exact k_rv B hP hD hS dX7_telling_8 ((fun k9 => match k9 with | 0 => (u_2.1 0) | 1 => (u_2.1 1) | 2 => (u_2.1 2) | 3 => (u_2.1 3) | 4 => (i 8) | 5 => (i 9) | 6 => (u_2.1 4) | _ => 0), (fun k9 => match k9 with | 0 => (u_2.2.1 0) | _ => 0), (fun k9 => match k9 with | 0 => f30 | 1 => f31 | _ => (fun _ => 0)), (fun _ => (fun _ => 0)), (fun _ => 0)) [2, 3, 0, 1] rfl rfl (Nat.le_of_ble_eq_true rfl) (Nat.le_of_ble_eq_true rfl) ⟨g_2_1, g_2_2, g_2_3, (hI 8), hf30, hf31⟩
set_option maxHeartbeats 8000000 in
set_option maxRecDepth 100000 in
theorem s_X7_floor_v0 (l : Launch) (dC : Nat → ClassId) (dI : Nat → Nat → Nat) (cI cJ cZ cM : ClassId) (x0 : Int64) (x1 : Int64)  : k_Ml l yX7_floor wsX7_floor ({ frames := 1, cells := 0, slots := 0, locals := 40 }) (dC, dI) vwCl (tyy cI cJ cZ cM) [] [.long x0, .long x1] 0 0 (fun (u9 : Unit) => []) (fun (r9 : Int64) (u9 : Unit) => True) := by
  refine fun sz => k_enter (cc := cX7_floor) (maxL := 6) (ret := some (.long)) (Qc := fun A => va_Ql (fun (r9 : Int64) (u9 : Unit) => True) (fun u => k_B (dC, dI) vwCl (tyy cI cJ cZ cM) A ((fun (u9 : Unit) => []) u)) A) sz (by decide +kernel) rfl (Nat.le_of_ble_eq_true rfl) (fun p e s m args below meth c A ls H locs B hP hD hS hl => ?_)
  obtain ⟨hx, hb, hml, hown, hts, hr, hlk, hnm, hK, hA, hN, hC⟩ := id B
  have hown : s.vm.findClass RX7 = some m.cls := hown
  have hl : lv_has ls 6 [(0, .long x0), (2, .long x1)] := hl
  refine lv_lload_n hx hb dX7_floor_0 rfl (lv_at hl 1 rfl) ?_
  refine lv_lconst (v := 0) hx hb dX7_floor_1 (by decide +kernel) ?_
  refine W.lcmp hx hb dX7_floor_2 ?_
  refine lv_topi (fun y_2 ey_2 => ?_)
  refine lv_if_ne (tgt := 8) hx hb dX7_floor_3 (by decide) (fun c_3 => ?_) (fun c_3 => ?_)
  · have c_3 : ¬ y_2 = 0 := c_3
    have lc_3 : ¬ x1 = 0 := l_cmpne ey_2 c_3
    refine lv_lload_n hx hb dX7_floor_8 rfl (lv_at hl 0 rfl) ?_
    refine lv_lload_n hx hb dX7_floor_9 rfl (lv_at hl 1 rfl) ?_
    refine lv_ldiv hx hb dX7_floor_10 lc_3 ?_
    refine lv_topl (fun y_10 ey_10 => ?_)
    refine lv_lstore (lv' := [(4, .long y_10), (0, .long x0), (2, .long x1)]) hx hb dX7_floor_11 hl (by decide) rfl (fun ls hl => ?_)
    refine lv_lload_n hx hb dX7_floor_13 rfl (lv_at hl 1 rfl) ?_
    refine lv_lload_n hx hb dX7_floor_14 rfl (lv_at hl 2 rfl) ?_
    refine lv_lrem hx hb dX7_floor_15 lc_3 ?_
    refine lv_topl (fun y_15 ey_15 => ?_)
    refine lv_lconst (v := 0) hx hb dX7_floor_16 (by decide +kernel) ?_
    refine W.lcmp hx hb dX7_floor_17 ?_
    refine lv_topi (fun y_17 ey_17 => ?_)
    have J_55 : ∀ (j55_S0 : Int64)  (H : Heap) (locs : List Loc) (ls : Array Slot), va_P (dC, dI) vwCl [] H → va_D A [] → va_S A s.heap H locs → lv_has ls 6 [] → W p l e ({ frames := 1, cells := 0, slots := 0, locals := 40 }) s m args below meth c H locs 0 0 (MQ below (va_Ql (fun (r9 : Int64) (u9 : Unit) => True) (fun u => k_B (dC, dI) vwCl (tyy cI cJ cZ cM) A ((fun (u9 : Unit) => []) u)) A) args s 0 0 A) (F0 m 55 ls [.long j55_S0]) := by
      intro j55_S0  H locs ls hP hD hS hl
      exact k_rl B hP hD hS dX7_floor_55 () [] rfl rfl (Nat.le_of_ble_eq_true rfl) (Nat.le_of_ble_eq_true rfl) trivial
    have J_53 : ∀   (H : Heap) (locs : List Loc) (ls : Array Slot), va_P (dC, dI) vwCl [] H → va_D A [] → va_S A s.heap H locs → lv_has ls 6 [(4, .long y_10)] → W p l e ({ frames := 1, cells := 0, slots := 0, locals := 40 }) s m args below meth c H locs 0 0 (MQ below (va_Ql (fun (r9 : Int64) (u9 : Unit) => True) (fun u => k_B (dC, dI) vwCl (tyy cI cJ cZ cM) A ((fun (u9 : Unit) => []) u)) A) args s 0 0 A) (F0 m 53 ls []) := by
      intro   H locs ls hP hD hS hl
      refine lv_lload hx hb dX7_floor_53 (lv_at hl 0 rfl) ?_
      exact J_55 y_10  H locs ls hP hD hS (lv_sub hl [] rfl)
    refine lv_if_eq (tgt := 53) hx hb dX7_floor_18 (by decide) (fun c_18 => ?_) (fun c_18 => ?_)
    · have c_18 : y_17 = 0 := c_18
      have f_53_1 : iR y_17 0 0 := iR_eqL c_18 (iR_top _) (iR_c (n := 0) (by decide +kernel) (by decide +kernel)) (by decide +kernel)
      have lc_18 : y_15 = 0 := l_cmpe ey_17 c_18
      exact J_53   H locs ls hP hD hS (lv_sub hl [0] rfl)
    · have c_18 : ¬ y_17 = 0 := c_18
      have lc_18 : ¬ y_15 = 0 := l_cmpne ey_17 c_18
      refine lv_lload_n hx hb dX7_floor_21 rfl (lv_at hl 1 rfl) ?_
      refine lv_lconst (v := 0) hx hb dX7_floor_22 (by decide +kernel) ?_
      refine W.lcmp hx hb dX7_floor_23 ?_
      refine lv_topi (fun y_23 ey_23 => ?_)
      have J_32 : ∀ (j32_S0 : Int32) (hj32_S0 : iR j32_S0 0 1) (H : Heap) (locs : List Loc) (ls : Array Slot), va_P (dC, dI) vwCl [] H → va_D A [] → va_S A s.heap H locs → lv_has ls 6 [(2, .long x1), (4, .long y_10)] → W p l e ({ frames := 1, cells := 0, slots := 0, locals := 40 }) s m args below meth c H locs 0 0 (MQ below (va_Ql (fun (r9 : Int64) (u9 : Unit) => True) (fun u => k_B (dC, dI) vwCl (tyy cI cJ cZ cM) A ((fun (u9 : Unit) => []) u)) A) args s 0 0 A) (F0 m 32 ls [.int j32_S0]) := by
        intro j32_S0 hj32_S0 H locs ls hP hD hS hl
        refine lv_lload_n hx hb dX7_floor_32 rfl (lv_at hl 0 rfl) ?_
        refine lv_lconst (v := 0) hx hb dX7_floor_33 (by decide +kernel) ?_
        refine W.lcmp hx hb dX7_floor_34 ?_
        refine lv_topi (fun y_34 ey_34 => ?_)
        have J_43 : ∀ (j43_S0 : Int32) (hj43_S0 : iR j43_S0 0 1) (H : Heap) (locs : List Loc) (ls : Array Slot), va_P (dC, dI) vwCl [] H → va_D A [] → va_S A s.heap H locs → lv_has ls 6 [(4, .long y_10)] → W p l e ({ frames := 1, cells := 0, slots := 0, locals := 40 }) s m args below meth c H locs 0 0 (MQ below (va_Ql (fun (r9 : Int64) (u9 : Unit) => True) (fun u => k_B (dC, dI) vwCl (tyy cI cJ cZ cM) A ((fun (u9 : Unit) => []) u)) A) args s 0 0 A) (F0 m 43 ls [.int j43_S0, .int j32_S0]) := by
          intro j43_S0 hj43_S0 H locs ls hP hD hS hl
          refine lv_icmp_eq (tgt := 53) hx hb dX7_floor_43 (by decide) (fun c_43 => ?_) (fun c_43 => ?_)
          · have c_43 : j32_S0 = j43_S0 := c_43
            exact J_53   H locs ls hP hD hS (lv_sub hl [0] rfl)
          · have c_43 : ¬ j32_S0 = j43_S0 := c_43
            refine lv_lload hx hb dX7_floor_46 (lv_at hl 0 rfl) ?_
            refine lv_lconst (v := 1) hx hb dX7_floor_48 (by decide +kernel) ?_
            refine lv_lsub hx hb dX7_floor_49 ?_
            refine lv_topl (fun y_49 ey_49 => ?_)
            refine lv_goto (tgt := 55) hx hb dX7_floor_50 (by decide) ?_
            exact J_55 y_49  H locs ls hP hD hS (lv_sub hl [] rfl)
        refine lv_if_ge (tgt := 42) hx hb dX7_floor_35 (by decide) (fun c_35 => ?_) (fun c_35 => ?_)
        · have c_35 : 0 ≤ y_34 := c_35
          have f_42_1 : iR y_34 0 2147483647 := iR_leR c_35 (iR_c (n := 0) (by decide +kernel) (by decide +kernel)) (iR_top _) (by decide +kernel)
          have lc_35 : 0 ≤ x1 := l_cmpge ey_34 c_35
          refine lv_iconst (v := 0) hx hb dX7_floor_42 (by decide +kernel) ?_
          exact J_43 0 (iR_c (n := 0) (by decide +kernel) (by decide +kernel)) H locs ls hP hD hS (lv_sub hl [1] rfl)
        · have c_35 : y_34 < 0 := i_nle c_35
          have f_38_1 : iR y_34 (-2147483648) (-1) := iR_ltL c_35 (iR_top _) (iR_c (n := 0) (by decide +kernel) (by decide +kernel)) (by decide +kernel)
          have lc_35 : x1 < 0 := l_cmplt ey_34 c_35
          refine lv_iconst (v := 1) hx hb dX7_floor_38 (by decide +kernel) ?_
          refine lv_goto (tgt := 43) hx hb dX7_floor_39 (by decide) ?_
          exact J_43 1 (iR_c (n := 1) (by decide +kernel) (by decide +kernel)) H locs ls hP hD hS (lv_sub hl [1] rfl)
      refine lv_if_ge (tgt := 31) hx hb dX7_floor_24 (by decide) (fun c_24 => ?_) (fun c_24 => ?_)
      · have c_24 : 0 ≤ y_23 := c_24
        have f_31_1 : iR y_23 0 2147483647 := iR_leR c_24 (iR_c (n := 0) (by decide +kernel) (by decide +kernel)) (iR_top _) (by decide +kernel)
        have lc_24 : 0 ≤ x0 := l_cmpge ey_23 c_24
        refine lv_iconst (v := 0) hx hb dX7_floor_31 (by decide +kernel) ?_
        exact J_32 0 (iR_c (n := 0) (by decide +kernel) (by decide +kernel)) H locs ls hP hD hS (lv_sub hl [2, 0] rfl)
      · have c_24 : y_23 < 0 := i_nle c_24
        have f_27_1 : iR y_23 (-2147483648) (-1) := iR_ltL c_24 (iR_top _) (iR_c (n := 0) (by decide +kernel) (by decide +kernel)) (by decide +kernel)
        have lc_24 : x0 < 0 := l_cmplt ey_23 c_24
        refine lv_iconst (v := 1) hx hb dX7_floor_27 (by decide +kernel) ?_
        refine lv_goto (tgt := 32) hx hb dX7_floor_28 (by decide) ?_
        exact J_32 1 (iR_c (n := 1) (by decide +kernel) (by decide +kernel)) H locs ls hP hD hS (lv_sub hl [2, 0] rfl)
  · have c_3 : y_2 = 0 := c_3
    have f_6_1 : iR y_2 0 0 := iR_eqL c_3 (iR_top _) (iR_c (n := 0) (by decide +kernel) (by decide +kernel)) (by decide +kernel)
    have lc_3 : x1 = 0 := l_cmpe ey_2 c_3
    refine lv_lconst (v := 0) hx hb dX7_floor_6 (by decide +kernel) ?_
    exact k_rl B hP hD hS dX7_floor_7 () [] rfl rfl (Nat.le_of_ble_eq_true rfl) (Nat.le_of_ble_eq_true rfl) trivial
set_option maxHeartbeats 8000000 in
set_option maxRecDepth 100000 in
theorem s_X7_went_v0 (l : Launch) (dC : Nat → ClassId) (dI : Nat → Nat → Nat) (cI cJ cZ cM : ClassId) (h : Nat) (r : Nat → Nat) (i : Nat → Int32) (j : Nat → Int64) (x1 : Int32) (hI : mR i) : k_Mi l yX7_went wsX7_went ({ frames := 1, cells := 0, slots := 0, locals := 40 }) (dC, dI) vwCl (tyy cI cJ cZ cM) [(h, .inr (7, oM r i j))] [.ref h, .int x1] 0 0 (fun (u9 : Unit) => [(h, .inr (7, oM r i j))]) (fun (r9 : Int32) (u9 : Unit) => True) := by
  refine fun sz => k_enter (cc := cX7_went) (maxL := 2) (ret := some (.int)) (Qc := fun A => va_Qi (fun (r9 : Int32) (u9 : Unit) => True) (fun u => k_B (dC, dI) vwCl (tyy cI cJ cZ cM) A ((fun (u9 : Unit) => [(h, .inr (7, oM r i j))]) u)) A) sz (by decide +kernel) rfl (Nat.le_of_ble_eq_true rfl) (fun p e s m args below meth c A ls H locs B hP hD hS hl => ?_)
  obtain ⟨hx, hb, hml, hown, hts, hr, hlk, hnm, hK, hA, hN, hC⟩ := id B
  have hown : s.vm.findClass RX7 = some m.cls := hown
  have hl : lv_has ls 2 [(0, .ref h), (1, .int x1)] := hl
  have w_0 : (Cond.fieldLink RX7 216 "WishSeaModel" "wentEnd" "I").before args s = true := hts _ (List.mem_of_getElem? (i := 1) rfl)
  have w_1 : (Cond.fieldLink RX7 228 "WishSeaModel" "wentMost" "I").before args s = true := hts _ (List.mem_of_getElem? (i := 5) rfl)
  have w_2 : (Cond.fieldLink RX7 225 "WishSeaModel" "wentDay" "I").before args s = true := hts _ (List.mem_of_getElem? (i := 4) rfl)
  have w_3 : (Cond.fieldLink RX7 222 "WishSeaModel" "wentSea" "I").before args s = true := hts _ (List.mem_of_getElem? (i := 3) rfl)
  have w_4 : (Cond.fieldLink RX7 219 "WishSeaModel" "wentHad" "I").before args s = true := hts _ (List.mem_of_getElem? (i := 2) rfl)
  have hinX7 : ∀ w ∈ u_ws RX7 TX7 92, w ∈ wsX7_went := fun _ h => List.mem_cons_of_mem _ (List.mem_append_right _ h)
  refine lv_aload_n hx hb dX7_went_0 rfl (lv_at hl 0 rfl) ?_
  refine k_get (D := (dC, dI)) (ci := 7) (v := .int (i 67)) (C := RX7) (T := TX7) (N := 92) hx hb hts hinX7 hown hK hP 0 rfl rfl 67 (by decide) w_0 rfl rfl dX7_went_1 ?_
  refine lv_iconst (v := (-1)) hx hb dX7_went_4 (by decide +kernel) ?_
  refine lv_icmp_ne (tgt := 10) hx hb dX7_went_5 (by decide) (fun c_5 => ?_) (fun c_5 => ?_)
  · have c_5 : ¬ (i 67) = (-1) := c_5
    refine lv_iload_n hx hb dX7_went_10 rfl (lv_at hl 1 rfl) ?_
    refine lv_if_ne (tgt := 21) hx hb dX7_went_11 (by decide) (fun c_11 => ?_) (fun c_11 => ?_)
    · have c_11 : ¬ x1 = 0 := c_11
      refine lv_iload_n hx hb dX7_went_21 rfl (lv_at hl 1 rfl) ?_
      refine lv_iconst (v := 1) hx hb dX7_went_22 (by decide +kernel) ?_
      refine lv_icmp_ne (tgt := 33) hx hb dX7_went_23 (by decide) (fun c_23 => ?_) (fun c_23 => ?_)
      · have c_23 : ¬ x1 = 1 := c_23
        refine lv_iload_n hx hb dX7_went_33 rfl (lv_at hl 1 rfl) ?_
        refine lv_iconst (v := 2) hx hb dX7_went_34 (by decide +kernel) ?_
        refine lv_icmp_ne (tgt := 45) hx hb dX7_went_35 (by decide) (fun c_35 => ?_) (fun c_35 => ?_)
        · have c_35 : ¬ x1 = 2 := c_35
          refine lv_iload_n hx hb dX7_went_45 rfl (lv_at hl 1 rfl) ?_
          refine lv_iconst (v := 3) hx hb dX7_went_46 (by decide +kernel) ?_
          refine lv_icmp_ne (tgt := 57) hx hb dX7_went_47 (by decide) (fun c_47 => ?_) (fun c_47 => ?_)
          · have c_47 : ¬ x1 = 3 := c_47
            refine lv_iload_n hx hb dX7_went_57 rfl (lv_at hl 1 rfl) ?_
            refine lv_iconst (v := 4) hx hb dX7_went_58 (by decide +kernel) ?_
            refine lv_icmp_ne (tgt := 69) hx hb dX7_went_59 (by decide) (fun c_59 => ?_) (fun c_59 => ?_)
            · have c_59 : ¬ x1 = 4 := c_59
              refine lv_iconst (v := (-1)) hx hb dX7_went_69 (by decide +kernel) ?_
              exact k_ri B hP hD hS dX7_went_70 () [0] rfl rfl rfl (Nat.le_of_ble_eq_true rfl) (Nat.le_of_ble_eq_true rfl) trivial
            · have c_59 : x1 = 4 := c_59
              have f_62_1 : iR x1 4 4 := iR_eqL c_59 (iR_top _) (iR_c (n := 4) (by decide +kernel) (by decide +kernel)) (by decide +kernel)
              refine lv_aload_n hx hb dX7_went_62 rfl (lv_at hl 0 rfl) ?_
              refine k_get (D := (dC, dI)) (ci := 7) (v := .int (i 71)) (C := RX7) (T := TX7) (N := 92) hx hb hts hinX7 hown hK hP 0 rfl rfl 71 (by decide) w_1 rfl rfl dX7_went_63 ?_
              refine lv_goto (tgt := 70) hx hb dX7_went_66 (by decide) ?_
              exact k_ri B hP hD hS dX7_went_70 () [0] rfl rfl rfl (Nat.le_of_ble_eq_true rfl) (Nat.le_of_ble_eq_true rfl) trivial
          · have c_47 : x1 = 3 := c_47
            have f_50_1 : iR x1 3 3 := iR_eqL c_47 (iR_top _) (iR_c (n := 3) (by decide +kernel) (by decide +kernel)) (by decide +kernel)
            refine lv_aload_n hx hb dX7_went_50 rfl (lv_at hl 0 rfl) ?_
            refine k_get (D := (dC, dI)) (ci := 7) (v := .int (i 70)) (C := RX7) (T := TX7) (N := 92) hx hb hts hinX7 hown hK hP 0 rfl rfl 70 (by decide) w_2 rfl rfl dX7_went_51 ?_
            refine lv_goto (tgt := 70) hx hb dX7_went_54 (by decide) ?_
            exact k_ri B hP hD hS dX7_went_70 () [0] rfl rfl rfl (Nat.le_of_ble_eq_true rfl) (Nat.le_of_ble_eq_true rfl) trivial
        · have c_35 : x1 = 2 := c_35
          have f_38_1 : iR x1 2 2 := iR_eqL c_35 (iR_top _) (iR_c (n := 2) (by decide +kernel) (by decide +kernel)) (by decide +kernel)
          refine lv_aload_n hx hb dX7_went_38 rfl (lv_at hl 0 rfl) ?_
          refine k_get (D := (dC, dI)) (ci := 7) (v := .int (i 69)) (C := RX7) (T := TX7) (N := 92) hx hb hts hinX7 hown hK hP 0 rfl rfl 69 (by decide) w_3 rfl rfl dX7_went_39 ?_
          refine lv_goto (tgt := 70) hx hb dX7_went_42 (by decide) ?_
          exact k_ri B hP hD hS dX7_went_70 () [0] rfl rfl rfl (Nat.le_of_ble_eq_true rfl) (Nat.le_of_ble_eq_true rfl) trivial
      · have c_23 : x1 = 1 := c_23
        have f_26_1 : iR x1 1 1 := iR_eqL c_23 (iR_top _) (iR_c (n := 1) (by decide +kernel) (by decide +kernel)) (by decide +kernel)
        refine lv_aload_n hx hb dX7_went_26 rfl (lv_at hl 0 rfl) ?_
        refine k_get (D := (dC, dI)) (ci := 7) (v := .int (i 68)) (C := RX7) (T := TX7) (N := 92) hx hb hts hinX7 hown hK hP 0 rfl rfl 68 (by decide) w_4 rfl rfl dX7_went_27 ?_
        refine lv_goto (tgt := 70) hx hb dX7_went_30 (by decide) ?_
        exact k_ri B hP hD hS dX7_went_70 () [0] rfl rfl rfl (Nat.le_of_ble_eq_true rfl) (Nat.le_of_ble_eq_true rfl) trivial
    · have c_11 : x1 = 0 := c_11
      have f_14_1 : iR x1 0 0 := iR_eqL c_11 (iR_top _) (iR_c (n := 0) (by decide +kernel) (by decide +kernel)) (by decide +kernel)
      refine lv_aload_n hx hb dX7_went_14 rfl (lv_at hl 0 rfl) ?_
      refine k_get (D := (dC, dI)) (ci := 7) (v := .int (i 67)) (C := RX7) (T := TX7) (N := 92) hx hb hts hinX7 hown hK hP 0 rfl rfl 67 (by decide) w_0 rfl rfl dX7_went_15 ?_
      refine lv_goto (tgt := 70) hx hb dX7_went_18 (by decide) ?_
      exact k_ri B hP hD hS dX7_went_70 () [0] rfl rfl rfl (Nat.le_of_ble_eq_true rfl) (Nat.le_of_ble_eq_true rfl) trivial
  · have c_5 : (i 67) = (-1) := c_5
    have f_8_1 : iR (i 67) (-1) (-1) := iR_eqL c_5 (iR_top _) (iR_c (n := (-1)) (by decide +kernel) (by decide +kernel)) (by decide +kernel)
    refine lv_iconst (v := (-1)) hx hb dX7_went_8 (by decide +kernel) ?_
    exact k_ri B hP hD hS dX7_went_9 () [0] rfl rfl rfl (Nat.le_of_ble_eq_true rfl) (Nat.le_of_ble_eq_true rfl) trivial
