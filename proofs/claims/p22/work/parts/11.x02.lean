set_option maxHeartbeats 8000000 in
set_option maxRecDepth 100000 in
theorem s_X2_step_v8 (l : Launch) (dC : Nat → ClassId) (dI : Nat → Nat → Nat) (cI cJ cZ cM : ClassId) (a0 : Nat) (a0_0 : Nat) (f0_0 : Nat → Int32) (a0_1 : Nat) (g0_1 : Nat → Int64) (a0_2 : Nat) (v0_3 : Int32) (v0_4 : Int32) (v0_5 : Int32) (v0_6 : Int32) (v0_7 : Int32) (v0_9 : Int32) (v0_10 : Int32) (hv0_3 : iR v0_3 0 1600) (hv0_4 : iR v0_4 0 1600) (hv0_5 : iR v0_5 0 1600) (hv0_6 : iR v0_6 0 324) (hv0_9 : iR v0_9 0 6) (hf0_0 : aR f0_0 0 255) (hpg0 : (v0_9 = 0) ∨ ((v0_6 = 259))) : k_Mv l yX2_step wsX2_step ({ frames := 3, cells := 0, slots := 0, locals := 89 }) (dC, dI) vwCl (tyy cI cJ cZ cM) [(a0, .inr (2, [.ref a0_0, .ref a0_1, .ref a0_2, .int v0_3, .int v0_4, .int v0_5, .int v0_6, .int v0_7, .int 4, .int v0_9, .int v0_10])), (a0_0, .inl (cI, 1600, .inl f0_0)), (a0_1, .inl (cJ, 25, .inr (.inl g0_1)))] [.ref a0] 0 0 (fun (u9 : SU) => [(a0, .inr (2, [.ref a0_0, .ref a0_1, .ref a0_2, .int v0_3, .int (u9.1 0), .int (u9.1 1), .int (u9.1 2), .int (u9.1 3), .int 4, .int (u9.1 4), .int (u9.1 5)])), (a0_0, .inl (cI, 1600, .inl f0_0)), (a0_1, .inl (cJ, 25, .inr (.inl g0_1)))]) (fun (u9 : SU) => (iR (u9.1 0) 0 1600) ∧ (iR (u9.1 1) 0 1600) ∧ (iR (u9.1 2) 0 324) ∧ (iR (u9.1 4) 0 6) ∧ ((0 : Int32) < v0_9 → (0 : Int32) < (u9.1 4)) ∧ (((u9.1 4) = 0) ∨ (((u9.1 2) = 259)))) := by
  refine fun sz => k_enter (cc := cX2_step) (maxL := 3) (ret := none) (Qc := fun A => va_Qv (fun (u9 : SU) => (iR (u9.1 0) 0 1600) ∧ (iR (u9.1 1) 0 1600) ∧ (iR (u9.1 2) 0 324) ∧ (iR (u9.1 4) 0 6) ∧ ((0 : Int32) < v0_9 → (0 : Int32) < (u9.1 4)) ∧ (((u9.1 4) = 0) ∨ (((u9.1 2) = 259)))) (fun u => k_B (dC, dI) vwCl (tyy cI cJ cZ cM) A ((fun (u9 : SU) => [(a0, .inr (2, [.ref a0_0, .ref a0_1, .ref a0_2, .int v0_3, .int (u9.1 0), .int (u9.1 1), .int (u9.1 2), .int (u9.1 3), .int 4, .int (u9.1 4), .int (u9.1 5)])), (a0_0, .inl (cI, 1600, .inl f0_0)), (a0_1, .inl (cJ, 25, .inr (.inl g0_1)))]) u)) A) sz (by decide +kernel) rfl (Nat.le_of_ble_eq_true rfl) (fun p e s m args below meth c A ls H locs B hP hD hS hl => ?_)
  obtain ⟨hx, hb, hml, hown, hts, hr, hlk, hnm, hK, hA, hN, hC⟩ := id B
  have hown : s.vm.findClass RX2 = some m.cls := hown
  have hl : lv_has ls 3 [(0, .ref a0)] := hl
  have w_0 : (Cond.fieldLink RX2 63 "WishSea$Reader" "fault" "I").before args s = true := hts _ (List.mem_of_getElem? (i := 1) rfl)
  have w_1 : (Cond.fieldLink RX2 57 "WishSea$Reader" "position" "I").before args s = true := hts _ (List.mem_of_getElem? (i := 2) rfl)
  have w_2 : (Cond.fieldLink RX2 15 "WishSea$Reader" "token" "I").before args s = true := hts _ (List.mem_of_getElem? (i := 3) rfl)
  have w_3 : (Cond.fieldLink RX2 55 "WishSea$Reader" "length" "I").before args s = true := hts _ (List.mem_of_getElem? (i := 4) rfl)
  have w_4 : (Cond.fieldLink RX2 73 "WishSea$Reader" "start" "I").before args s = true := hts _ (List.mem_of_getElem? (i := 6) rfl)
  have w_5 : (Cond.fieldLink RX2 22 "WishSea$Reader" "text" "[I").before args s = true := hts _ (List.mem_of_getElem? (i := 5) rfl)
  have hinX2 : ∀ w ∈ u_ws RX2 TX2 11, w ∈ wsX2_step := fun _ h => List.mem_cons_of_mem _ (List.mem_append_right _ h)
  refine lv_aload_n hx hb dX2_step_0 rfl (lv_at hl 0 rfl) ?_
  refine k_get (D := (dC, dI)) (ci := 2) (v := .int v0_9) (C := RX2) (T := TX2) (N := 11) hx hb hts hinX2 hown hK hP 0 rfl rfl 9 (by decide) w_0 rfl rfl dX2_step_1 ?_
  refine lv_if_eq (tgt := 8) hx hb dX2_step_4 (by decide) (fun c_4 => ?_) (fun c_4 => ?_)
  · have c_4 : v0_9 = 0 := c_4
    have f_8_1 : iR v0_9 0 0 := iR_eqL c_4 hv0_9 (iR_c (n := 0) (a := 0) (b := 0) (by decide +kernel) (by decide +kernel)) (by decide +kernel)
    refine lv_aload_n hx hb dX2_step_8 rfl (lv_at hl 0 rfl) ?_
    refine k_get (D := (dC, dI)) (ci := 2) (v := .int v0_4) (C := RX2) (T := TX2) (N := 11) hx hb hts hinX2 hown hK hP 0 rfl rfl 4 (by decide) w_1 rfl rfl dX2_step_9 ?_
    refine lv_istore_n (lv' := [(1, .int v0_4), (0, .ref a0)]) hx hb dX2_step_12 rfl hl (by decide) rfl (fun ls hl => ?_)
    refine lv_aload_n hx hb dX2_step_13 rfl (lv_at hl 1 rfl) ?_
    refine k_get (D := (dC, dI)) (ci := 2) (v := .int v0_6) (C := RX2) (T := TX2) (N := 11) hx hb hts hinX2 hown hK hP 0 rfl rfl 6 (by decide) w_2 rfl rfl dX2_step_14 ?_
    refine k_ci (wc := []) (wr := [(a0, .inr (2, [.ref a0_0, .ref a0_1, .ref a0_2, .int v0_3, .int v0_4, .int v0_5, .int v0_6, .int v0_7, .int 4, .int v0_9, .int v0_10])), (a0_0, .inl (cI, 1600, .inl f0_0)), (a0_1, .inl (cJ, 25, .inr (.inl g0_1)))]) (fun hPc hDc hFc => va_runS (As := [.int v0_6]) (rest := []) ⟨hx, hb, hml, hown, hts⟩ (s_X2_isWhole_v0 l dC dI cI cJ cZ cM v0_6 H.size) (va_cwS 1 hts gX2_step_X2_isWhole rfl rfl rfl (by decide +kernel) ⟨(Nat.le_of_ble_eq_true rfl), (Nat.le_of_ble_eq_true rfl)⟩) (k_pS hPc hDc hK hN hC hS hFc) rfl rfl hl.1 rfl (lv_room (Nat.le_of_ble_eq_true rfl)) dX2_step_17 ⟨(Nat.le_of_ble_eq_true rfl), (Nat.le_of_ble_eq_true rfl)⟩) hP hD hS hA [] [0, 1, 2] rfl rfl rfl rfl (by decide) (fun _ => rfl) 0 0 rfl rfl (fun r_17 u_17 H locs hw hP hD hS => ?_)
    have g_17_0 := hw
    have hP : va_P (dC, dI) vwCl [(a0, .inr (2, [.ref a0_0, .ref a0_1, .ref a0_2, .int v0_3, .int v0_4, .int v0_5, .int v0_6, .int v0_7, .int 4, .int v0_9, .int v0_10])), (a0_0, .inl (cI, 1600, .inl f0_0)), (a0_1, .inl (cJ, 25, .inr (.inl g0_1)))] H := hP
    have hD : va_D A [(a0, .inr (2, [.ref a0_0, .ref a0_1, .ref a0_2, .int v0_3, .int v0_4, .int v0_5, .int v0_6, .int v0_7, .int 4, .int v0_9, .int v0_10])), (a0_0, .inl (cI, 1600, .inl f0_0)), (a0_1, .inl (cJ, 25, .inr (.inl g0_1)))] := hD
    have J_21 : ∀ (n_21 : Nat) (j21_F0_4 : Int32) (hj21_F0_4 : iR j21_F0_4 0 1600) (hm_21 : (1600 - j21_F0_4.toInt).toNat < n_21) (H : Heap) (locs : List Loc) (ls : Array Slot), va_P (dC, dI) vwCl [(a0, .inr (2, [.ref a0_0, .ref a0_1, .ref a0_2, .int v0_3, .int j21_F0_4, .int v0_5, .int v0_6, .int v0_7, .int 4, .int v0_9, .int v0_10])), (a0_0, .inl (cI, 1600, .inl f0_0)), (a0_1, .inl (cJ, 25, .inr (.inl g0_1)))] H → va_D A [(a0, .inr (2, [.ref a0_0, .ref a0_1, .ref a0_2, .int v0_3, .int j21_F0_4, .int v0_5, .int v0_6, .int v0_7, .int 4, .int v0_9, .int v0_10])), (a0_0, .inl (cI, 1600, .inl f0_0)), (a0_1, .inl (cJ, 25, .inr (.inl g0_1)))] → va_S A s.heap H locs → lv_has ls 3 [(0, .ref a0), (1, .int v0_4), (2, .int r_17)] → W p l e ({ frames := 3, cells := 0, slots := 0, locals := 89 }) s m args below meth c H locs 0 0 (MQ below (va_Qv (fun (u9 : SU) => (iR (u9.1 0) 0 1600) ∧ (iR (u9.1 1) 0 1600) ∧ (iR (u9.1 2) 0 324) ∧ (iR (u9.1 4) 0 6) ∧ ((0 : Int32) < v0_9 → (0 : Int32) < (u9.1 4)) ∧ (((u9.1 4) = 0) ∨ (((u9.1 2) = 259)))) (fun u => k_B (dC, dI) vwCl (tyy cI cJ cZ cM) A ((fun (u9 : SU) => [(a0, .inr (2, [.ref a0_0, .ref a0_1, .ref a0_2, .int v0_3, .int (u9.1 0), .int (u9.1 1), .int (u9.1 2), .int (u9.1 3), .int 4, .int (u9.1 4), .int (u9.1 5)])), (a0_0, .inl (cI, 1600, .inl f0_0)), (a0_1, .inl (cJ, 25, .inr (.inl g0_1)))]) u)) A) args s 0 0 A) (F0 m 21 ls []) := by
      intro n_21
      induction n_21 with
      | zero => intro j21_F0_4 hj21_F0_4 hm_21; exact absurd hm_21 (Nat.not_lt_zero _)
      | succ n_21 ih_21 =>
        intro j21_F0_4 hj21_F0_4 hm_21 H locs ls hP hD hS hl
        refine lv_aload_n hx hb dX2_step_21 rfl (lv_at hl 0 rfl) ?_
        refine k_get (D := (dC, dI)) (ci := 2) (v := .int j21_F0_4) (C := RX2) (T := TX2) (N := 11) hx hb hts hinX2 hown hK hP 0 rfl rfl 4 (by decide) w_1 rfl rfl dX2_step_22 ?_
        refine lv_aload_n hx hb dX2_step_25 rfl (lv_at hl 0 rfl) ?_
        refine k_get (D := (dC, dI)) (ci := 2) (v := .int v0_3) (C := RX2) (T := TX2) (N := 11) hx hb hts hinX2 hown hK hP 0 rfl rfl 3 (by decide) w_3 rfl rfl dX2_step_26 ?_
        have J_73 : ∀   (H : Heap) (locs : List Loc) (ls : Array Slot), va_P (dC, dI) vwCl [(a0, .inr (2, [.ref a0_0, .ref a0_1, .ref a0_2, .int v0_3, .int j21_F0_4, .int v0_5, .int v0_6, .int v0_7, .int 4, .int v0_9, .int v0_10])), (a0_0, .inl (cI, 1600, .inl f0_0)), (a0_1, .inl (cJ, 25, .inr (.inl g0_1)))] H → va_D A [(a0, .inr (2, [.ref a0_0, .ref a0_1, .ref a0_2, .int v0_3, .int j21_F0_4, .int v0_5, .int v0_6, .int v0_7, .int 4, .int v0_9, .int v0_10])), (a0_0, .inl (cI, 1600, .inl f0_0)), (a0_1, .inl (cJ, 25, .inr (.inl g0_1)))] → va_S A s.heap H locs → lv_has ls 3 [(0, .ref a0), (1, .int v0_4), (2, .int r_17)] → W p l e ({ frames := 3, cells := 0, slots := 0, locals := 89 }) s m args below meth c H locs 0 0 (MQ below (va_Qv (fun (u9 : SU) => (iR (u9.1 0) 0 1600) ∧ (iR (u9.1 1) 0 1600) ∧ (iR (u9.1 2) 0 324) ∧ (iR (u9.1 4) 0 6) ∧ ((0 : Int32) < v0_9 → (0 : Int32) < (u9.1 4)) ∧ (((u9.1 4) = 0) ∨ (((u9.1 2) = 259)))) (fun u => k_B (dC, dI) vwCl (tyy cI cJ cZ cM) A ((fun (u9 : SU) => [(a0, .inr (2, [.ref a0_0, .ref a0_1, .ref a0_2, .int v0_3, .int (u9.1 0), .int (u9.1 1), .int (u9.1 2), .int (u9.1 3), .int 4, .int (u9.1 4), .int (u9.1 5)])), (a0_0, .inl (cI, 1600, .inl f0_0)), (a0_1, .inl (cJ, 25, .inr (.inl g0_1)))]) u)) A) args s 0 0 A) (F0 m 73 ls []) := by
          intro   H locs ls hP hD hS hl
          refine lv_aload_n hx hb dX2_step_73 rfl (lv_at hl 0 rfl) ?_
          refine lv_aload_n hx hb dX2_step_74 rfl (lv_at hl 0 rfl) ?_
          refine k_get (D := (dC, dI)) (ci := 2) (v := .int j21_F0_4) (C := RX2) (T := TX2) (N := 11) hx hb hts hinX2 hown hK hP 0 rfl rfl 4 (by decide) w_1 rfl rfl dX2_step_75 ?_
          refine k_put (D := (dC, dI)) (ci := 2) (v := .int j21_F0_4) (C := RX2) (T := TX2) (N := 11) (ws' := [(a0, .inr (2, [.ref a0_0, .ref a0_1, .ref a0_2, .int v0_3, .int j21_F0_4, .int j21_F0_4, .int v0_6, .int v0_7, .int 4, .int v0_9, .int v0_10])), (a0_0, .inl (cI, 1600, .inl f0_0)), (a0_1, .inl (cJ, 25, .inr (.inl g0_1)))]) hx hb hts hinX2 tyX2 tyX2_ok nmX2 hown hK hP hD hS 0 rfl rfl 5 (by decide) w_4 rfl rfl rfl rfl (Nat.le_of_ble_eq_true rfl) rfl dX2_step_78 (fun H locs hP hD hS => ?_)
          refine lv_aload_n hx hb dX2_step_81 rfl (lv_at hl 0 rfl) ?_
          refine k_get (D := (dC, dI)) (ci := 2) (v := .int j21_F0_4) (C := RX2) (T := TX2) (N := 11) hx hb hts hinX2 hown hK hP 0 rfl rfl 4 (by decide) w_1 rfl rfl dX2_step_82 ?_
          refine lv_aload_n hx hb dX2_step_85 rfl (lv_at hl 0 rfl) ?_
          refine k_get (D := (dC, dI)) (ci := 2) (v := .int v0_3) (C := RX2) (T := TX2) (N := 11) hx hb hts hinX2 hown hK hP 0 rfl rfl 3 (by decide) w_3 rfl rfl dX2_step_86 ?_
          have J_169 : ∀ (j169_F0_4 : Int32) (j169_F0_6 : Int32) (j169_F0_7 : Int32) (j169_F0_9 : Int32) (j169_F0_10 : Int32) (hj169_F0_4 : iR j169_F0_4 0 1600) (hj169_F0_6 : iR j169_F0_6 0 324) (hj169_F0_9 : iR j169_F0_9 0 6) (t169_xf : (0 : Int32) < v0_9 → (0 : Int32) < j169_F0_9) (w169_0 : (j169_F0_9 = 0) ∨ ((j169_F0_6 = 259))) (H : Heap) (locs : List Loc) (ls : Array Slot), va_P (dC, dI) vwCl [(a0, .inr (2, [.ref a0_0, .ref a0_1, .ref a0_2, .int v0_3, .int j169_F0_4, .int j21_F0_4, .int j169_F0_6, .int j169_F0_7, .int 4, .int j169_F0_9, .int j169_F0_10])), (a0_0, .inl (cI, 1600, .inl f0_0)), (a0_1, .inl (cJ, 25, .inr (.inl g0_1)))] H → va_D A [(a0, .inr (2, [.ref a0_0, .ref a0_1, .ref a0_2, .int v0_3, .int j169_F0_4, .int j21_F0_4, .int j169_F0_6, .int j169_F0_7, .int 4, .int j169_F0_9, .int j169_F0_10])), (a0_0, .inl (cI, 1600, .inl f0_0)), (a0_1, .inl (cJ, 25, .inr (.inl g0_1)))] → va_S A s.heap H locs → lv_has ls 3 [(0, .ref a0), (1, .int v0_4), (2, .int r_17)] → W p l e ({ frames := 3, cells := 0, slots := 0, locals := 89 }) s m args below meth c H locs 0 0 (MQ below (va_Qv (fun (u9 : SU) => (iR (u9.1 0) 0 1600) ∧ (iR (u9.1 1) 0 1600) ∧ (iR (u9.1 2) 0 324) ∧ (iR (u9.1 4) 0 6) ∧ ((0 : Int32) < v0_9 → (0 : Int32) < (u9.1 4)) ∧ (((u9.1 4) = 0) ∨ (((u9.1 2) = 259)))) (fun u => k_B (dC, dI) vwCl (tyy cI cJ cZ cM) A ((fun (u9 : SU) => [(a0, .inr (2, [.ref a0_0, .ref a0_1, .ref a0_2, .int v0_3, .int (u9.1 0), .int (u9.1 1), .int (u9.1 2), .int (u9.1 3), .int 4, .int (u9.1 4), .int (u9.1 5)])), (a0_0, .inl (cI, 1600, .inl f0_0)), (a0_1, .inl (cJ, 25, .inr (.inl g0_1)))]) u)) A) args s 0 0 A) (F0 m 169 ls []) := by
            intro j169_F0_4 j169_F0_6 j169_F0_7 j169_F0_9 j169_F0_10 hj169_F0_4 hj169_F0_6 hj169_F0_9 t169_xf w169_0 H locs ls hP hD hS hl
            refine lv_iload_n hx hb dX2_step_169 rfl (lv_at hl 2 rfl) ?_
            refine lv_if_eq (tgt := 200) hx hb dX2_step_170 (by decide) (fun c_170 => ?_) (fun c_170 => ?_)
            · have c_170 : r_17 = 0 := c_170
              have f_200_1 : iR r_17 0 0 := iR_eqL c_170 g_17_0 (iR_c (n := 0) (a := 0) (b := 0) (by decide +kernel) (by decide +kernel)) (by decide +kernel)
              exact k_rv B hP hD hS dX2_step_200 ((fun k9 => match k9 with | 0 => j169_F0_4 | 1 => j21_F0_4 | 2 => j169_F0_6 | 3 => j169_F0_7 | 4 => j169_F0_9 | 5 => j169_F0_10 | _ => 0), (fun _ => 0), (fun _ => (fun _ => 0)), (fun _ => (fun _ => 0)), (fun _ => 0)) [0, 1, 2] rfl rfl (Nat.le_of_ble_eq_true rfl) (Nat.le_of_ble_eq_true rfl) ⟨(show iR j169_F0_4 0 1600 from hj169_F0_4), (show iR j21_F0_4 0 1600 from hj21_F0_4), (show iR j169_F0_6 0 324 from hj169_F0_6), (show iR j169_F0_9 0 6 from hj169_F0_9), (show (0 : Int32) < v0_9 → (0 : Int32) < j169_F0_9 from t169_xf), (show (j169_F0_9 = 0) ∨ ((j169_F0_6 = 259)) from w169_0)⟩
            · have c_170 : ¬ r_17 = 0 := c_170
              have f_173_1 : iR r_17 1 1 := iR_neL c_170 g_17_0 (iR_c (n := 0) (a := 0) (b := 0) (by decide +kernel) (by decide +kernel)) (by decide +kernel)
              refine lv_aload_n hx hb dX2_step_173 rfl (lv_at hl 0 rfl) ?_
              refine k_get (D := (dC, dI)) (ci := 2) (v := .int j21_F0_4) (C := RX2) (T := TX2) (N := 11) hx hb hts hinX2 hown hK hP 0 rfl rfl 5 (by decide) w_4 rfl rfl dX2_step_174 ?_
              refine lv_iload_n hx hb dX2_step_177 rfl (lv_at hl 1 rfl) ?_
              refine lv_icmp_ne (tgt := 200) hx hb dX2_step_178 (by decide) (fun c_178 => ?_) (fun c_178 => ?_)
              · have c_178 : ¬ j21_F0_4 = v0_4 := c_178
                exact k_rv B hP hD hS dX2_step_200 ((fun k9 => match k9 with | 0 => j169_F0_4 | 1 => j21_F0_4 | 2 => j169_F0_6 | 3 => j169_F0_7 | 4 => j169_F0_9 | 5 => j169_F0_10 | _ => 0), (fun _ => 0), (fun _ => (fun _ => 0)), (fun _ => (fun _ => 0)), (fun _ => 0)) [0, 1, 2] rfl rfl (Nat.le_of_ble_eq_true rfl) (Nat.le_of_ble_eq_true rfl) ⟨(show iR j169_F0_4 0 1600 from hj169_F0_4), (show iR j21_F0_4 0 1600 from hj21_F0_4), (show iR j169_F0_6 0 324 from hj169_F0_6), (show iR j169_F0_9 0 6 from hj169_F0_9), (show (0 : Int32) < v0_9 → (0 : Int32) < j169_F0_9 from t169_xf), (show (j169_F0_9 = 0) ∨ ((j169_F0_6 = 259)) from w169_0)⟩
              · have c_178 : j21_F0_4 = v0_4 := c_178
                refine lv_aload_n hx hb dX2_step_181 rfl (lv_at hl 0 rfl) ?_
                refine k_get (D := (dC, dI)) (ci := 2) (v := .int j169_F0_6) (C := RX2) (T := TX2) (N := 11) hx hb hts hinX2 hown hK hP 0 rfl rfl 6 (by decide) w_2 rfl rfl dX2_step_182 ?_
                refine k_ci (wc := []) (wr := [(a0, .inr (2, [.ref a0_0, .ref a0_1, .ref a0_2, .int v0_3, .int j169_F0_4, .int j21_F0_4, .int j169_F0_6, .int j169_F0_7, .int 4, .int j169_F0_9, .int j169_F0_10])), (a0_0, .inl (cI, 1600, .inl f0_0)), (a0_1, .inl (cJ, 25, .inr (.inl g0_1)))]) (fun hPc hDc hFc => va_runS (As := [.int j169_F0_6]) (rest := []) ⟨hx, hb, hml, hown, hts⟩ (s_X2_isWhole_v0 l dC dI cI cJ cZ cM j169_F0_6 H.size) (va_cwS 1 hts gX2_step_X2_isWhole rfl rfl rfl (by decide +kernel) ⟨(Nat.le_of_ble_eq_true rfl), (Nat.le_of_ble_eq_true rfl)⟩) (k_pS hPc hDc hK hN hC hS hFc) rfl rfl hl.1 rfl (lv_room (Nat.le_of_ble_eq_true rfl)) dX2_step_185 ⟨(Nat.le_of_ble_eq_true rfl), (Nat.le_of_ble_eq_true rfl)⟩) hP hD hS hA [] [0, 1, 2] rfl rfl rfl rfl (by decide) (fun _ => rfl) 0 0 rfl rfl (fun r_185 u_185 H locs hw hP hD hS => ?_)
                have g_185_0 := hw
                have hP : va_P (dC, dI) vwCl [(a0, .inr (2, [.ref a0_0, .ref a0_1, .ref a0_2, .int v0_3, .int j169_F0_4, .int j21_F0_4, .int j169_F0_6, .int j169_F0_7, .int 4, .int j169_F0_9, .int j169_F0_10])), (a0_0, .inl (cI, 1600, .inl f0_0)), (a0_1, .inl (cJ, 25, .inr (.inl g0_1)))] H := hP
                have hD : va_D A [(a0, .inr (2, [.ref a0_0, .ref a0_1, .ref a0_2, .int v0_3, .int j169_F0_4, .int j21_F0_4, .int j169_F0_6, .int j169_F0_7, .int 4, .int j169_F0_9, .int j169_F0_10])), (a0_0, .inl (cI, 1600, .inl f0_0)), (a0_1, .inl (cJ, 25, .inr (.inl g0_1)))] := hD
                refine lv_if_eq (tgt := 200) hx hb dX2_step_188 (by decide) (fun c_188 => ?_) (fun c_188 => ?_)
                · have c_188 : r_185 = 0 := c_188
                  have f_200_2 : iR r_185 0 0 := iR_eqL c_188 g_185_0 (iR_c (n := 0) (a := 0) (b := 0) (by decide +kernel) (by decide +kernel)) (by decide +kernel)
                  exact k_rv B hP hD hS dX2_step_200 ((fun k9 => match k9 with | 0 => j169_F0_4 | 1 => j21_F0_4 | 2 => j169_F0_6 | 3 => j169_F0_7 | 4 => j169_F0_9 | 5 => j169_F0_10 | _ => 0), (fun _ => 0), (fun _ => (fun _ => 0)), (fun _ => (fun _ => 0)), (fun _ => 0)) [0, 1, 2] rfl rfl (Nat.le_of_ble_eq_true rfl) (Nat.le_of_ble_eq_true rfl) ⟨(show iR j169_F0_4 0 1600 from hj169_F0_4), (show iR j21_F0_4 0 1600 from hj21_F0_4), (show iR j169_F0_6 0 324 from hj169_F0_6), (show iR j169_F0_9 0 6 from hj169_F0_9), (show (0 : Int32) < v0_9 → (0 : Int32) < j169_F0_9 from t169_xf), (show (j169_F0_9 = 0) ∨ ((j169_F0_6 = 259)) from w169_0)⟩
                · have c_188 : ¬ r_185 = 0 := c_188
                  have f_191_2 : iR r_185 1 1 := iR_neL c_188 g_185_0 (iR_c (n := 0) (a := 0) (b := 0) (by decide +kernel) (by decide +kernel)) (by decide +kernel)
                  refine lv_aload_n hx hb dX2_step_191 rfl (lv_at hl 0 rfl) ?_
                  refine lv_iconst (v := 1) hx hb dX2_step_192 (by decide +kernel) ?_
                  refine lv_aload_n hx hb dX2_step_193 rfl (lv_at hl 0 rfl) ?_
                  refine k_get (D := (dC, dI)) (ci := 2) (v := .int j21_F0_4) (C := RX2) (T := TX2) (N := 11) hx hb hts hinX2 hown hK hP 0 rfl rfl 5 (by decide) w_4 rfl rfl dX2_step_194 ?_
                  refine k_cv (wc := [(a0, .inr (2, [.ref a0_0, .ref a0_1, .ref a0_2, .int v0_3, .int j169_F0_4, .int j21_F0_4, .int j169_F0_6, .int j169_F0_7, .int 4, .int j169_F0_9, .int j169_F0_10]))]) (wr := [(a0_0, .inl (cI, 1600, .inl f0_0)), (a0_1, .inl (cJ, 25, .inr (.inl g0_1)))]) (fun hPc hDc hFc => va_runV (As := [.int 1, .int j21_F0_4]) (rest := []) ⟨hx, hb, hml, hown, hts⟩ (s_X2_blame_v14 l dC dI cI cJ cZ cM a0 1 j21_F0_4 a0_0 a0_1 a0_2 v0_3 j169_F0_4 j21_F0_4 j169_F0_6 j169_F0_7 j169_F0_9 j169_F0_10 (iR_c (n := 1) (a := 1) (b := 6) (by decide +kernel) (by decide +kernel)) hv0_3 hj169_F0_4 hj21_F0_4 hj169_F0_6 hj169_F0_9 w169_0 H.size) (cwV 2 hts gX2_step_X2_blame rfl rfl rfl (by decide +kernel) ⟨(Nat.le_of_ble_eq_true rfl), (Nat.le_of_ble_eq_true rfl)⟩) (k_pV hPc hDc hK hN hC hS hFc hP (q0 := 0) (ci := 2) rfl rfl) rfl rfl hl.1 rfl (lv_room (Nat.le_of_ble_eq_true rfl)) dX2_step_197 ⟨(Nat.le_of_ble_eq_true rfl), (Nat.le_of_ble_eq_true rfl)⟩) hP hD hS hA [0] [1, 2] rfl rfl rfl rfl (by decide) (fun _ => rfl) 0 0 rfl rfl (fun u_197 H locs hw hP hD hS => ?_)
                  obtain ⟨g_197_0, g_197_1, g_197_2, g_197_3⟩ := hw
                  have hP : va_P (dC, dI) vwCl [(a0_0, .inl (cI, 1600, .inl f0_0)), (a0_1, .inl (cJ, 25, .inr (.inl g0_1))), (a0, .inr (2, [.ref a0_0, .ref a0_1, .ref a0_2, .int v0_3, .int j169_F0_4, .int j21_F0_4, .int (u_197.1 0), .int j169_F0_7, .int 4, .int (u_197.1 1), .int (u_197.1 2)]))] H := hP
                  have hD : va_D A [(a0_0, .inl (cI, 1600, .inl f0_0)), (a0_1, .inl (cJ, 25, .inr (.inl g0_1))), (a0, .inr (2, [.ref a0_0, .ref a0_1, .ref a0_2, .int v0_3, .int j169_F0_4, .int j21_F0_4, .int (u_197.1 0), .int j169_F0_7, .int 4, .int (u_197.1 1), .int (u_197.1 2)]))] := hD
                  have g_197_2 : (0 : Int32) < j169_F0_9 → (0 : Int32) < (u_197.1 1) := g_197_2
                  have g_197_3 : ((u_197.1 1) = 0) ∨ (((u_197.1 0) = 259)) := g_197_3
                  obtain d197_1_0 := g_197_3.resolve_left (i_nef g_197_1 (iR_c (n := 0) (a := 0) (b := 0) (by decide +kernel) (by decide +kernel)) (by decide +kernel))
                  exact k_rv B hP hD hS dX2_step_200 ((fun k9 => match k9 with | 0 => j169_F0_4 | 1 => j21_F0_4 | 2 => (u_197.1 0) | 3 => j169_F0_7 | 4 => (u_197.1 1) | 5 => (u_197.1 2) | _ => 0), (fun _ => 0), (fun _ => (fun _ => 0)), (fun _ => (fun _ => 0)), (fun _ => 0)) [2, 0, 1] rfl rfl (Nat.le_of_ble_eq_true rfl) (Nat.le_of_ble_eq_true rfl) ⟨(show iR j169_F0_4 0 1600 from hj169_F0_4), (show iR j21_F0_4 0 1600 from hj21_F0_4), (show iR (u_197.1 0) 0 324 from (iR_w g_197_0 (by decide +kernel))), (show iR (u_197.1 1) 0 6 from (iR_w g_197_1 (by decide +kernel))), (show (0 : Int32) < v0_9 → (0 : Int32) < (u_197.1 1) from (fun h => g_197_2 (t169_xf h))), (show ((u_197.1 1) = 0) ∨ (((u_197.1 0) = 259)) from (Or.inr d197_1_0))⟩
          refine lv_icmp_lt (tgt := 102) hx hb dX2_step_89 (by decide) (fun c_89 => ?_) (fun c_89 => ?_)
          · have c_89 : j21_F0_4 < v0_3 := c_89
            have f_102_1 : iR j21_F0_4 0 1599 := iR_ltL c_89 hj21_F0_4 hv0_3 (by decide +kernel)
            have f_102_2 : iR v0_3 1 1600 := iR_ltR c_89 hj21_F0_4 hv0_3 (by decide +kernel)
            refine lv_aload_n hx hb dX2_step_102 rfl (lv_at hl 0 rfl) ?_
            refine k_get (D := (dC, dI)) (ci := 2) (v := .ref a0_0) (C := RX2) (T := TX2) (N := 11) hx hb hts hinX2 hown hK hP 0 rfl rfl 0 (by decide) w_5 rfl rfl dX2_step_103 ?_
            refine lv_aload_n hx hb dX2_step_106 rfl (lv_at hl 0 rfl) ?_
            refine k_get (D := (dC, dI)) (ci := 2) (v := .int j21_F0_4) (C := RX2) (T := TX2) (N := 11) hx hb hts hinX2 hown hK hP 0 rfl rfl 4 (by decide) w_1 rfl rfl dX2_step_107 ?_
            refine va_iald hx hb hK hP 1 0 rfl rfl (iR_vp f_102_1 (by decide +kernel)) dX2_step_110 ?_
            have f_110_3 : iR (f0_0 j21_F0_4.toNatClampNeg) 0 255 := hf0_0 _
            refine k_ci (wc := []) (wr := [(a0, .inr (2, [.ref a0_0, .ref a0_1, .ref a0_2, .int v0_3, .int j21_F0_4, .int j21_F0_4, .int v0_6, .int v0_7, .int 4, .int v0_9, .int v0_10])), (a0_0, .inl (cI, 1600, .inl f0_0)), (a0_1, .inl (cJ, 25, .inr (.inl g0_1)))]) (fun hPc hDc hFc => va_runS (As := [.int (f0_0 j21_F0_4.toNatClampNeg)]) (rest := []) ⟨hx, hb, hml, hown, hts⟩ (s_X2_isLetter_v0 l dC dI cI cJ cZ cM (f0_0 j21_F0_4.toNatClampNeg) H.size) (va_cwS 1 hts gX2_step_X2_isLetter rfl rfl rfl (by decide +kernel) ⟨(Nat.le_of_ble_eq_true rfl), (Nat.le_of_ble_eq_true rfl)⟩) (k_pS hPc hDc hK hN hC hS hFc) rfl rfl hl.1 rfl (lv_room (Nat.le_of_ble_eq_true rfl)) dX2_step_111 ⟨(Nat.le_of_ble_eq_true rfl), (Nat.le_of_ble_eq_true rfl)⟩) hP hD hS hA [] [0, 1, 2] rfl rfl rfl rfl (by decide) (fun _ => rfl) 0 0 rfl rfl (fun r_111 u_111 H locs hw hP hD hS => ?_)
            have g_111_0 := hw
            have hP : va_P (dC, dI) vwCl [(a0, .inr (2, [.ref a0_0, .ref a0_1, .ref a0_2, .int v0_3, .int j21_F0_4, .int j21_F0_4, .int v0_6, .int v0_7, .int 4, .int v0_9, .int v0_10])), (a0_0, .inl (cI, 1600, .inl f0_0)), (a0_1, .inl (cJ, 25, .inr (.inl g0_1)))] H := hP
            have hD : va_D A [(a0, .inr (2, [.ref a0_0, .ref a0_1, .ref a0_2, .int v0_3, .int j21_F0_4, .int j21_F0_4, .int v0_6, .int v0_7, .int 4, .int v0_9, .int v0_10])), (a0_0, .inl (cI, 1600, .inl f0_0)), (a0_1, .inl (cJ, 25, .inr (.inl g0_1)))] := hD
            refine lv_if_eq (tgt := 124) hx hb dX2_step_114 (by decide) (fun c_114 => ?_) (fun c_114 => ?_)
            · have c_114 : r_111 = 0 := c_114
              have f_124_4 : iR r_111 0 0 := iR_eqL c_114 g_111_0 (iR_c (n := 0) (a := 0) (b := 0) (by decide +kernel) (by decide +kernel)) (by decide +kernel)
              refine lv_aload_n hx hb dX2_step_124 rfl (lv_at hl 0 rfl) ?_
              refine k_get (D := (dC, dI)) (ci := 2) (v := .ref a0_0) (C := RX2) (T := TX2) (N := 11) hx hb hts hinX2 hown hK hP 0 rfl rfl 0 (by decide) w_5 rfl rfl dX2_step_125 ?_
              refine lv_aload_n hx hb dX2_step_128 rfl (lv_at hl 0 rfl) ?_
              refine k_get (D := (dC, dI)) (ci := 2) (v := .int j21_F0_4) (C := RX2) (T := TX2) (N := 11) hx hb hts hinX2 hown hK hP 0 rfl rfl 4 (by decide) w_1 rfl rfl dX2_step_129 ?_
              refine va_iald hx hb hK hP 1 0 rfl rfl (iR_vp f_102_1 (by decide +kernel)) dX2_step_132 ?_
              refine k_ci (wc := []) (wr := [(a0, .inr (2, [.ref a0_0, .ref a0_1, .ref a0_2, .int v0_3, .int j21_F0_4, .int j21_F0_4, .int v0_6, .int v0_7, .int 4, .int v0_9, .int v0_10])), (a0_0, .inl (cI, 1600, .inl f0_0)), (a0_1, .inl (cJ, 25, .inr (.inl g0_1)))]) (fun hPc hDc hFc => va_runS (As := [.int (f0_0 j21_F0_4.toNatClampNeg)]) (rest := []) ⟨hx, hb, hml, hown, hts⟩ (s_X2_isDigit_v0 l dC dI cI cJ cZ cM (f0_0 j21_F0_4.toNatClampNeg) H.size) (va_cwS 1 hts gX2_step_X2_isDigit rfl rfl rfl (by decide +kernel) ⟨(Nat.le_of_ble_eq_true rfl), (Nat.le_of_ble_eq_true rfl)⟩) (k_pS hPc hDc hK hN hC hS hFc) rfl rfl hl.1 rfl (lv_room (Nat.le_of_ble_eq_true rfl)) dX2_step_133 ⟨(Nat.le_of_ble_eq_true rfl), (Nat.le_of_ble_eq_true rfl)⟩) hP hD hS hA [] [0, 1, 2] rfl rfl rfl rfl (by decide) (fun _ => rfl) 0 0 rfl rfl (fun r_133 u_133 H locs hw hP hD hS => ?_)
              have g_133_0 := hw
              have hP : va_P (dC, dI) vwCl [(a0, .inr (2, [.ref a0_0, .ref a0_1, .ref a0_2, .int v0_3, .int j21_F0_4, .int j21_F0_4, .int v0_6, .int v0_7, .int 4, .int v0_9, .int v0_10])), (a0_0, .inl (cI, 1600, .inl f0_0)), (a0_1, .inl (cJ, 25, .inr (.inl g0_1)))] H := hP
              have hD : va_D A [(a0, .inr (2, [.ref a0_0, .ref a0_1, .ref a0_2, .int v0_3, .int j21_F0_4, .int j21_F0_4, .int v0_6, .int v0_7, .int 4, .int v0_9, .int v0_10])), (a0_0, .inl (cI, 1600, .inl f0_0)), (a0_1, .inl (cJ, 25, .inr (.inl g0_1)))] := hD
              refine lv_if_eq (tgt := 146) hx hb dX2_step_136 (by decide) (fun c_136 => ?_) (fun c_136 => ?_)
              · have c_136 : r_133 = 0 := c_136
                have f_146_5 : iR r_133 0 0 := iR_eqL c_136 g_133_0 (iR_c (n := 0) (a := 0) (b := 0) (by decide +kernel) (by decide +kernel)) (by decide +kernel)
                refine lv_aload_n hx hb dX2_step_146 rfl (lv_at hl 0 rfl) ?_
                refine lv_aload_n hx hb dX2_step_147 rfl (lv_at hl 0 rfl) ?_
                refine k_get (D := (dC, dI)) (ci := 2) (v := .ref a0_0) (C := RX2) (T := TX2) (N := 11) hx hb hts hinX2 hown hK hP 0 rfl rfl 0 (by decide) w_5 rfl rfl dX2_step_148 ?_
                refine lv_aload_n hx hb dX2_step_151 rfl (lv_at hl 0 rfl) ?_
                refine k_get (D := (dC, dI)) (ci := 2) (v := .int j21_F0_4) (C := RX2) (T := TX2) (N := 11) hx hb hts hinX2 hown hK hP 0 rfl rfl 4 (by decide) w_1 rfl rfl dX2_step_152 ?_
                refine va_iald hx hb hK hP 1 0 rfl rfl (iR_vp f_102_1 (by decide +kernel)) dX2_step_155 ?_
                refine k_put (D := (dC, dI)) (ci := 2) (v := .int (f0_0 j21_F0_4.toNatClampNeg)) (C := RX2) (T := TX2) (N := 11) (ws' := [(a0, .inr (2, [.ref a0_0, .ref a0_1, .ref a0_2, .int v0_3, .int j21_F0_4, .int j21_F0_4, .int (f0_0 j21_F0_4.toNatClampNeg), .int v0_7, .int 4, .int v0_9, .int v0_10])), (a0_0, .inl (cI, 1600, .inl f0_0)), (a0_1, .inl (cJ, 25, .inr (.inl g0_1)))]) hx hb hts hinX2 tyX2 tyX2_ok nmX2 hown hK hP hD hS 0 rfl rfl 6 (by decide) w_2 rfl rfl rfl rfl (Nat.le_of_ble_eq_true rfl) rfl dX2_step_156 (fun H locs hP hD hS => ?_)
                refine lv_aload_n hx hb dX2_step_159 rfl (lv_at hl 0 rfl) ?_
                refine lv_dup hx hb dX2_step_160 rfl ?_
                refine k_get (D := (dC, dI)) (ci := 2) (v := .int j21_F0_4) (C := RX2) (T := TX2) (N := 11) hx hb hts hinX2 hown hK hP 0 rfl rfl 4 (by decide) w_1 rfl rfl dX2_step_161 ?_
                refine lv_iconst (v := 1) hx hb dX2_step_164 (by decide +kernel) ?_
                refine lv_iadd hx hb dX2_step_165 ?_
                refine lv_topi (fun y_165 ey_165 => ?_)
                have f_165_6 : iR y_165 1 1600 := iR_add ey_165 f_102_1 (iR_c (n := 1) (a := 1) (b := 1) (by decide +kernel) (by decide +kernel)) (by decide +kernel)
                refine k_put (D := (dC, dI)) (ci := 2) (v := .int y_165) (C := RX2) (T := TX2) (N := 11) (ws' := [(a0, .inr (2, [.ref a0_0, .ref a0_1, .ref a0_2, .int v0_3, .int y_165, .int j21_F0_4, .int (f0_0 j21_F0_4.toNatClampNeg), .int v0_7, .int 4, .int v0_9, .int v0_10])), (a0_0, .inl (cI, 1600, .inl f0_0)), (a0_1, .inl (cJ, 25, .inr (.inl g0_1)))]) hx hb hts hinX2 tyX2 tyX2_ok nmX2 hown hK hP hD hS 0 rfl rfl 4 (by decide) w_1 rfl rfl rfl rfl (Nat.le_of_ble_eq_true rfl) rfl dX2_step_166 (fun H locs hP hD hS => ?_)
                exact J_169 y_165 (f0_0 j21_F0_4.toNatClampNeg) v0_7 v0_9 v0_10 (iR_w f_165_6 (by decide +kernel)) (iR_w f_110_3 (by decide +kernel)) (iR_w f_8_1 (by decide +kernel)) (fun h => h) (Or.inl c_4) H locs ls hP hD hS (lv_sub hl [0, 1, 2] rfl)
              · have c_136 : ¬ r_133 = 0 := c_136
                have f_139_5 : iR r_133 1 1 := iR_neL c_136 g_133_0 (iR_c (n := 0) (a := 0) (b := 0) (by decide +kernel) (by decide +kernel)) (by decide +kernel)
                refine lv_aload_n hx hb dX2_step_139 rfl (lv_at hl 0 rfl) ?_
                refine k_cv (wc := [(a0, .inr (2, [.ref a0_0, .ref a0_1, .ref a0_2, .int v0_3, .int j21_F0_4, .int j21_F0_4, .int v0_6, .int v0_7, .int 4, .int v0_9, .int v0_10])), (a0_0, .inl (cI, 1600, .inl f0_0))]) (wr := [(a0_1, .inl (cJ, 25, .inr (.inl g0_1)))]) (fun hPc hDc hFc => va_runV (As := []) (rest := []) ⟨hx, hb, hml, hown, hts⟩ (s_X2_readNumber_v9 l dC dI cI cJ cZ cM a0 a0_0 f0_0 a0_1 a0_2 v0_3 j21_F0_4 j21_F0_4 v0_6 v0_7 v0_9 v0_10 (show iR v0_9 0 0 from f_8_1) (iR_w f_102_2 (by decide +kernel)) (iR_w f_102_1 (by decide +kernel)) (iR_w f_102_1 (by decide +kernel)) hv0_6 (iR_w f_8_1 (by decide +kernel)) hf0_0 hpg0 H.size) (cwV 0 hts gX2_step_X2_readNumber rfl rfl rfl (by decide +kernel) ⟨(Nat.le_of_ble_eq_true rfl), (Nat.le_of_ble_eq_true rfl)⟩) (k_pV hPc hDc hK hN hC hS hFc hP (q0 := 0) (ci := 2) rfl rfl) rfl rfl hl.1 rfl (lv_room (Nat.le_of_ble_eq_true rfl)) dX2_step_140 ⟨(Nat.le_of_ble_eq_true rfl), (Nat.le_of_ble_eq_true rfl)⟩) hP hD hS hA [0, 1] [2] rfl rfl rfl rfl (by decide) (fun _ => rfl) 0 0 rfl rfl (fun u_140 H locs hw hP hD hS => ?_)
                obtain ⟨g_140_0, g_140_1, g_140_2, g_140_3, g_140_4⟩ := hw
                have hP : va_P (dC, dI) vwCl [(a0_1, .inl (cJ, 25, .inr (.inl g0_1))), (a0, .inr (2, [.ref a0_0, .ref a0_1, .ref a0_2, .int v0_3, .int (u_140.1 0), .int j21_F0_4, .int (u_140.1 1), .int (u_140.1 2), .int 4, .int (u_140.1 3), .int (u_140.1 4)])), (a0_0, .inl (cI, 1600, .inl f0_0))] H := hP
                have hD : va_D A [(a0_1, .inl (cJ, 25, .inr (.inl g0_1))), (a0, .inr (2, [.ref a0_0, .ref a0_1, .ref a0_2, .int v0_3, .int (u_140.1 0), .int j21_F0_4, .int (u_140.1 1), .int (u_140.1 2), .int 4, .int (u_140.1 3), .int (u_140.1 4)])), (a0_0, .inl (cI, 1600, .inl f0_0))] := hD
                have g_140_3 : (0 : Int32) < v0_9 → (0 : Int32) < (u_140.1 3) := g_140_3
                have g_140_4 : ((u_140.1 3) = 0) ∨ (((u_140.1 1) = 259)) := g_140_4
                refine lv_goto (tgt := 169) hx hb dX2_step_143 (by decide) ?_
                exact J_169 (u_140.1 0) (u_140.1 1) (u_140.1 2) (u_140.1 3) (u_140.1 4) g_140_0 (iR_w g_140_1 (by decide +kernel)) g_140_2 (fun h => g_140_3 ((fun h => h) h)) g_140_4 H locs ls (hP.sub [1, 2, 0] rfl) (hD.sub [1, 2, 0] (by decide +kernel) rfl) hS (lv_sub hl [0, 1, 2] rfl)
            · have c_114 : ¬ r_111 = 0 := c_114
              have f_117_4 : iR r_111 1 1 := iR_neL c_114 g_111_0 (iR_c (n := 0) (a := 0) (b := 0) (by decide +kernel) (by decide +kernel)) (by decide +kernel)
              refine lv_aload_n hx hb dX2_step_117 rfl (lv_at hl 0 rfl) ?_
              refine k_cv (wc := [(a0, .inr (2, [.ref a0_0, .ref a0_1, .ref a0_2, .int v0_3, .int j21_F0_4, .int j21_F0_4, .int v0_6, .int v0_7, .int 4, .int v0_9, .int v0_10])), (a0_0, .inl (cI, 1600, .inl f0_0)), (a0_1, .inl (cJ, 25, .inr (.inl g0_1)))]) (wr := []) (fun hPc hDc hFc => va_runV (As := []) (rest := []) ⟨hx, hb, hml, hown, hts⟩ (s_X2_readWord_v9 l dC dI cI cJ cZ cM a0 a0_0 f0_0 a0_1 g0_1 a0_2 v0_3 j21_F0_4 j21_F0_4 v0_6 v0_7 v0_9 v0_10 (show iR v0_9 0 0 from f_8_1) (iR_w f_102_2 (by decide +kernel)) (iR_w f_102_1 (by decide +kernel)) (iR_w f_102_1 (by decide +kernel)) hv0_6 (iR_w f_8_1 (by decide +kernel)) hf0_0 hpg0 H.size) (cwV 0 hts gX2_step_X2_readWord rfl rfl rfl (by decide +kernel) ⟨(Nat.le_of_ble_eq_true rfl), (Nat.le_of_ble_eq_true rfl)⟩) (k_pV hPc hDc hK hN hC hS hFc hP (q0 := 0) (ci := 2) rfl rfl) rfl rfl hl.1 rfl (lv_room (Nat.le_of_ble_eq_true rfl)) dX2_step_118 ⟨(Nat.le_of_ble_eq_true rfl), (Nat.le_of_ble_eq_true rfl)⟩) hP hD hS hA [0, 1, 2] [] rfl rfl rfl rfl (by decide) (fun _ => rfl) 0 0 rfl rfl (fun u_118 H locs hw hP hD hS => ?_)
              obtain ⟨g_118_0, g_118_1, g_118_2, g_118_3, g_118_4⟩ := hw
              have hP : va_P (dC, dI) vwCl [(a0, .inr (2, [.ref a0_0, .ref a0_1, .ref a0_2, .int v0_3, .int (u_118.1 0), .int j21_F0_4, .int (u_118.1 1), .int (u_118.1 2), .int 4, .int (u_118.1 3), .int (u_118.1 4)])), (a0_0, .inl (cI, 1600, .inl f0_0)), (a0_1, .inl (cJ, 25, .inr (.inl g0_1)))] H := hP
              have hD : va_D A [(a0, .inr (2, [.ref a0_0, .ref a0_1, .ref a0_2, .int v0_3, .int (u_118.1 0), .int j21_F0_4, .int (u_118.1 1), .int (u_118.1 2), .int 4, .int (u_118.1 3), .int (u_118.1 4)])), (a0_0, .inl (cI, 1600, .inl f0_0)), (a0_1, .inl (cJ, 25, .inr (.inl g0_1)))] := hD
              have g_118_3 : (0 : Int32) < v0_9 → (0 : Int32) < (u_118.1 3) := g_118_3
              have g_118_4 : ((u_118.1 3) = 0) ∨ (((u_118.1 1) = 259)) := g_118_4
              refine lv_goto (tgt := 169) hx hb dX2_step_121 (by decide) ?_
              exact J_169 (u_118.1 0) (u_118.1 1) (u_118.1 2) (u_118.1 3) (u_118.1 4) g_118_0 (iR_w g_118_1 (by decide +kernel)) g_118_2 (fun h => g_118_3 ((fun h => h) h)) g_118_4 H locs ls hP hD hS (lv_sub hl [0, 1, 2] rfl)
          · have c_89 : v0_3 ≤ j21_F0_4 := i_nlt c_89
            refine lv_aload_n hx hb dX2_step_92 rfl (lv_at hl 0 rfl) ?_
            refine lv_sipush (v := 256) hx hb dX2_step_93 (by decide +kernel) ?_
            refine k_put (D := (dC, dI)) (ci := 2) (v := .int 256) (C := RX2) (T := TX2) (N := 11) (ws' := [(a0, .inr (2, [.ref a0_0, .ref a0_1, .ref a0_2, .int v0_3, .int j21_F0_4, .int j21_F0_4, .int 256, .int v0_7, .int 4, .int v0_9, .int v0_10])), (a0_0, .inl (cI, 1600, .inl f0_0)), (a0_1, .inl (cJ, 25, .inr (.inl g0_1)))]) hx hb hts hinX2 tyX2 tyX2_ok nmX2 hown hK hP hD hS 0 rfl rfl 6 (by decide) w_2 rfl rfl rfl rfl (Nat.le_of_ble_eq_true rfl) rfl dX2_step_96 (fun H locs hP hD hS => ?_)
            refine lv_goto (tgt := 169) hx hb dX2_step_99 (by decide) ?_
            exact J_169 j21_F0_4 256 v0_7 v0_9 v0_10 hj21_F0_4 (iR_c (n := 256) (a := 0) (b := 324) (by decide +kernel) (by decide +kernel)) (iR_w f_8_1 (by decide +kernel)) (fun h => h) (Or.inl c_4) H locs ls hP hD hS (lv_sub hl [0, 1, 2] rfl)
        refine lv_icmp_ge (tgt := 73) hx hb dX2_step_29 (by decide) (fun c_29 => ?_) (fun c_29 => ?_)
        · have c_29 : v0_3 ≤ j21_F0_4 := c_29
          exact J_73   H locs ls hP hD hS (lv_sub hl [0, 1, 2] rfl)
        · have c_29 : j21_F0_4 < v0_3 := i_nle c_29
          have f_32_1 : iR j21_F0_4 0 1599 := iR_ltL c_29 hj21_F0_4 hv0_3 (by decide +kernel)
          have f_32_2 : iR v0_3 1 1600 := iR_ltR c_29 hj21_F0_4 hv0_3 (by decide +kernel)
          refine lv_aload_n hx hb dX2_step_32 rfl (lv_at hl 0 rfl) ?_
          refine k_get (D := (dC, dI)) (ci := 2) (v := .ref a0_0) (C := RX2) (T := TX2) (N := 11) hx hb hts hinX2 hown hK hP 0 rfl rfl 0 (by decide) w_5 rfl rfl dX2_step_33 ?_
          refine lv_aload_n hx hb dX2_step_36 rfl (lv_at hl 0 rfl) ?_
          refine k_get (D := (dC, dI)) (ci := 2) (v := .int j21_F0_4) (C := RX2) (T := TX2) (N := 11) hx hb hts hinX2 hown hK hP 0 rfl rfl 4 (by decide) w_1 rfl rfl dX2_step_37 ?_
          refine va_iald hx hb hK hP 1 0 rfl rfl (iR_vp f_32_1 (by decide +kernel)) dX2_step_40 ?_
          have f_40_3 : iR (f0_0 j21_F0_4.toNatClampNeg) 0 255 := hf0_0 _
          refine lv_bipush (v := 32) hx hb dX2_step_41 (by decide +kernel) ?_
          have J_60 : ∀  (k60_0 : iR (f0_0 j21_F0_4.toNatClampNeg) 10 32) (H : Heap) (locs : List Loc) (ls : Array Slot), va_P (dC, dI) vwCl [(a0, .inr (2, [.ref a0_0, .ref a0_1, .ref a0_2, .int v0_3, .int j21_F0_4, .int v0_5, .int v0_6, .int v0_7, .int 4, .int v0_9, .int v0_10])), (a0_0, .inl (cI, 1600, .inl f0_0)), (a0_1, .inl (cJ, 25, .inr (.inl g0_1)))] H → va_D A [(a0, .inr (2, [.ref a0_0, .ref a0_1, .ref a0_2, .int v0_3, .int j21_F0_4, .int v0_5, .int v0_6, .int v0_7, .int 4, .int v0_9, .int v0_10])), (a0_0, .inl (cI, 1600, .inl f0_0)), (a0_1, .inl (cJ, 25, .inr (.inl g0_1)))] → va_S A s.heap H locs → lv_has ls 3 [(0, .ref a0), (1, .int v0_4), (2, .int r_17)] → W p l e ({ frames := 3, cells := 0, slots := 0, locals := 89 }) s m args below meth c H locs 0 0 (MQ below (va_Qv (fun (u9 : SU) => (iR (u9.1 0) 0 1600) ∧ (iR (u9.1 1) 0 1600) ∧ (iR (u9.1 2) 0 324) ∧ (iR (u9.1 4) 0 6) ∧ ((0 : Int32) < v0_9 → (0 : Int32) < (u9.1 4)) ∧ (((u9.1 4) = 0) ∨ (((u9.1 2) = 259)))) (fun u => k_B (dC, dI) vwCl (tyy cI cJ cZ cM) A ((fun (u9 : SU) => [(a0, .inr (2, [.ref a0_0, .ref a0_1, .ref a0_2, .int v0_3, .int (u9.1 0), .int (u9.1 1), .int (u9.1 2), .int (u9.1 3), .int 4, .int (u9.1 4), .int (u9.1 5)])), (a0_0, .inl (cI, 1600, .inl f0_0)), (a0_1, .inl (cJ, 25, .inr (.inl g0_1)))]) u)) A) args s 0 0 A) (F0 m 60 ls []) := by
            intro  k60_0 H locs ls hP hD hS hl
            refine lv_aload_n hx hb dX2_step_60 rfl (lv_at hl 0 rfl) ?_
            refine lv_dup hx hb dX2_step_61 rfl ?_
            refine k_get (D := (dC, dI)) (ci := 2) (v := .int j21_F0_4) (C := RX2) (T := TX2) (N := 11) hx hb hts hinX2 hown hK hP 0 rfl rfl 4 (by decide) w_1 rfl rfl dX2_step_62 ?_
            refine lv_iconst (v := 1) hx hb dX2_step_65 (by decide +kernel) ?_
            refine lv_iadd hx hb dX2_step_66 ?_
            refine lv_topi (fun y_66 ey_66 => ?_)
            have f_66_1 : iR y_66 1 1600 := iR_add ey_66 f_32_1 (iR_c (n := 1) (a := 1) (b := 1) (by decide +kernel) (by decide +kernel)) (by decide +kernel)
            refine k_put (D := (dC, dI)) (ci := 2) (v := .int y_66) (C := RX2) (T := TX2) (N := 11) (ws' := [(a0, .inr (2, [.ref a0_0, .ref a0_1, .ref a0_2, .int v0_3, .int y_66, .int v0_5, .int v0_6, .int v0_7, .int 4, .int v0_9, .int v0_10])), (a0_0, .inl (cI, 1600, .inl f0_0)), (a0_1, .inl (cJ, 25, .inr (.inl g0_1)))]) hx hb hts hinX2 tyX2 tyX2_ok nmX2 hown hK hP hD hS 0 rfl rfl 4 (by decide) w_1 rfl rfl rfl rfl (Nat.le_of_ble_eq_true rfl) rfl dX2_step_67 (fun H locs hP hD hS => ?_)
            refine lv_goto (tgt := 21) hx hb dX2_step_70 (by decide) ?_
            exact ih_21 y_66 (iR_w f_66_1 (by decide +kernel)) (m_up (B := 1600) hm_21 ey_66 f_32_1 (by decide +kernel)) H locs ls hP hD hS (lv_sub hl [0, 1, 2] rfl)
          refine lv_icmp_eq (tgt := 60) hx hb dX2_step_43 (by decide) (fun c_43 => ?_) (fun c_43 => ?_)
          · have c_43 : (f0_0 j21_F0_4.toNatClampNeg) = 32 := c_43
            have f_60_4 : iR (f0_0 j21_F0_4.toNatClampNeg) 32 32 := iR_eqL c_43 f_40_3 (iR_c (n := 32) (a := 32) (b := 32) (by decide +kernel) (by decide +kernel)) (by decide +kernel)
            exact J_60  (iR_w f_60_4 (by decide +kernel)) H locs ls hP hD hS (lv_sub hl [0, 1, 2] rfl)
          · have c_43 : ¬ (f0_0 j21_F0_4.toNatClampNeg) = 32 := c_43
            refine lv_aload_n hx hb dX2_step_46 rfl (lv_at hl 0 rfl) ?_
            refine k_get (D := (dC, dI)) (ci := 2) (v := .ref a0_0) (C := RX2) (T := TX2) (N := 11) hx hb hts hinX2 hown hK hP 0 rfl rfl 0 (by decide) w_5 rfl rfl dX2_step_47 ?_
            refine lv_aload_n hx hb dX2_step_50 rfl (lv_at hl 0 rfl) ?_
            refine k_get (D := (dC, dI)) (ci := 2) (v := .int j21_F0_4) (C := RX2) (T := TX2) (N := 11) hx hb hts hinX2 hown hK hP 0 rfl rfl 4 (by decide) w_1 rfl rfl dX2_step_51 ?_
            refine va_iald hx hb hK hP 1 0 rfl rfl (iR_vp f_32_1 (by decide +kernel)) dX2_step_54 ?_
            refine lv_bipush (v := 10) hx hb dX2_step_55 (by decide +kernel) ?_
            refine lv_icmp_ne (tgt := 73) hx hb dX2_step_57 (by decide) (fun c_57 => ?_) (fun c_57 => ?_)
            · have c_57 : ¬ (f0_0 j21_F0_4.toNatClampNeg) = 10 := c_57
              exact J_73   H locs ls hP hD hS (lv_sub hl [0, 1, 2] rfl)
            · have c_57 : (f0_0 j21_F0_4.toNatClampNeg) = 10 := c_57
              have f_60_4 : iR (f0_0 j21_F0_4.toNatClampNeg) 10 10 := iR_eqL c_57 f_40_3 (iR_c (n := 10) (a := 10) (b := 10) (by decide +kernel) (by decide +kernel)) (by decide +kernel)
              exact J_60  (iR_w f_60_4 (by decide +kernel)) H locs ls hP hD hS (lv_sub hl [0, 1, 2] rfl)
    refine lv_istore_n (lv' := [(2, .int r_17), (1, .int v0_4), (0, .ref a0)]) hx hb dX2_step_20 rfl hl (by decide) rfl (fun ls hl => ?_)
    exact J_21 _ v0_4 hv0_4 (Nat.lt_succ_self _) H locs ls hP hD hS (lv_sub hl [2, 1, 0] rfl)
  · have c_4 : ¬ v0_9 = 0 := c_4
    have f_7_1 : iR v0_9 1 6 := iR_neL c_4 hv0_9 (iR_c (n := 0) (a := 0) (b := 0) (by decide +kernel) (by decide +kernel)) (by decide +kernel)
    obtain d_4_1_0 := hpg0.resolve_left c_4
    have f_7_2 : iR v0_6 259 259 := iR_eqL d_4_1_0 hv0_6 (iR_c (n := 259) (a := 259) (b := 259) (by decide +kernel) (by decide +kernel)) (by decide +kernel)
    exact k_rv B hP hD hS dX2_step_7 ((fun k9 => match k9 with | 0 => v0_4 | 1 => v0_5 | 2 => v0_6 | 3 => v0_7 | 4 => v0_9 | 5 => v0_10 | _ => 0), (fun _ => 0), (fun _ => (fun _ => 0)), (fun _ => (fun _ => 0)), (fun _ => 0)) [0, 1, 2] rfl rfl (Nat.le_of_ble_eq_true rfl) (Nat.le_of_ble_eq_true rfl) ⟨(show iR v0_4 0 1600 from hv0_4), (show iR v0_5 0 1600 from hv0_5), (show iR v0_6 0 324 from (iR_w f_7_2 (by decide +kernel))), (show iR v0_9 0 6 from (iR_w f_7_1 (by decide +kernel))), (show (0 : Int32) < v0_9 → (0 : Int32) < v0_9 from (fun h => h)), (show (v0_9 = 0) ∨ ((v0_6 = 259)) from (Or.inr d_4_1_0))⟩
set_option maxHeartbeats 8000000 in
set_option maxRecDepth 100000 in
theorem s_X2_step_v9 (l : Launch) (dC : Nat → ClassId) (dI : Nat → Nat → Nat) (cI cJ cZ cM : ClassId) (a0 : Nat) (a0_0 : Nat) (f0_0 : Nat → Int32) (a0_1 : Nat) (g0_1 : Nat → Int64) (b0_2 : Nat) (v0_3 : Int32) (v0_4 : Int32) (v0_5 : Int32) (v0_6 : Int32) (v0_7 : Int32) (v0_9 : Int32) (v0_10 : Int32) (hv0_3 : iR v0_3 0 1600) (hv0_4 : iR v0_4 0 1600) (hv0_5 : iR v0_5 0 1600) (hv0_6 : iR v0_6 0 324) (hv0_9 : iR v0_9 0 6) (hf0_0 : aR f0_0 0 255) (hpg0 : (v0_9 = 0) ∨ ((v0_6 = 259))) : k_Mv l yX2_step wsX2_step ({ frames := 3, cells := 0, slots := 0, locals := 89 }) (dC, dI) vwCl (tyy cI cJ cZ cM) [(a0, .inr (2, [.ref a0_0, .ref a0_1, .ref b0_2, .int v0_3, .int v0_4, .int v0_5, .int v0_6, .int v0_7, .int 4, .int v0_9, .int v0_10])), (a0_0, .inl (cI, 1600, .inl f0_0)), (a0_1, .inl (cJ, 25, .inr (.inl g0_1)))] [.ref a0] 0 0 (fun (u9 : SU) => [(a0, .inr (2, [.ref a0_0, .ref a0_1, .ref b0_2, .int v0_3, .int (u9.1 0), .int (u9.1 1), .int (u9.1 2), .int (u9.1 3), .int 4, .int (u9.1 4), .int (u9.1 5)])), (a0_0, .inl (cI, 1600, .inl f0_0)), (a0_1, .inl (cJ, 25, .inr (.inl g0_1)))]) (fun (u9 : SU) => (iR (u9.1 0) 0 1600) ∧ (iR (u9.1 1) 0 1600) ∧ (iR (u9.1 2) 0 324) ∧ (iR (u9.1 4) 0 6) ∧ ((0 : Int32) < v0_9 → (0 : Int32) < (u9.1 4)) ∧ (((u9.1 4) = 0) ∨ (((u9.1 2) = 259)))) := by
  refine fun sz => k_enter (cc := cX2_step) (maxL := 3) (ret := none) (Qc := fun A => va_Qv (fun (u9 : SU) => (iR (u9.1 0) 0 1600) ∧ (iR (u9.1 1) 0 1600) ∧ (iR (u9.1 2) 0 324) ∧ (iR (u9.1 4) 0 6) ∧ ((0 : Int32) < v0_9 → (0 : Int32) < (u9.1 4)) ∧ (((u9.1 4) = 0) ∨ (((u9.1 2) = 259)))) (fun u => k_B (dC, dI) vwCl (tyy cI cJ cZ cM) A ((fun (u9 : SU) => [(a0, .inr (2, [.ref a0_0, .ref a0_1, .ref b0_2, .int v0_3, .int (u9.1 0), .int (u9.1 1), .int (u9.1 2), .int (u9.1 3), .int 4, .int (u9.1 4), .int (u9.1 5)])), (a0_0, .inl (cI, 1600, .inl f0_0)), (a0_1, .inl (cJ, 25, .inr (.inl g0_1)))]) u)) A) sz (by decide +kernel) rfl (Nat.le_of_ble_eq_true rfl) (fun p e s m args below meth c A ls H locs B hP hD hS hl => ?_)
  obtain ⟨hx, hb, hml, hown, hts, hr, hlk, hnm, hK, hA, hN, hC⟩ := id B
  have hown : s.vm.findClass RX2 = some m.cls := hown
  have hl : lv_has ls 3 [(0, .ref a0)] := hl
  have w_0 : (Cond.fieldLink RX2 63 "WishSea$Reader" "fault" "I").before args s = true := hts _ (List.mem_of_getElem? (i := 1) rfl)
  have w_1 : (Cond.fieldLink RX2 57 "WishSea$Reader" "position" "I").before args s = true := hts _ (List.mem_of_getElem? (i := 2) rfl)
  have w_2 : (Cond.fieldLink RX2 15 "WishSea$Reader" "token" "I").before args s = true := hts _ (List.mem_of_getElem? (i := 3) rfl)
  have w_3 : (Cond.fieldLink RX2 55 "WishSea$Reader" "length" "I").before args s = true := hts _ (List.mem_of_getElem? (i := 4) rfl)
  have w_4 : (Cond.fieldLink RX2 73 "WishSea$Reader" "start" "I").before args s = true := hts _ (List.mem_of_getElem? (i := 6) rfl)
  have w_5 : (Cond.fieldLink RX2 22 "WishSea$Reader" "text" "[I").before args s = true := hts _ (List.mem_of_getElem? (i := 5) rfl)
  have hinX2 : ∀ w ∈ u_ws RX2 TX2 11, w ∈ wsX2_step := fun _ h => List.mem_cons_of_mem _ (List.mem_append_right _ h)
  refine lv_aload_n hx hb dX2_step_0 rfl (lv_at hl 0 rfl) ?_
  refine k_get (D := (dC, dI)) (ci := 2) (v := .int v0_9) (C := RX2) (T := TX2) (N := 11) hx hb hts hinX2 hown hK hP 0 rfl rfl 9 (by decide) w_0 rfl rfl dX2_step_1 ?_
  refine lv_if_eq (tgt := 8) hx hb dX2_step_4 (by decide) (fun c_4 => ?_) (fun c_4 => ?_)
  · have c_4 : v0_9 = 0 := c_4
    have f_8_1 : iR v0_9 0 0 := iR_eqL c_4 hv0_9 (iR_c (n := 0) (a := 0) (b := 0) (by decide +kernel) (by decide +kernel)) (by decide +kernel)
    refine lv_aload_n hx hb dX2_step_8 rfl (lv_at hl 0 rfl) ?_
    refine k_get (D := (dC, dI)) (ci := 2) (v := .int v0_4) (C := RX2) (T := TX2) (N := 11) hx hb hts hinX2 hown hK hP 0 rfl rfl 4 (by decide) w_1 rfl rfl dX2_step_9 ?_
    refine lv_istore_n (lv' := [(1, .int v0_4), (0, .ref a0)]) hx hb dX2_step_12 rfl hl (by decide) rfl (fun ls hl => ?_)
    refine lv_aload_n hx hb dX2_step_13 rfl (lv_at hl 1 rfl) ?_
    refine k_get (D := (dC, dI)) (ci := 2) (v := .int v0_6) (C := RX2) (T := TX2) (N := 11) hx hb hts hinX2 hown hK hP 0 rfl rfl 6 (by decide) w_2 rfl rfl dX2_step_14 ?_
    refine k_ci (wc := []) (wr := [(a0, .inr (2, [.ref a0_0, .ref a0_1, .ref b0_2, .int v0_3, .int v0_4, .int v0_5, .int v0_6, .int v0_7, .int 4, .int v0_9, .int v0_10])), (a0_0, .inl (cI, 1600, .inl f0_0)), (a0_1, .inl (cJ, 25, .inr (.inl g0_1)))]) (fun hPc hDc hFc => va_runS (As := [.int v0_6]) (rest := []) ⟨hx, hb, hml, hown, hts⟩ (s_X2_isWhole_v0 l dC dI cI cJ cZ cM v0_6 H.size) (va_cwS 1 hts gX2_step_X2_isWhole rfl rfl rfl (by decide +kernel) ⟨(Nat.le_of_ble_eq_true rfl), (Nat.le_of_ble_eq_true rfl)⟩) (k_pS hPc hDc hK hN hC hS hFc) rfl rfl hl.1 rfl (lv_room (Nat.le_of_ble_eq_true rfl)) dX2_step_17 ⟨(Nat.le_of_ble_eq_true rfl), (Nat.le_of_ble_eq_true rfl)⟩) hP hD hS hA [] [0, 1, 2] rfl rfl rfl rfl (by decide) (fun _ => rfl) 0 0 rfl rfl (fun r_17 u_17 H locs hw hP hD hS => ?_)
    have g_17_0 := hw
    have hP : va_P (dC, dI) vwCl [(a0, .inr (2, [.ref a0_0, .ref a0_1, .ref b0_2, .int v0_3, .int v0_4, .int v0_5, .int v0_6, .int v0_7, .int 4, .int v0_9, .int v0_10])), (a0_0, .inl (cI, 1600, .inl f0_0)), (a0_1, .inl (cJ, 25, .inr (.inl g0_1)))] H := hP
    have hD : va_D A [(a0, .inr (2, [.ref a0_0, .ref a0_1, .ref b0_2, .int v0_3, .int v0_4, .int v0_5, .int v0_6, .int v0_7, .int 4, .int v0_9, .int v0_10])), (a0_0, .inl (cI, 1600, .inl f0_0)), (a0_1, .inl (cJ, 25, .inr (.inl g0_1)))] := hD
    have J_21 : ∀ (n_21 : Nat) (j21_F0_4 : Int32) (hj21_F0_4 : iR j21_F0_4 0 1600) (hm_21 : (1600 - j21_F0_4.toInt).toNat < n_21) (H : Heap) (locs : List Loc) (ls : Array Slot), va_P (dC, dI) vwCl [(a0, .inr (2, [.ref a0_0, .ref a0_1, .ref b0_2, .int v0_3, .int j21_F0_4, .int v0_5, .int v0_6, .int v0_7, .int 4, .int v0_9, .int v0_10])), (a0_0, .inl (cI, 1600, .inl f0_0)), (a0_1, .inl (cJ, 25, .inr (.inl g0_1)))] H → va_D A [(a0, .inr (2, [.ref a0_0, .ref a0_1, .ref b0_2, .int v0_3, .int j21_F0_4, .int v0_5, .int v0_6, .int v0_7, .int 4, .int v0_9, .int v0_10])), (a0_0, .inl (cI, 1600, .inl f0_0)), (a0_1, .inl (cJ, 25, .inr (.inl g0_1)))] → va_S A s.heap H locs → lv_has ls 3 [(0, .ref a0), (1, .int v0_4), (2, .int r_17)] → W p l e ({ frames := 3, cells := 0, slots := 0, locals := 89 }) s m args below meth c H locs 0 0 (MQ below (va_Qv (fun (u9 : SU) => (iR (u9.1 0) 0 1600) ∧ (iR (u9.1 1) 0 1600) ∧ (iR (u9.1 2) 0 324) ∧ (iR (u9.1 4) 0 6) ∧ ((0 : Int32) < v0_9 → (0 : Int32) < (u9.1 4)) ∧ (((u9.1 4) = 0) ∨ (((u9.1 2) = 259)))) (fun u => k_B (dC, dI) vwCl (tyy cI cJ cZ cM) A ((fun (u9 : SU) => [(a0, .inr (2, [.ref a0_0, .ref a0_1, .ref b0_2, .int v0_3, .int (u9.1 0), .int (u9.1 1), .int (u9.1 2), .int (u9.1 3), .int 4, .int (u9.1 4), .int (u9.1 5)])), (a0_0, .inl (cI, 1600, .inl f0_0)), (a0_1, .inl (cJ, 25, .inr (.inl g0_1)))]) u)) A) args s 0 0 A) (F0 m 21 ls []) := by
      intro n_21
      induction n_21 with
      | zero => intro j21_F0_4 hj21_F0_4 hm_21; exact absurd hm_21 (Nat.not_lt_zero _)
      | succ n_21 ih_21 =>
        intro j21_F0_4 hj21_F0_4 hm_21 H locs ls hP hD hS hl
        refine lv_aload_n hx hb dX2_step_21 rfl (lv_at hl 0 rfl) ?_
        refine k_get (D := (dC, dI)) (ci := 2) (v := .int j21_F0_4) (C := RX2) (T := TX2) (N := 11) hx hb hts hinX2 hown hK hP 0 rfl rfl 4 (by decide) w_1 rfl rfl dX2_step_22 ?_
        refine lv_aload_n hx hb dX2_step_25 rfl (lv_at hl 0 rfl) ?_
        refine k_get (D := (dC, dI)) (ci := 2) (v := .int v0_3) (C := RX2) (T := TX2) (N := 11) hx hb hts hinX2 hown hK hP 0 rfl rfl 3 (by decide) w_3 rfl rfl dX2_step_26 ?_
        have J_73 : ∀   (H : Heap) (locs : List Loc) (ls : Array Slot), va_P (dC, dI) vwCl [(a0, .inr (2, [.ref a0_0, .ref a0_1, .ref b0_2, .int v0_3, .int j21_F0_4, .int v0_5, .int v0_6, .int v0_7, .int 4, .int v0_9, .int v0_10])), (a0_0, .inl (cI, 1600, .inl f0_0)), (a0_1, .inl (cJ, 25, .inr (.inl g0_1)))] H → va_D A [(a0, .inr (2, [.ref a0_0, .ref a0_1, .ref b0_2, .int v0_3, .int j21_F0_4, .int v0_5, .int v0_6, .int v0_7, .int 4, .int v0_9, .int v0_10])), (a0_0, .inl (cI, 1600, .inl f0_0)), (a0_1, .inl (cJ, 25, .inr (.inl g0_1)))] → va_S A s.heap H locs → lv_has ls 3 [(0, .ref a0), (1, .int v0_4), (2, .int r_17)] → W p l e ({ frames := 3, cells := 0, slots := 0, locals := 89 }) s m args below meth c H locs 0 0 (MQ below (va_Qv (fun (u9 : SU) => (iR (u9.1 0) 0 1600) ∧ (iR (u9.1 1) 0 1600) ∧ (iR (u9.1 2) 0 324) ∧ (iR (u9.1 4) 0 6) ∧ ((0 : Int32) < v0_9 → (0 : Int32) < (u9.1 4)) ∧ (((u9.1 4) = 0) ∨ (((u9.1 2) = 259)))) (fun u => k_B (dC, dI) vwCl (tyy cI cJ cZ cM) A ((fun (u9 : SU) => [(a0, .inr (2, [.ref a0_0, .ref a0_1, .ref b0_2, .int v0_3, .int (u9.1 0), .int (u9.1 1), .int (u9.1 2), .int (u9.1 3), .int 4, .int (u9.1 4), .int (u9.1 5)])), (a0_0, .inl (cI, 1600, .inl f0_0)), (a0_1, .inl (cJ, 25, .inr (.inl g0_1)))]) u)) A) args s 0 0 A) (F0 m 73 ls []) := by
          intro   H locs ls hP hD hS hl
          refine lv_aload_n hx hb dX2_step_73 rfl (lv_at hl 0 rfl) ?_
          refine lv_aload_n hx hb dX2_step_74 rfl (lv_at hl 0 rfl) ?_
          refine k_get (D := (dC, dI)) (ci := 2) (v := .int j21_F0_4) (C := RX2) (T := TX2) (N := 11) hx hb hts hinX2 hown hK hP 0 rfl rfl 4 (by decide) w_1 rfl rfl dX2_step_75 ?_
          refine k_put (D := (dC, dI)) (ci := 2) (v := .int j21_F0_4) (C := RX2) (T := TX2) (N := 11) (ws' := [(a0, .inr (2, [.ref a0_0, .ref a0_1, .ref b0_2, .int v0_3, .int j21_F0_4, .int j21_F0_4, .int v0_6, .int v0_7, .int 4, .int v0_9, .int v0_10])), (a0_0, .inl (cI, 1600, .inl f0_0)), (a0_1, .inl (cJ, 25, .inr (.inl g0_1)))]) hx hb hts hinX2 tyX2 tyX2_ok nmX2 hown hK hP hD hS 0 rfl rfl 5 (by decide) w_4 rfl rfl rfl rfl (Nat.le_of_ble_eq_true rfl) rfl dX2_step_78 (fun H locs hP hD hS => ?_)
          refine lv_aload_n hx hb dX2_step_81 rfl (lv_at hl 0 rfl) ?_
          refine k_get (D := (dC, dI)) (ci := 2) (v := .int j21_F0_4) (C := RX2) (T := TX2) (N := 11) hx hb hts hinX2 hown hK hP 0 rfl rfl 4 (by decide) w_1 rfl rfl dX2_step_82 ?_
          refine lv_aload_n hx hb dX2_step_85 rfl (lv_at hl 0 rfl) ?_
          refine k_get (D := (dC, dI)) (ci := 2) (v := .int v0_3) (C := RX2) (T := TX2) (N := 11) hx hb hts hinX2 hown hK hP 0 rfl rfl 3 (by decide) w_3 rfl rfl dX2_step_86 ?_
          have J_169 : ∀ (j169_F0_4 : Int32) (j169_F0_6 : Int32) (j169_F0_7 : Int32) (j169_F0_9 : Int32) (j169_F0_10 : Int32) (hj169_F0_4 : iR j169_F0_4 0 1600) (hj169_F0_6 : iR j169_F0_6 0 324) (hj169_F0_9 : iR j169_F0_9 0 6) (t169_xf : (0 : Int32) < v0_9 → (0 : Int32) < j169_F0_9) (w169_0 : (j169_F0_9 = 0) ∨ ((j169_F0_6 = 259))) (H : Heap) (locs : List Loc) (ls : Array Slot), va_P (dC, dI) vwCl [(a0, .inr (2, [.ref a0_0, .ref a0_1, .ref b0_2, .int v0_3, .int j169_F0_4, .int j21_F0_4, .int j169_F0_6, .int j169_F0_7, .int 4, .int j169_F0_9, .int j169_F0_10])), (a0_0, .inl (cI, 1600, .inl f0_0)), (a0_1, .inl (cJ, 25, .inr (.inl g0_1)))] H → va_D A [(a0, .inr (2, [.ref a0_0, .ref a0_1, .ref b0_2, .int v0_3, .int j169_F0_4, .int j21_F0_4, .int j169_F0_6, .int j169_F0_7, .int 4, .int j169_F0_9, .int j169_F0_10])), (a0_0, .inl (cI, 1600, .inl f0_0)), (a0_1, .inl (cJ, 25, .inr (.inl g0_1)))] → va_S A s.heap H locs → lv_has ls 3 [(0, .ref a0), (1, .int v0_4), (2, .int r_17)] → W p l e ({ frames := 3, cells := 0, slots := 0, locals := 89 }) s m args below meth c H locs 0 0 (MQ below (va_Qv (fun (u9 : SU) => (iR (u9.1 0) 0 1600) ∧ (iR (u9.1 1) 0 1600) ∧ (iR (u9.1 2) 0 324) ∧ (iR (u9.1 4) 0 6) ∧ ((0 : Int32) < v0_9 → (0 : Int32) < (u9.1 4)) ∧ (((u9.1 4) = 0) ∨ (((u9.1 2) = 259)))) (fun u => k_B (dC, dI) vwCl (tyy cI cJ cZ cM) A ((fun (u9 : SU) => [(a0, .inr (2, [.ref a0_0, .ref a0_1, .ref b0_2, .int v0_3, .int (u9.1 0), .int (u9.1 1), .int (u9.1 2), .int (u9.1 3), .int 4, .int (u9.1 4), .int (u9.1 5)])), (a0_0, .inl (cI, 1600, .inl f0_0)), (a0_1, .inl (cJ, 25, .inr (.inl g0_1)))]) u)) A) args s 0 0 A) (F0 m 169 ls []) := by
            intro j169_F0_4 j169_F0_6 j169_F0_7 j169_F0_9 j169_F0_10 hj169_F0_4 hj169_F0_6 hj169_F0_9 t169_xf w169_0 H locs ls hP hD hS hl
            refine lv_iload_n hx hb dX2_step_169 rfl (lv_at hl 2 rfl) ?_
            refine lv_if_eq (tgt := 200) hx hb dX2_step_170 (by decide) (fun c_170 => ?_) (fun c_170 => ?_)
            · have c_170 : r_17 = 0 := c_170
              have f_200_1 : iR r_17 0 0 := iR_eqL c_170 g_17_0 (iR_c (n := 0) (a := 0) (b := 0) (by decide +kernel) (by decide +kernel)) (by decide +kernel)
              exact k_rv B hP hD hS dX2_step_200 ((fun k9 => match k9 with | 0 => j169_F0_4 | 1 => j21_F0_4 | 2 => j169_F0_6 | 3 => j169_F0_7 | 4 => j169_F0_9 | 5 => j169_F0_10 | _ => 0), (fun _ => 0), (fun _ => (fun _ => 0)), (fun _ => (fun _ => 0)), (fun _ => 0)) [0, 1, 2] rfl rfl (Nat.le_of_ble_eq_true rfl) (Nat.le_of_ble_eq_true rfl) ⟨(show iR j169_F0_4 0 1600 from hj169_F0_4), (show iR j21_F0_4 0 1600 from hj21_F0_4), (show iR j169_F0_6 0 324 from hj169_F0_6), (show iR j169_F0_9 0 6 from hj169_F0_9), (show (0 : Int32) < v0_9 → (0 : Int32) < j169_F0_9 from t169_xf), (show (j169_F0_9 = 0) ∨ ((j169_F0_6 = 259)) from w169_0)⟩
            · have c_170 : ¬ r_17 = 0 := c_170
              have f_173_1 : iR r_17 1 1 := iR_neL c_170 g_17_0 (iR_c (n := 0) (a := 0) (b := 0) (by decide +kernel) (by decide +kernel)) (by decide +kernel)
              refine lv_aload_n hx hb dX2_step_173 rfl (lv_at hl 0 rfl) ?_
              refine k_get (D := (dC, dI)) (ci := 2) (v := .int j21_F0_4) (C := RX2) (T := TX2) (N := 11) hx hb hts hinX2 hown hK hP 0 rfl rfl 5 (by decide) w_4 rfl rfl dX2_step_174 ?_
              refine lv_iload_n hx hb dX2_step_177 rfl (lv_at hl 1 rfl) ?_
              refine lv_icmp_ne (tgt := 200) hx hb dX2_step_178 (by decide) (fun c_178 => ?_) (fun c_178 => ?_)
              · have c_178 : ¬ j21_F0_4 = v0_4 := c_178
                exact k_rv B hP hD hS dX2_step_200 ((fun k9 => match k9 with | 0 => j169_F0_4 | 1 => j21_F0_4 | 2 => j169_F0_6 | 3 => j169_F0_7 | 4 => j169_F0_9 | 5 => j169_F0_10 | _ => 0), (fun _ => 0), (fun _ => (fun _ => 0)), (fun _ => (fun _ => 0)), (fun _ => 0)) [0, 1, 2] rfl rfl (Nat.le_of_ble_eq_true rfl) (Nat.le_of_ble_eq_true rfl) ⟨(show iR j169_F0_4 0 1600 from hj169_F0_4), (show iR j21_F0_4 0 1600 from hj21_F0_4), (show iR j169_F0_6 0 324 from hj169_F0_6), (show iR j169_F0_9 0 6 from hj169_F0_9), (show (0 : Int32) < v0_9 → (0 : Int32) < j169_F0_9 from t169_xf), (show (j169_F0_9 = 0) ∨ ((j169_F0_6 = 259)) from w169_0)⟩
              · have c_178 : j21_F0_4 = v0_4 := c_178
                refine lv_aload_n hx hb dX2_step_181 rfl (lv_at hl 0 rfl) ?_
                refine k_get (D := (dC, dI)) (ci := 2) (v := .int j169_F0_6) (C := RX2) (T := TX2) (N := 11) hx hb hts hinX2 hown hK hP 0 rfl rfl 6 (by decide) w_2 rfl rfl dX2_step_182 ?_
                refine k_ci (wc := []) (wr := [(a0, .inr (2, [.ref a0_0, .ref a0_1, .ref b0_2, .int v0_3, .int j169_F0_4, .int j21_F0_4, .int j169_F0_6, .int j169_F0_7, .int 4, .int j169_F0_9, .int j169_F0_10])), (a0_0, .inl (cI, 1600, .inl f0_0)), (a0_1, .inl (cJ, 25, .inr (.inl g0_1)))]) (fun hPc hDc hFc => va_runS (As := [.int j169_F0_6]) (rest := []) ⟨hx, hb, hml, hown, hts⟩ (s_X2_isWhole_v0 l dC dI cI cJ cZ cM j169_F0_6 H.size) (va_cwS 1 hts gX2_step_X2_isWhole rfl rfl rfl (by decide +kernel) ⟨(Nat.le_of_ble_eq_true rfl), (Nat.le_of_ble_eq_true rfl)⟩) (k_pS hPc hDc hK hN hC hS hFc) rfl rfl hl.1 rfl (lv_room (Nat.le_of_ble_eq_true rfl)) dX2_step_185 ⟨(Nat.le_of_ble_eq_true rfl), (Nat.le_of_ble_eq_true rfl)⟩) hP hD hS hA [] [0, 1, 2] rfl rfl rfl rfl (by decide) (fun _ => rfl) 0 0 rfl rfl (fun r_185 u_185 H locs hw hP hD hS => ?_)
                have g_185_0 := hw
                have hP : va_P (dC, dI) vwCl [(a0, .inr (2, [.ref a0_0, .ref a0_1, .ref b0_2, .int v0_3, .int j169_F0_4, .int j21_F0_4, .int j169_F0_6, .int j169_F0_7, .int 4, .int j169_F0_9, .int j169_F0_10])), (a0_0, .inl (cI, 1600, .inl f0_0)), (a0_1, .inl (cJ, 25, .inr (.inl g0_1)))] H := hP
                have hD : va_D A [(a0, .inr (2, [.ref a0_0, .ref a0_1, .ref b0_2, .int v0_3, .int j169_F0_4, .int j21_F0_4, .int j169_F0_6, .int j169_F0_7, .int 4, .int j169_F0_9, .int j169_F0_10])), (a0_0, .inl (cI, 1600, .inl f0_0)), (a0_1, .inl (cJ, 25, .inr (.inl g0_1)))] := hD
                refine lv_if_eq (tgt := 200) hx hb dX2_step_188 (by decide) (fun c_188 => ?_) (fun c_188 => ?_)
                · have c_188 : r_185 = 0 := c_188
                  have f_200_2 : iR r_185 0 0 := iR_eqL c_188 g_185_0 (iR_c (n := 0) (a := 0) (b := 0) (by decide +kernel) (by decide +kernel)) (by decide +kernel)
                  exact k_rv B hP hD hS dX2_step_200 ((fun k9 => match k9 with | 0 => j169_F0_4 | 1 => j21_F0_4 | 2 => j169_F0_6 | 3 => j169_F0_7 | 4 => j169_F0_9 | 5 => j169_F0_10 | _ => 0), (fun _ => 0), (fun _ => (fun _ => 0)), (fun _ => (fun _ => 0)), (fun _ => 0)) [0, 1, 2] rfl rfl (Nat.le_of_ble_eq_true rfl) (Nat.le_of_ble_eq_true rfl) ⟨(show iR j169_F0_4 0 1600 from hj169_F0_4), (show iR j21_F0_4 0 1600 from hj21_F0_4), (show iR j169_F0_6 0 324 from hj169_F0_6), (show iR j169_F0_9 0 6 from hj169_F0_9), (show (0 : Int32) < v0_9 → (0 : Int32) < j169_F0_9 from t169_xf), (show (j169_F0_9 = 0) ∨ ((j169_F0_6 = 259)) from w169_0)⟩
                · have c_188 : ¬ r_185 = 0 := c_188
                  have f_191_2 : iR r_185 1 1 := iR_neL c_188 g_185_0 (iR_c (n := 0) (a := 0) (b := 0) (by decide +kernel) (by decide +kernel)) (by decide +kernel)
                  refine lv_aload_n hx hb dX2_step_191 rfl (lv_at hl 0 rfl) ?_
                  refine lv_iconst (v := 1) hx hb dX2_step_192 (by decide +kernel) ?_
                  refine lv_aload_n hx hb dX2_step_193 rfl (lv_at hl 0 rfl) ?_
                  refine k_get (D := (dC, dI)) (ci := 2) (v := .int j21_F0_4) (C := RX2) (T := TX2) (N := 11) hx hb hts hinX2 hown hK hP 0 rfl rfl 5 (by decide) w_4 rfl rfl dX2_step_194 ?_
                  refine k_cv (wc := [(a0, .inr (2, [.ref a0_0, .ref a0_1, .ref b0_2, .int v0_3, .int j169_F0_4, .int j21_F0_4, .int j169_F0_6, .int j169_F0_7, .int 4, .int j169_F0_9, .int j169_F0_10]))]) (wr := [(a0_0, .inl (cI, 1600, .inl f0_0)), (a0_1, .inl (cJ, 25, .inr (.inl g0_1)))]) (fun hPc hDc hFc => va_runV (As := [.int 1, .int j21_F0_4]) (rest := []) ⟨hx, hb, hml, hown, hts⟩ (s_X2_blame_v14 l dC dI cI cJ cZ cM a0 1 j21_F0_4 a0_0 a0_1 b0_2 v0_3 j169_F0_4 j21_F0_4 j169_F0_6 j169_F0_7 j169_F0_9 j169_F0_10 (iR_c (n := 1) (a := 1) (b := 6) (by decide +kernel) (by decide +kernel)) hv0_3 hj169_F0_4 hj21_F0_4 hj169_F0_6 hj169_F0_9 w169_0 H.size) (cwV 2 hts gX2_step_X2_blame rfl rfl rfl (by decide +kernel) ⟨(Nat.le_of_ble_eq_true rfl), (Nat.le_of_ble_eq_true rfl)⟩) (k_pV hPc hDc hK hN hC hS hFc hP (q0 := 0) (ci := 2) rfl rfl) rfl rfl hl.1 rfl (lv_room (Nat.le_of_ble_eq_true rfl)) dX2_step_197 ⟨(Nat.le_of_ble_eq_true rfl), (Nat.le_of_ble_eq_true rfl)⟩) hP hD hS hA [0] [1, 2] rfl rfl rfl rfl (by decide) (fun _ => rfl) 0 0 rfl rfl (fun u_197 H locs hw hP hD hS => ?_)
                  obtain ⟨g_197_0, g_197_1, g_197_2, g_197_3⟩ := hw
                  have hP : va_P (dC, dI) vwCl [(a0_0, .inl (cI, 1600, .inl f0_0)), (a0_1, .inl (cJ, 25, .inr (.inl g0_1))), (a0, .inr (2, [.ref a0_0, .ref a0_1, .ref b0_2, .int v0_3, .int j169_F0_4, .int j21_F0_4, .int (u_197.1 0), .int j169_F0_7, .int 4, .int (u_197.1 1), .int (u_197.1 2)]))] H := hP
                  have hD : va_D A [(a0_0, .inl (cI, 1600, .inl f0_0)), (a0_1, .inl (cJ, 25, .inr (.inl g0_1))), (a0, .inr (2, [.ref a0_0, .ref a0_1, .ref b0_2, .int v0_3, .int j169_F0_4, .int j21_F0_4, .int (u_197.1 0), .int j169_F0_7, .int 4, .int (u_197.1 1), .int (u_197.1 2)]))] := hD
                  have g_197_2 : (0 : Int32) < j169_F0_9 → (0 : Int32) < (u_197.1 1) := g_197_2
                  have g_197_3 : ((u_197.1 1) = 0) ∨ (((u_197.1 0) = 259)) := g_197_3
                  obtain d197_1_0 := g_197_3.resolve_left (i_nef g_197_1 (iR_c (n := 0) (a := 0) (b := 0) (by decide +kernel) (by decide +kernel)) (by decide +kernel))
                  exact k_rv B hP hD hS dX2_step_200 ((fun k9 => match k9 with | 0 => j169_F0_4 | 1 => j21_F0_4 | 2 => (u_197.1 0) | 3 => j169_F0_7 | 4 => (u_197.1 1) | 5 => (u_197.1 2) | _ => 0), (fun _ => 0), (fun _ => (fun _ => 0)), (fun _ => (fun _ => 0)), (fun _ => 0)) [2, 0, 1] rfl rfl (Nat.le_of_ble_eq_true rfl) (Nat.le_of_ble_eq_true rfl) ⟨(show iR j169_F0_4 0 1600 from hj169_F0_4), (show iR j21_F0_4 0 1600 from hj21_F0_4), (show iR (u_197.1 0) 0 324 from (iR_w g_197_0 (by decide +kernel))), (show iR (u_197.1 1) 0 6 from (iR_w g_197_1 (by decide +kernel))), (show (0 : Int32) < v0_9 → (0 : Int32) < (u_197.1 1) from (fun h => g_197_2 (t169_xf h))), (show ((u_197.1 1) = 0) ∨ (((u_197.1 0) = 259)) from (Or.inr d197_1_0))⟩
          refine lv_icmp_lt (tgt := 102) hx hb dX2_step_89 (by decide) (fun c_89 => ?_) (fun c_89 => ?_)
          · have c_89 : j21_F0_4 < v0_3 := c_89
            have f_102_1 : iR j21_F0_4 0 1599 := iR_ltL c_89 hj21_F0_4 hv0_3 (by decide +kernel)
            have f_102_2 : iR v0_3 1 1600 := iR_ltR c_89 hj21_F0_4 hv0_3 (by decide +kernel)
            refine lv_aload_n hx hb dX2_step_102 rfl (lv_at hl 0 rfl) ?_
            refine k_get (D := (dC, dI)) (ci := 2) (v := .ref a0_0) (C := RX2) (T := TX2) (N := 11) hx hb hts hinX2 hown hK hP 0 rfl rfl 0 (by decide) w_5 rfl rfl dX2_step_103 ?_
            refine lv_aload_n hx hb dX2_step_106 rfl (lv_at hl 0 rfl) ?_
            refine k_get (D := (dC, dI)) (ci := 2) (v := .int j21_F0_4) (C := RX2) (T := TX2) (N := 11) hx hb hts hinX2 hown hK hP 0 rfl rfl 4 (by decide) w_1 rfl rfl dX2_step_107 ?_
            refine va_iald hx hb hK hP 1 0 rfl rfl (iR_vp f_102_1 (by decide +kernel)) dX2_step_110 ?_
            have f_110_3 : iR (f0_0 j21_F0_4.toNatClampNeg) 0 255 := hf0_0 _
            refine k_ci (wc := []) (wr := [(a0, .inr (2, [.ref a0_0, .ref a0_1, .ref b0_2, .int v0_3, .int j21_F0_4, .int j21_F0_4, .int v0_6, .int v0_7, .int 4, .int v0_9, .int v0_10])), (a0_0, .inl (cI, 1600, .inl f0_0)), (a0_1, .inl (cJ, 25, .inr (.inl g0_1)))]) (fun hPc hDc hFc => va_runS (As := [.int (f0_0 j21_F0_4.toNatClampNeg)]) (rest := []) ⟨hx, hb, hml, hown, hts⟩ (s_X2_isLetter_v0 l dC dI cI cJ cZ cM (f0_0 j21_F0_4.toNatClampNeg) H.size) (va_cwS 1 hts gX2_step_X2_isLetter rfl rfl rfl (by decide +kernel) ⟨(Nat.le_of_ble_eq_true rfl), (Nat.le_of_ble_eq_true rfl)⟩) (k_pS hPc hDc hK hN hC hS hFc) rfl rfl hl.1 rfl (lv_room (Nat.le_of_ble_eq_true rfl)) dX2_step_111 ⟨(Nat.le_of_ble_eq_true rfl), (Nat.le_of_ble_eq_true rfl)⟩) hP hD hS hA [] [0, 1, 2] rfl rfl rfl rfl (by decide) (fun _ => rfl) 0 0 rfl rfl (fun r_111 u_111 H locs hw hP hD hS => ?_)
            have g_111_0 := hw
            have hP : va_P (dC, dI) vwCl [(a0, .inr (2, [.ref a0_0, .ref a0_1, .ref b0_2, .int v0_3, .int j21_F0_4, .int j21_F0_4, .int v0_6, .int v0_7, .int 4, .int v0_9, .int v0_10])), (a0_0, .inl (cI, 1600, .inl f0_0)), (a0_1, .inl (cJ, 25, .inr (.inl g0_1)))] H := hP
            have hD : va_D A [(a0, .inr (2, [.ref a0_0, .ref a0_1, .ref b0_2, .int v0_3, .int j21_F0_4, .int j21_F0_4, .int v0_6, .int v0_7, .int 4, .int v0_9, .int v0_10])), (a0_0, .inl (cI, 1600, .inl f0_0)), (a0_1, .inl (cJ, 25, .inr (.inl g0_1)))] := hD
            refine lv_if_eq (tgt := 124) hx hb dX2_step_114 (by decide) (fun c_114 => ?_) (fun c_114 => ?_)
            · have c_114 : r_111 = 0 := c_114
              have f_124_4 : iR r_111 0 0 := iR_eqL c_114 g_111_0 (iR_c (n := 0) (a := 0) (b := 0) (by decide +kernel) (by decide +kernel)) (by decide +kernel)
              refine lv_aload_n hx hb dX2_step_124 rfl (lv_at hl 0 rfl) ?_
              refine k_get (D := (dC, dI)) (ci := 2) (v := .ref a0_0) (C := RX2) (T := TX2) (N := 11) hx hb hts hinX2 hown hK hP 0 rfl rfl 0 (by decide) w_5 rfl rfl dX2_step_125 ?_
              refine lv_aload_n hx hb dX2_step_128 rfl (lv_at hl 0 rfl) ?_
              refine k_get (D := (dC, dI)) (ci := 2) (v := .int j21_F0_4) (C := RX2) (T := TX2) (N := 11) hx hb hts hinX2 hown hK hP 0 rfl rfl 4 (by decide) w_1 rfl rfl dX2_step_129 ?_
              refine va_iald hx hb hK hP 1 0 rfl rfl (iR_vp f_102_1 (by decide +kernel)) dX2_step_132 ?_
              refine k_ci (wc := []) (wr := [(a0, .inr (2, [.ref a0_0, .ref a0_1, .ref b0_2, .int v0_3, .int j21_F0_4, .int j21_F0_4, .int v0_6, .int v0_7, .int 4, .int v0_9, .int v0_10])), (a0_0, .inl (cI, 1600, .inl f0_0)), (a0_1, .inl (cJ, 25, .inr (.inl g0_1)))]) (fun hPc hDc hFc => va_runS (As := [.int (f0_0 j21_F0_4.toNatClampNeg)]) (rest := []) ⟨hx, hb, hml, hown, hts⟩ (s_X2_isDigit_v0 l dC dI cI cJ cZ cM (f0_0 j21_F0_4.toNatClampNeg) H.size) (va_cwS 1 hts gX2_step_X2_isDigit rfl rfl rfl (by decide +kernel) ⟨(Nat.le_of_ble_eq_true rfl), (Nat.le_of_ble_eq_true rfl)⟩) (k_pS hPc hDc hK hN hC hS hFc) rfl rfl hl.1 rfl (lv_room (Nat.le_of_ble_eq_true rfl)) dX2_step_133 ⟨(Nat.le_of_ble_eq_true rfl), (Nat.le_of_ble_eq_true rfl)⟩) hP hD hS hA [] [0, 1, 2] rfl rfl rfl rfl (by decide) (fun _ => rfl) 0 0 rfl rfl (fun r_133 u_133 H locs hw hP hD hS => ?_)
              have g_133_0 := hw
              have hP : va_P (dC, dI) vwCl [(a0, .inr (2, [.ref a0_0, .ref a0_1, .ref b0_2, .int v0_3, .int j21_F0_4, .int j21_F0_4, .int v0_6, .int v0_7, .int 4, .int v0_9, .int v0_10])), (a0_0, .inl (cI, 1600, .inl f0_0)), (a0_1, .inl (cJ, 25, .inr (.inl g0_1)))] H := hP
              have hD : va_D A [(a0, .inr (2, [.ref a0_0, .ref a0_1, .ref b0_2, .int v0_3, .int j21_F0_4, .int j21_F0_4, .int v0_6, .int v0_7, .int 4, .int v0_9, .int v0_10])), (a0_0, .inl (cI, 1600, .inl f0_0)), (a0_1, .inl (cJ, 25, .inr (.inl g0_1)))] := hD
              refine lv_if_eq (tgt := 146) hx hb dX2_step_136 (by decide) (fun c_136 => ?_) (fun c_136 => ?_)
              · have c_136 : r_133 = 0 := c_136
                have f_146_5 : iR r_133 0 0 := iR_eqL c_136 g_133_0 (iR_c (n := 0) (a := 0) (b := 0) (by decide +kernel) (by decide +kernel)) (by decide +kernel)
                refine lv_aload_n hx hb dX2_step_146 rfl (lv_at hl 0 rfl) ?_
                refine lv_aload_n hx hb dX2_step_147 rfl (lv_at hl 0 rfl) ?_
                refine k_get (D := (dC, dI)) (ci := 2) (v := .ref a0_0) (C := RX2) (T := TX2) (N := 11) hx hb hts hinX2 hown hK hP 0 rfl rfl 0 (by decide) w_5 rfl rfl dX2_step_148 ?_
                refine lv_aload_n hx hb dX2_step_151 rfl (lv_at hl 0 rfl) ?_
                refine k_get (D := (dC, dI)) (ci := 2) (v := .int j21_F0_4) (C := RX2) (T := TX2) (N := 11) hx hb hts hinX2 hown hK hP 0 rfl rfl 4 (by decide) w_1 rfl rfl dX2_step_152 ?_
                refine va_iald hx hb hK hP 1 0 rfl rfl (iR_vp f_102_1 (by decide +kernel)) dX2_step_155 ?_
                refine k_put (D := (dC, dI)) (ci := 2) (v := .int (f0_0 j21_F0_4.toNatClampNeg)) (C := RX2) (T := TX2) (N := 11) (ws' := [(a0, .inr (2, [.ref a0_0, .ref a0_1, .ref b0_2, .int v0_3, .int j21_F0_4, .int j21_F0_4, .int (f0_0 j21_F0_4.toNatClampNeg), .int v0_7, .int 4, .int v0_9, .int v0_10])), (a0_0, .inl (cI, 1600, .inl f0_0)), (a0_1, .inl (cJ, 25, .inr (.inl g0_1)))]) hx hb hts hinX2 tyX2 tyX2_ok nmX2 hown hK hP hD hS 0 rfl rfl 6 (by decide) w_2 rfl rfl rfl rfl (Nat.le_of_ble_eq_true rfl) rfl dX2_step_156 (fun H locs hP hD hS => ?_)
                refine lv_aload_n hx hb dX2_step_159 rfl (lv_at hl 0 rfl) ?_
                refine lv_dup hx hb dX2_step_160 rfl ?_
                refine k_get (D := (dC, dI)) (ci := 2) (v := .int j21_F0_4) (C := RX2) (T := TX2) (N := 11) hx hb hts hinX2 hown hK hP 0 rfl rfl 4 (by decide) w_1 rfl rfl dX2_step_161 ?_
                refine lv_iconst (v := 1) hx hb dX2_step_164 (by decide +kernel) ?_
                refine lv_iadd hx hb dX2_step_165 ?_
                refine lv_topi (fun y_165 ey_165 => ?_)
                have f_165_6 : iR y_165 1 1600 := iR_add ey_165 f_102_1 (iR_c (n := 1) (a := 1) (b := 1) (by decide +kernel) (by decide +kernel)) (by decide +kernel)
                refine k_put (D := (dC, dI)) (ci := 2) (v := .int y_165) (C := RX2) (T := TX2) (N := 11) (ws' := [(a0, .inr (2, [.ref a0_0, .ref a0_1, .ref b0_2, .int v0_3, .int y_165, .int j21_F0_4, .int (f0_0 j21_F0_4.toNatClampNeg), .int v0_7, .int 4, .int v0_9, .int v0_10])), (a0_0, .inl (cI, 1600, .inl f0_0)), (a0_1, .inl (cJ, 25, .inr (.inl g0_1)))]) hx hb hts hinX2 tyX2 tyX2_ok nmX2 hown hK hP hD hS 0 rfl rfl 4 (by decide) w_1 rfl rfl rfl rfl (Nat.le_of_ble_eq_true rfl) rfl dX2_step_166 (fun H locs hP hD hS => ?_)
                exact J_169 y_165 (f0_0 j21_F0_4.toNatClampNeg) v0_7 v0_9 v0_10 (iR_w f_165_6 (by decide +kernel)) (iR_w f_110_3 (by decide +kernel)) (iR_w f_8_1 (by decide +kernel)) (fun h => h) (Or.inl c_4) H locs ls hP hD hS (lv_sub hl [0, 1, 2] rfl)
              · have c_136 : ¬ r_133 = 0 := c_136
                have f_139_5 : iR r_133 1 1 := iR_neL c_136 g_133_0 (iR_c (n := 0) (a := 0) (b := 0) (by decide +kernel) (by decide +kernel)) (by decide +kernel)
                refine lv_aload_n hx hb dX2_step_139 rfl (lv_at hl 0 rfl) ?_
                refine k_cv (wc := [(a0, .inr (2, [.ref a0_0, .ref a0_1, .ref b0_2, .int v0_3, .int j21_F0_4, .int j21_F0_4, .int v0_6, .int v0_7, .int 4, .int v0_9, .int v0_10])), (a0_0, .inl (cI, 1600, .inl f0_0))]) (wr := [(a0_1, .inl (cJ, 25, .inr (.inl g0_1)))]) (fun hPc hDc hFc => va_runV (As := []) (rest := []) ⟨hx, hb, hml, hown, hts⟩ (s_X2_readNumber_v9 l dC dI cI cJ cZ cM a0 a0_0 f0_0 a0_1 b0_2 v0_3 j21_F0_4 j21_F0_4 v0_6 v0_7 v0_9 v0_10 (show iR v0_9 0 0 from f_8_1) (iR_w f_102_2 (by decide +kernel)) (iR_w f_102_1 (by decide +kernel)) (iR_w f_102_1 (by decide +kernel)) hv0_6 (iR_w f_8_1 (by decide +kernel)) hf0_0 hpg0 H.size) (cwV 0 hts gX2_step_X2_readNumber rfl rfl rfl (by decide +kernel) ⟨(Nat.le_of_ble_eq_true rfl), (Nat.le_of_ble_eq_true rfl)⟩) (k_pV hPc hDc hK hN hC hS hFc hP (q0 := 0) (ci := 2) rfl rfl) rfl rfl hl.1 rfl (lv_room (Nat.le_of_ble_eq_true rfl)) dX2_step_140 ⟨(Nat.le_of_ble_eq_true rfl), (Nat.le_of_ble_eq_true rfl)⟩) hP hD hS hA [0, 1] [2] rfl rfl rfl rfl (by decide) (fun _ => rfl) 0 0 rfl rfl (fun u_140 H locs hw hP hD hS => ?_)
                obtain ⟨g_140_0, g_140_1, g_140_2, g_140_3, g_140_4⟩ := hw
                have hP : va_P (dC, dI) vwCl [(a0_1, .inl (cJ, 25, .inr (.inl g0_1))), (a0, .inr (2, [.ref a0_0, .ref a0_1, .ref b0_2, .int v0_3, .int (u_140.1 0), .int j21_F0_4, .int (u_140.1 1), .int (u_140.1 2), .int 4, .int (u_140.1 3), .int (u_140.1 4)])), (a0_0, .inl (cI, 1600, .inl f0_0))] H := hP
                have hD : va_D A [(a0_1, .inl (cJ, 25, .inr (.inl g0_1))), (a0, .inr (2, [.ref a0_0, .ref a0_1, .ref b0_2, .int v0_3, .int (u_140.1 0), .int j21_F0_4, .int (u_140.1 1), .int (u_140.1 2), .int 4, .int (u_140.1 3), .int (u_140.1 4)])), (a0_0, .inl (cI, 1600, .inl f0_0))] := hD
                have g_140_3 : (0 : Int32) < v0_9 → (0 : Int32) < (u_140.1 3) := g_140_3
                have g_140_4 : ((u_140.1 3) = 0) ∨ (((u_140.1 1) = 259)) := g_140_4
                refine lv_goto (tgt := 169) hx hb dX2_step_143 (by decide) ?_
                exact J_169 (u_140.1 0) (u_140.1 1) (u_140.1 2) (u_140.1 3) (u_140.1 4) g_140_0 (iR_w g_140_1 (by decide +kernel)) g_140_2 (fun h => g_140_3 ((fun h => h) h)) g_140_4 H locs ls (hP.sub [1, 2, 0] rfl) (hD.sub [1, 2, 0] (by decide +kernel) rfl) hS (lv_sub hl [0, 1, 2] rfl)
            · have c_114 : ¬ r_111 = 0 := c_114
              have f_117_4 : iR r_111 1 1 := iR_neL c_114 g_111_0 (iR_c (n := 0) (a := 0) (b := 0) (by decide +kernel) (by decide +kernel)) (by decide +kernel)
              refine lv_aload_n hx hb dX2_step_117 rfl (lv_at hl 0 rfl) ?_
              refine k_cv (wc := [(a0, .inr (2, [.ref a0_0, .ref a0_1, .ref b0_2, .int v0_3, .int j21_F0_4, .int j21_F0_4, .int v0_6, .int v0_7, .int 4, .int v0_9, .int v0_10])), (a0_0, .inl (cI, 1600, .inl f0_0)), (a0_1, .inl (cJ, 25, .inr (.inl g0_1)))]) (wr := []) (fun hPc hDc hFc => va_runV (As := []) (rest := []) ⟨hx, hb, hml, hown, hts⟩ (s_X2_readWord_v9 l dC dI cI cJ cZ cM a0 a0_0 f0_0 a0_1 g0_1 b0_2 v0_3 j21_F0_4 j21_F0_4 v0_6 v0_7 v0_9 v0_10 (show iR v0_9 0 0 from f_8_1) (iR_w f_102_2 (by decide +kernel)) (iR_w f_102_1 (by decide +kernel)) (iR_w f_102_1 (by decide +kernel)) hv0_6 (iR_w f_8_1 (by decide +kernel)) hf0_0 hpg0 H.size) (cwV 0 hts gX2_step_X2_readWord rfl rfl rfl (by decide +kernel) ⟨(Nat.le_of_ble_eq_true rfl), (Nat.le_of_ble_eq_true rfl)⟩) (k_pV hPc hDc hK hN hC hS hFc hP (q0 := 0) (ci := 2) rfl rfl) rfl rfl hl.1 rfl (lv_room (Nat.le_of_ble_eq_true rfl)) dX2_step_118 ⟨(Nat.le_of_ble_eq_true rfl), (Nat.le_of_ble_eq_true rfl)⟩) hP hD hS hA [0, 1, 2] [] rfl rfl rfl rfl (by decide) (fun _ => rfl) 0 0 rfl rfl (fun u_118 H locs hw hP hD hS => ?_)
              obtain ⟨g_118_0, g_118_1, g_118_2, g_118_3, g_118_4⟩ := hw
              have hP : va_P (dC, dI) vwCl [(a0, .inr (2, [.ref a0_0, .ref a0_1, .ref b0_2, .int v0_3, .int (u_118.1 0), .int j21_F0_4, .int (u_118.1 1), .int (u_118.1 2), .int 4, .int (u_118.1 3), .int (u_118.1 4)])), (a0_0, .inl (cI, 1600, .inl f0_0)), (a0_1, .inl (cJ, 25, .inr (.inl g0_1)))] H := hP
              have hD : va_D A [(a0, .inr (2, [.ref a0_0, .ref a0_1, .ref b0_2, .int v0_3, .int (u_118.1 0), .int j21_F0_4, .int (u_118.1 1), .int (u_118.1 2), .int 4, .int (u_118.1 3), .int (u_118.1 4)])), (a0_0, .inl (cI, 1600, .inl f0_0)), (a0_1, .inl (cJ, 25, .inr (.inl g0_1)))] := hD
              have g_118_3 : (0 : Int32) < v0_9 → (0 : Int32) < (u_118.1 3) := g_118_3
              have g_118_4 : ((u_118.1 3) = 0) ∨ (((u_118.1 1) = 259)) := g_118_4
              refine lv_goto (tgt := 169) hx hb dX2_step_121 (by decide) ?_
              exact J_169 (u_118.1 0) (u_118.1 1) (u_118.1 2) (u_118.1 3) (u_118.1 4) g_118_0 (iR_w g_118_1 (by decide +kernel)) g_118_2 (fun h => g_118_3 ((fun h => h) h)) g_118_4 H locs ls hP hD hS (lv_sub hl [0, 1, 2] rfl)
          · have c_89 : v0_3 ≤ j21_F0_4 := i_nlt c_89
            refine lv_aload_n hx hb dX2_step_92 rfl (lv_at hl 0 rfl) ?_
            refine lv_sipush (v := 256) hx hb dX2_step_93 (by decide +kernel) ?_
            refine k_put (D := (dC, dI)) (ci := 2) (v := .int 256) (C := RX2) (T := TX2) (N := 11) (ws' := [(a0, .inr (2, [.ref a0_0, .ref a0_1, .ref b0_2, .int v0_3, .int j21_F0_4, .int j21_F0_4, .int 256, .int v0_7, .int 4, .int v0_9, .int v0_10])), (a0_0, .inl (cI, 1600, .inl f0_0)), (a0_1, .inl (cJ, 25, .inr (.inl g0_1)))]) hx hb hts hinX2 tyX2 tyX2_ok nmX2 hown hK hP hD hS 0 rfl rfl 6 (by decide) w_2 rfl rfl rfl rfl (Nat.le_of_ble_eq_true rfl) rfl dX2_step_96 (fun H locs hP hD hS => ?_)
            refine lv_goto (tgt := 169) hx hb dX2_step_99 (by decide) ?_
            exact J_169 j21_F0_4 256 v0_7 v0_9 v0_10 hj21_F0_4 (iR_c (n := 256) (a := 0) (b := 324) (by decide +kernel) (by decide +kernel)) (iR_w f_8_1 (by decide +kernel)) (fun h => h) (Or.inl c_4) H locs ls hP hD hS (lv_sub hl [0, 1, 2] rfl)
        refine lv_icmp_ge (tgt := 73) hx hb dX2_step_29 (by decide) (fun c_29 => ?_) (fun c_29 => ?_)
        · have c_29 : v0_3 ≤ j21_F0_4 := c_29
          exact J_73   H locs ls hP hD hS (lv_sub hl [0, 1, 2] rfl)
        · have c_29 : j21_F0_4 < v0_3 := i_nle c_29
          have f_32_1 : iR j21_F0_4 0 1599 := iR_ltL c_29 hj21_F0_4 hv0_3 (by decide +kernel)
          have f_32_2 : iR v0_3 1 1600 := iR_ltR c_29 hj21_F0_4 hv0_3 (by decide +kernel)
          refine lv_aload_n hx hb dX2_step_32 rfl (lv_at hl 0 rfl) ?_
          refine k_get (D := (dC, dI)) (ci := 2) (v := .ref a0_0) (C := RX2) (T := TX2) (N := 11) hx hb hts hinX2 hown hK hP 0 rfl rfl 0 (by decide) w_5 rfl rfl dX2_step_33 ?_
          refine lv_aload_n hx hb dX2_step_36 rfl (lv_at hl 0 rfl) ?_
          refine k_get (D := (dC, dI)) (ci := 2) (v := .int j21_F0_4) (C := RX2) (T := TX2) (N := 11) hx hb hts hinX2 hown hK hP 0 rfl rfl 4 (by decide) w_1 rfl rfl dX2_step_37 ?_
          refine va_iald hx hb hK hP 1 0 rfl rfl (iR_vp f_32_1 (by decide +kernel)) dX2_step_40 ?_
          have f_40_3 : iR (f0_0 j21_F0_4.toNatClampNeg) 0 255 := hf0_0 _
          refine lv_bipush (v := 32) hx hb dX2_step_41 (by decide +kernel) ?_
          have J_60 : ∀  (k60_0 : iR (f0_0 j21_F0_4.toNatClampNeg) 10 32) (H : Heap) (locs : List Loc) (ls : Array Slot), va_P (dC, dI) vwCl [(a0, .inr (2, [.ref a0_0, .ref a0_1, .ref b0_2, .int v0_3, .int j21_F0_4, .int v0_5, .int v0_6, .int v0_7, .int 4, .int v0_9, .int v0_10])), (a0_0, .inl (cI, 1600, .inl f0_0)), (a0_1, .inl (cJ, 25, .inr (.inl g0_1)))] H → va_D A [(a0, .inr (2, [.ref a0_0, .ref a0_1, .ref b0_2, .int v0_3, .int j21_F0_4, .int v0_5, .int v0_6, .int v0_7, .int 4, .int v0_9, .int v0_10])), (a0_0, .inl (cI, 1600, .inl f0_0)), (a0_1, .inl (cJ, 25, .inr (.inl g0_1)))] → va_S A s.heap H locs → lv_has ls 3 [(0, .ref a0), (1, .int v0_4), (2, .int r_17)] → W p l e ({ frames := 3, cells := 0, slots := 0, locals := 89 }) s m args below meth c H locs 0 0 (MQ below (va_Qv (fun (u9 : SU) => (iR (u9.1 0) 0 1600) ∧ (iR (u9.1 1) 0 1600) ∧ (iR (u9.1 2) 0 324) ∧ (iR (u9.1 4) 0 6) ∧ ((0 : Int32) < v0_9 → (0 : Int32) < (u9.1 4)) ∧ (((u9.1 4) = 0) ∨ (((u9.1 2) = 259)))) (fun u => k_B (dC, dI) vwCl (tyy cI cJ cZ cM) A ((fun (u9 : SU) => [(a0, .inr (2, [.ref a0_0, .ref a0_1, .ref b0_2, .int v0_3, .int (u9.1 0), .int (u9.1 1), .int (u9.1 2), .int (u9.1 3), .int 4, .int (u9.1 4), .int (u9.1 5)])), (a0_0, .inl (cI, 1600, .inl f0_0)), (a0_1, .inl (cJ, 25, .inr (.inl g0_1)))]) u)) A) args s 0 0 A) (F0 m 60 ls []) := by
            intro  k60_0 H locs ls hP hD hS hl
            refine lv_aload_n hx hb dX2_step_60 rfl (lv_at hl 0 rfl) ?_
            refine lv_dup hx hb dX2_step_61 rfl ?_
            refine k_get (D := (dC, dI)) (ci := 2) (v := .int j21_F0_4) (C := RX2) (T := TX2) (N := 11) hx hb hts hinX2 hown hK hP 0 rfl rfl 4 (by decide) w_1 rfl rfl dX2_step_62 ?_
            refine lv_iconst (v := 1) hx hb dX2_step_65 (by decide +kernel) ?_
            refine lv_iadd hx hb dX2_step_66 ?_
            refine lv_topi (fun y_66 ey_66 => ?_)
            have f_66_1 : iR y_66 1 1600 := iR_add ey_66 f_32_1 (iR_c (n := 1) (a := 1) (b := 1) (by decide +kernel) (by decide +kernel)) (by decide +kernel)
            refine k_put (D := (dC, dI)) (ci := 2) (v := .int y_66) (C := RX2) (T := TX2) (N := 11) (ws' := [(a0, .inr (2, [.ref a0_0, .ref a0_1, .ref b0_2, .int v0_3, .int y_66, .int v0_5, .int v0_6, .int v0_7, .int 4, .int v0_9, .int v0_10])), (a0_0, .inl (cI, 1600, .inl f0_0)), (a0_1, .inl (cJ, 25, .inr (.inl g0_1)))]) hx hb hts hinX2 tyX2 tyX2_ok nmX2 hown hK hP hD hS 0 rfl rfl 4 (by decide) w_1 rfl rfl rfl rfl (Nat.le_of_ble_eq_true rfl) rfl dX2_step_67 (fun H locs hP hD hS => ?_)
            refine lv_goto (tgt := 21) hx hb dX2_step_70 (by decide) ?_
            exact ih_21 y_66 (iR_w f_66_1 (by decide +kernel)) (m_up (B := 1600) hm_21 ey_66 f_32_1 (by decide +kernel)) H locs ls hP hD hS (lv_sub hl [0, 1, 2] rfl)
          refine lv_icmp_eq (tgt := 60) hx hb dX2_step_43 (by decide) (fun c_43 => ?_) (fun c_43 => ?_)
          · have c_43 : (f0_0 j21_F0_4.toNatClampNeg) = 32 := c_43
            have f_60_4 : iR (f0_0 j21_F0_4.toNatClampNeg) 32 32 := iR_eqL c_43 f_40_3 (iR_c (n := 32) (a := 32) (b := 32) (by decide +kernel) (by decide +kernel)) (by decide +kernel)
            exact J_60  (iR_w f_60_4 (by decide +kernel)) H locs ls hP hD hS (lv_sub hl [0, 1, 2] rfl)
          · have c_43 : ¬ (f0_0 j21_F0_4.toNatClampNeg) = 32 := c_43
            refine lv_aload_n hx hb dX2_step_46 rfl (lv_at hl 0 rfl) ?_
            refine k_get (D := (dC, dI)) (ci := 2) (v := .ref a0_0) (C := RX2) (T := TX2) (N := 11) hx hb hts hinX2 hown hK hP 0 rfl rfl 0 (by decide) w_5 rfl rfl dX2_step_47 ?_
            refine lv_aload_n hx hb dX2_step_50 rfl (lv_at hl 0 rfl) ?_
            refine k_get (D := (dC, dI)) (ci := 2) (v := .int j21_F0_4) (C := RX2) (T := TX2) (N := 11) hx hb hts hinX2 hown hK hP 0 rfl rfl 4 (by decide) w_1 rfl rfl dX2_step_51 ?_
            refine va_iald hx hb hK hP 1 0 rfl rfl (iR_vp f_32_1 (by decide +kernel)) dX2_step_54 ?_
            refine lv_bipush (v := 10) hx hb dX2_step_55 (by decide +kernel) ?_
            refine lv_icmp_ne (tgt := 73) hx hb dX2_step_57 (by decide) (fun c_57 => ?_) (fun c_57 => ?_)
            · have c_57 : ¬ (f0_0 j21_F0_4.toNatClampNeg) = 10 := c_57
              exact J_73   H locs ls hP hD hS (lv_sub hl [0, 1, 2] rfl)
            · have c_57 : (f0_0 j21_F0_4.toNatClampNeg) = 10 := c_57
              have f_60_4 : iR (f0_0 j21_F0_4.toNatClampNeg) 10 10 := iR_eqL c_57 f_40_3 (iR_c (n := 10) (a := 10) (b := 10) (by decide +kernel) (by decide +kernel)) (by decide +kernel)
              exact J_60  (iR_w f_60_4 (by decide +kernel)) H locs ls hP hD hS (lv_sub hl [0, 1, 2] rfl)
    refine lv_istore_n (lv' := [(2, .int r_17), (1, .int v0_4), (0, .ref a0)]) hx hb dX2_step_20 rfl hl (by decide) rfl (fun ls hl => ?_)
    exact J_21 _ v0_4 hv0_4 (Nat.lt_succ_self _) H locs ls hP hD hS (lv_sub hl [2, 1, 0] rfl)
  · have c_4 : ¬ v0_9 = 0 := c_4
    have f_7_1 : iR v0_9 1 6 := iR_neL c_4 hv0_9 (iR_c (n := 0) (a := 0) (b := 0) (by decide +kernel) (by decide +kernel)) (by decide +kernel)
    obtain d_4_1_0 := hpg0.resolve_left c_4
    have f_7_2 : iR v0_6 259 259 := iR_eqL d_4_1_0 hv0_6 (iR_c (n := 259) (a := 259) (b := 259) (by decide +kernel) (by decide +kernel)) (by decide +kernel)
    exact k_rv B hP hD hS dX2_step_7 ((fun k9 => match k9 with | 0 => v0_4 | 1 => v0_5 | 2 => v0_6 | 3 => v0_7 | 4 => v0_9 | 5 => v0_10 | _ => 0), (fun _ => 0), (fun _ => (fun _ => 0)), (fun _ => (fun _ => 0)), (fun _ => 0)) [0, 1, 2] rfl rfl (Nat.le_of_ble_eq_true rfl) (Nat.le_of_ble_eq_true rfl) ⟨(show iR v0_4 0 1600 from hv0_4), (show iR v0_5 0 1600 from hv0_5), (show iR v0_6 0 324 from (iR_w f_7_2 (by decide +kernel))), (show iR v0_9 0 6 from (iR_w f_7_1 (by decide +kernel))), (show (0 : Int32) < v0_9 → (0 : Int32) < v0_9 from (fun h => h)), (show (v0_9 = 0) ∨ ((v0_6 = 259)) from (Or.inr d_4_1_0))⟩
set_option maxHeartbeats 8000000 in
set_option maxRecDepth 100000 in
theorem s_X2_open_v3 (l : Launch) (dC : Nat → ClassId) (dI : Nat → Nat → Nat) (cI cJ cZ cM : ClassId) (a0 : Nat) (a0_0 : Nat) (f0_0 : Nat → Int32) (a0_1 : Nat) (g0_1 : Nat → Int64) (a0_2 : Nat) (v0_3 : Int32) (v0_4 : Int32) (v0_5 : Int32) (v0_6 : Int32) (v0_7 : Int32) (v0_9 : Int32) (v0_10 : Int32) (hv0_3 : iR v0_3 0 1600) (hv0_4 : iR v0_4 0 1600) (hv0_5 : iR v0_5 0 1600) (hv0_6 : iR v0_6 0 324) (hv0_9 : iR v0_9 0 6) (hf0_0 : aR f0_0 0 255) (hpg0 : (v0_9 = 0) ∨ ((v0_6 = 259))) : k_Mv l yX2_open wsX2_open ({ frames := 4, cells := 0, slots := 0, locals := 111 }) (dC, dI) vwCl (tyy cI cJ cZ cM) [(a0, .inr (2, [.ref a0_0, .ref a0_1, .ref a0_2, .int v0_3, .int v0_4, .int v0_5, .int v0_6, .int v0_7, .int 3, .int v0_9, .int v0_10])), (a0_0, .inl (cI, 1600, .inl f0_0)), (a0_1, .inl (cJ, 25, .inr (.inl g0_1)))] [.ref a0] 0 0 (fun (u9 : SU) => [(a0, .inr (2, [.ref a0_0, .ref a0_1, .ref a0_2, .int v0_3, .int (u9.1 0), .int (u9.1 1), .int (u9.1 2), .int (u9.1 3), .int 4, .int (u9.1 4), .int (u9.1 5)])), (a0_0, .inl (cI, 1600, .inl f0_0)), (a0_1, .inl (cJ, 25, .inr (.inl g0_1)))]) (fun (u9 : SU) => (iR (u9.1 0) 0 1600) ∧ (iR (u9.1 1) 0 1600) ∧ (iR (u9.1 2) 0 324) ∧ (iR (u9.1 4) 0 6) ∧ ((0 : Int32) < v0_9 → (0 : Int32) < (u9.1 4)) ∧ (((u9.1 4) = 0) ∨ (((u9.1 2) = 259)))) := by
  refine fun sz => k_enter (cc := cX2_open) (maxL := 1) (ret := none) (Qc := fun A => va_Qv (fun (u9 : SU) => (iR (u9.1 0) 0 1600) ∧ (iR (u9.1 1) 0 1600) ∧ (iR (u9.1 2) 0 324) ∧ (iR (u9.1 4) 0 6) ∧ ((0 : Int32) < v0_9 → (0 : Int32) < (u9.1 4)) ∧ (((u9.1 4) = 0) ∨ (((u9.1 2) = 259)))) (fun u => k_B (dC, dI) vwCl (tyy cI cJ cZ cM) A ((fun (u9 : SU) => [(a0, .inr (2, [.ref a0_0, .ref a0_1, .ref a0_2, .int v0_3, .int (u9.1 0), .int (u9.1 1), .int (u9.1 2), .int (u9.1 3), .int 4, .int (u9.1 4), .int (u9.1 5)])), (a0_0, .inl (cI, 1600, .inl f0_0)), (a0_1, .inl (cJ, 25, .inr (.inl g0_1)))]) u)) A) sz (by decide +kernel) rfl (Nat.le_of_ble_eq_true rfl) (fun p e s m args below meth c A ls H locs B hP hD hS hl => ?_)
  obtain ⟨hx, hb, hml, hown, hts, hr, hlk, hnm, hK, hA, hN, hC⟩ := id B
  have hown : s.vm.findClass RX2 = some m.cls := hown
  have hl : lv_has ls 1 [(0, .ref a0)] := hl
  have w_0 : (Cond.fieldLink RX2 60 "WishSea$Reader" "opened" "I").before args s = true := hts _ (List.mem_of_getElem? (i := 1) rfl)
  have hinX2 : ∀ w ∈ u_ws RX2 TX2 11, w ∈ wsX2_open := fun _ h => List.mem_cons_of_mem _ (List.mem_append_right _ h)
  refine lv_aload_n hx hb dX2_open_0 rfl (lv_at hl 0 rfl) ?_
  refine k_get (D := (dC, dI)) (ci := 2) (v := .int 3) (C := RX2) (T := TX2) (N := 11) hx hb hts hinX2 hown hK hP 0 rfl rfl 8 (by decide) w_0 rfl rfl dX2_open_1 ?_
  refine lv_bipush (v := 7) hx hb dX2_open_4 (by decide +kernel) ?_
  have J_18 : ∀   (H : Heap) (locs : List Loc) (ls : Array Slot), va_P (dC, dI) vwCl [(a0, .inr (2, [.ref a0_0, .ref a0_1, .ref a0_2, .int v0_3, .int v0_4, .int v0_5, .int v0_6, .int v0_7, .int 3, .int v0_9, .int v0_10])), (a0_0, .inl (cI, 1600, .inl f0_0)), (a0_1, .inl (cJ, 25, .inr (.inl g0_1)))] H → va_D A [(a0, .inr (2, [.ref a0_0, .ref a0_1, .ref a0_2, .int v0_3, .int v0_4, .int v0_5, .int v0_6, .int v0_7, .int 3, .int v0_9, .int v0_10])), (a0_0, .inl (cI, 1600, .inl f0_0)), (a0_1, .inl (cJ, 25, .inr (.inl g0_1)))] → va_S A s.heap H locs → lv_has ls 1 [(0, .ref a0)] → W p l e ({ frames := 4, cells := 0, slots := 0, locals := 111 }) s m args below meth c H locs 0 0 (MQ below (va_Qv (fun (u9 : SU) => (iR (u9.1 0) 0 1600) ∧ (iR (u9.1 1) 0 1600) ∧ (iR (u9.1 2) 0 324) ∧ (iR (u9.1 4) 0 6) ∧ ((0 : Int32) < v0_9 → (0 : Int32) < (u9.1 4)) ∧ (((u9.1 4) = 0) ∨ (((u9.1 2) = 259)))) (fun u => k_B (dC, dI) vwCl (tyy cI cJ cZ cM) A ((fun (u9 : SU) => [(a0, .inr (2, [.ref a0_0, .ref a0_1, .ref a0_2, .int v0_3, .int (u9.1 0), .int (u9.1 1), .int (u9.1 2), .int (u9.1 3), .int 4, .int (u9.1 4), .int (u9.1 5)])), (a0_0, .inl (cI, 1600, .inl f0_0)), (a0_1, .inl (cJ, 25, .inr (.inl g0_1)))]) u)) A) args s 0 0 A) (F0 m 18 ls []) := by
    intro   H locs ls hP hD hS hl
    refine lv_aload_n hx hb dX2_open_18 rfl (lv_at hl 0 rfl) ?_
    refine lv_dup hx hb dX2_open_19 rfl ?_
    refine k_get (D := (dC, dI)) (ci := 2) (v := .int 3) (C := RX2) (T := TX2) (N := 11) hx hb hts hinX2 hown hK hP 0 rfl rfl 8 (by decide) w_0 rfl rfl dX2_open_20 ?_
    refine lv_iconst (v := 1) hx hb dX2_open_23 (by decide +kernel) ?_
    refine lv_iadd hx hb dX2_open_24 ?_
    refine k_int (v := 4) (by decide +kernel) ?_
    refine k_put (D := (dC, dI)) (ci := 2) (v := .int 4) (C := RX2) (T := TX2) (N := 11) (ws' := [(a0, .inr (2, [.ref a0_0, .ref a0_1, .ref a0_2, .int v0_3, .int v0_4, .int v0_5, .int v0_6, .int v0_7, .int 4, .int v0_9, .int v0_10])), (a0_0, .inl (cI, 1600, .inl f0_0)), (a0_1, .inl (cJ, 25, .inr (.inl g0_1)))]) hx hb hts hinX2 tyX2 tyX2_ok nmX2 hown hK hP hD hS 0 rfl rfl 8 (by decide) w_0 rfl rfl rfl rfl (Nat.le_of_ble_eq_true rfl) rfl dX2_open_25 (fun H locs hP hD hS => ?_)
    refine lv_aload_n hx hb dX2_open_28 rfl (lv_at hl 0 rfl) ?_
    refine k_cv (wc := [(a0, .inr (2, [.ref a0_0, .ref a0_1, .ref a0_2, .int v0_3, .int v0_4, .int v0_5, .int v0_6, .int v0_7, .int 4, .int v0_9, .int v0_10])), (a0_0, .inl (cI, 1600, .inl f0_0)), (a0_1, .inl (cJ, 25, .inr (.inl g0_1)))]) (wr := []) (fun hPc hDc hFc => va_runV (As := []) (rest := []) ⟨hx, hb, hml, hown, hts⟩ (s_X2_step_v9 l dC dI cI cJ cZ cM a0 a0_0 f0_0 a0_1 g0_1 a0_2 v0_3 v0_4 v0_5 v0_6 v0_7 v0_9 v0_10 hv0_3 hv0_4 hv0_5 hv0_6 hv0_9 hf0_0 hpg0 H.size) (cwV 0 hts gX2_open_X2_step rfl rfl rfl (by decide +kernel) ⟨(Nat.le_of_ble_eq_true rfl), (Nat.le_of_ble_eq_true rfl)⟩) (k_pV hPc hDc hK hN hC hS hFc hP (q0 := 0) (ci := 2) rfl rfl) rfl rfl hl.1 rfl (lv_room (Nat.le_of_ble_eq_true rfl)) dX2_open_29 ⟨(Nat.le_of_ble_eq_true rfl), (Nat.le_of_ble_eq_true rfl)⟩) hP hD hS hA [0, 1, 2] [] rfl rfl rfl rfl (by decide) (fun _ => rfl) 0 0 rfl rfl (fun u_29 H locs hw hP hD hS => ?_)
    obtain ⟨g_29_0, g_29_1, g_29_2, g_29_3, g_29_4, g_29_5⟩ := hw
    have hP : va_P (dC, dI) vwCl [(a0, .inr (2, [.ref a0_0, .ref a0_1, .ref a0_2, .int v0_3, .int (u_29.1 0), .int (u_29.1 1), .int (u_29.1 2), .int (u_29.1 3), .int 4, .int (u_29.1 4), .int (u_29.1 5)])), (a0_0, .inl (cI, 1600, .inl f0_0)), (a0_1, .inl (cJ, 25, .inr (.inl g0_1)))] H := hP
    have hD : va_D A [(a0, .inr (2, [.ref a0_0, .ref a0_1, .ref a0_2, .int v0_3, .int (u_29.1 0), .int (u_29.1 1), .int (u_29.1 2), .int (u_29.1 3), .int 4, .int (u_29.1 4), .int (u_29.1 5)])), (a0_0, .inl (cI, 1600, .inl f0_0)), (a0_1, .inl (cJ, 25, .inr (.inl g0_1)))] := hD
    have g_29_4 : (0 : Int32) < v0_9 → (0 : Int32) < (u_29.1 4) := g_29_4
    have g_29_5 : ((u_29.1 4) = 0) ∨ (((u_29.1 2) = 259)) := g_29_5
    exact k_rv B hP hD hS dX2_open_32 ((fun k9 => match k9 with | 0 => (u_29.1 0) | 1 => (u_29.1 1) | 2 => (u_29.1 2) | 3 => (u_29.1 3) | 4 => (u_29.1 4) | 5 => (u_29.1 5) | _ => 0), (fun _ => 0), (fun _ => (fun _ => 0)), (fun _ => (fun _ => 0)), (fun _ => 0)) [0, 1, 2] rfl rfl (Nat.le_of_ble_eq_true rfl) (Nat.le_of_ble_eq_true rfl) ⟨(show iR (u_29.1 0) 0 1600 from g_29_0), (show iR (u_29.1 1) 0 1600 from g_29_1), (show iR (u_29.1 2) 0 324 from g_29_2), (show iR (u_29.1 4) 0 6 from g_29_3), (show (0 : Int32) < v0_9 → (0 : Int32) < (u_29.1 4) from (fun h => g_29_4 ((fun h => h) h))), (show ((u_29.1 4) = 0) ∨ (((u_29.1 2) = 259)) from g_29_5)⟩
  refine lv_icmp_lt (tgt := 18) hx hb dX2_open_6 (by decide) (fun _ => ?_) (fun q9 => absurd q9 (by decide +kernel))
  exact J_18   H locs ls hP hD hS (lv_sub hl [0] rfl)
set_option maxHeartbeats 8000000 in
set_option maxRecDepth 100000 in
theorem s_X2_blame_v15 (l : Launch) (dC : Nat → ClassId) (dI : Nat → Nat → Nat) (cI cJ cZ cM : ClassId) (a0 : Nat) (x1 : Int32) (x2 : Int32) (a0_0 : Nat) (a0_1 : Nat) (a0_2 : Nat) (v0_3 : Int32) (v0_4 : Int32) (v0_5 : Int32) (v0_6 : Int32) (v0_7 : Int32) (v0_9 : Int32) (v0_10 : Int32) (hx1 : iR x1 1 6) (hv0_3 : iR v0_3 0 1600) (hv0_4 : iR v0_4 0 1600) (hv0_5 : iR v0_5 0 1600) (hv0_6 : iR v0_6 0 324) (hv0_9 : iR v0_9 0 6) (hpg0 : (v0_9 = 0) ∨ ((v0_6 = 259))) : k_Mv l yX2_blame wsX2_blame ({ frames := 1, cells := 0, slots := 0, locals := 40 }) (dC, dI) vwCl (tyy cI cJ cZ cM) [(a0, .inr (2, [.ref a0_0, .ref a0_1, .ref a0_2, .int v0_3, .int v0_4, .int v0_5, .int v0_6, .int v0_7, .int 5, .int v0_9, .int v0_10]))] [.ref a0, .int x1, .int x2] 0 0 (fun (u9 : SU) => [(a0, .inr (2, [.ref a0_0, .ref a0_1, .ref a0_2, .int v0_3, .int v0_4, .int v0_5, .int (u9.1 0), .int v0_7, .int 5, .int (u9.1 1), .int (u9.1 2)]))]) (fun (u9 : SU) => (iR (u9.1 0) 259 259) ∧ (iR (u9.1 1) 1 6) ∧ ((0 : Int32) < v0_9 → (0 : Int32) < (u9.1 1)) ∧ (((u9.1 1) = 0) ∨ (((u9.1 0) = 259)))) := by
  refine fun sz => k_enter (cc := cX2_blame) (maxL := 3) (ret := none) (Qc := fun A => va_Qv (fun (u9 : SU) => (iR (u9.1 0) 259 259) ∧ (iR (u9.1 1) 1 6) ∧ ((0 : Int32) < v0_9 → (0 : Int32) < (u9.1 1)) ∧ (((u9.1 1) = 0) ∨ (((u9.1 0) = 259)))) (fun u => k_B (dC, dI) vwCl (tyy cI cJ cZ cM) A ((fun (u9 : SU) => [(a0, .inr (2, [.ref a0_0, .ref a0_1, .ref a0_2, .int v0_3, .int v0_4, .int v0_5, .int (u9.1 0), .int v0_7, .int 5, .int (u9.1 1), .int (u9.1 2)]))]) u)) A) sz (by decide +kernel) rfl (Nat.le_of_ble_eq_true rfl) (fun p e s m args below meth c A ls H locs B hP hD hS hl => ?_)
  obtain ⟨hx, hb, hml, hown, hts, hr, hlk, hnm, hK, hA, hN, hC⟩ := id B
  have hown : s.vm.findClass RX2 = some m.cls := hown
  have hl : lv_has ls 3 [(0, .ref a0), (1, .int x1), (2, .int x2)] := hl
  have w_0 : (Cond.fieldLink RX2 63 "WishSea$Reader" "fault" "I").before args s = true := hts _ (List.mem_of_getElem? (i := 1) rfl)
  have w_1 : (Cond.fieldLink RX2 19 "WishSea$Reader" "place" "I").before args s = true := hts _ (List.mem_of_getElem? (i := 2) rfl)
  have w_2 : (Cond.fieldLink RX2 15 "WishSea$Reader" "token" "I").before args s = true := hts _ (List.mem_of_getElem? (i := 3) rfl)
  have hinX2 : ∀ w ∈ u_ws RX2 TX2 11, w ∈ wsX2_blame := fun _ h => List.mem_cons_of_mem _ (List.mem_append_right _ h)
  refine lv_aload_n hx hb dX2_blame_0 rfl (lv_at hl 0 rfl) ?_
  refine k_get (D := (dC, dI)) (ci := 2) (v := .int v0_9) (C := RX2) (T := TX2) (N := 11) hx hb hts hinX2 hown hK hP 0 rfl rfl 9 (by decide) w_0 rfl rfl dX2_blame_1 ?_
  refine lv_if_ne (tgt := 24) hx hb dX2_blame_4 (by decide) (fun c_4 => ?_) (fun c_4 => ?_)
  · have c_4 : ¬ v0_9 = 0 := c_4
    have f_24_1 : iR v0_9 1 6 := iR_neL c_4 hv0_9 (iR_c (n := 0) (a := 0) (b := 0) (by decide +kernel) (by decide +kernel)) (by decide +kernel)
    obtain d_4_1_0 := hpg0.resolve_left c_4
    have f_24_2 : iR v0_6 259 259 := iR_eqL d_4_1_0 hv0_6 (iR_c (n := 259) (a := 259) (b := 259) (by decide +kernel) (by decide +kernel)) (by decide +kernel)
    exact k_rv B hP hD hS dX2_blame_24 ((fun k9 => match k9 with | 0 => v0_6 | 1 => v0_9 | 2 => v0_10 | _ => 0), (fun _ => 0), (fun _ => (fun _ => 0)), (fun _ => (fun _ => 0)), (fun _ => 0)) [0] rfl rfl (Nat.le_of_ble_eq_true rfl) (Nat.le_of_ble_eq_true rfl) ⟨(show iR v0_6 259 259 from f_24_2), (show iR v0_9 1 6 from f_24_1), (show (0 : Int32) < v0_9 → (0 : Int32) < v0_9 from (fun h => h)), (show (v0_9 = 0) ∨ ((v0_6 = 259)) from (Or.inr d_4_1_0))⟩
  · have c_4 : v0_9 = 0 := c_4
    have f_7_1 : iR v0_9 0 0 := iR_eqL c_4 hv0_9 (iR_c (n := 0) (a := 0) (b := 0) (by decide +kernel) (by decide +kernel)) (by decide +kernel)
    refine lv_aload_n hx hb dX2_blame_7 rfl (lv_at hl 0 rfl) ?_
    refine lv_iload_n hx hb dX2_blame_8 rfl (lv_at hl 1 rfl) ?_
    refine k_put (D := (dC, dI)) (ci := 2) (v := .int x1) (C := RX2) (T := TX2) (N := 11) (ws' := [(a0, .inr (2, [.ref a0_0, .ref a0_1, .ref a0_2, .int v0_3, .int v0_4, .int v0_5, .int v0_6, .int v0_7, .int 5, .int x1, .int v0_10]))]) hx hb hts hinX2 tyX2 tyX2_ok nmX2 hown hK hP hD hS 0 rfl rfl 9 (by decide) w_0 rfl rfl rfl rfl (Nat.le_of_ble_eq_true rfl) rfl dX2_blame_9 (fun H locs hP hD hS => ?_)
    refine lv_aload_n hx hb dX2_blame_12 rfl (lv_at hl 0 rfl) ?_
    refine lv_iload_n hx hb dX2_blame_13 rfl (lv_at hl 2 rfl) ?_
    refine k_put (D := (dC, dI)) (ci := 2) (v := .int x2) (C := RX2) (T := TX2) (N := 11) (ws' := [(a0, .inr (2, [.ref a0_0, .ref a0_1, .ref a0_2, .int v0_3, .int v0_4, .int v0_5, .int v0_6, .int v0_7, .int 5, .int x1, .int x2]))]) hx hb hts hinX2 tyX2 tyX2_ok nmX2 hown hK hP hD hS 0 rfl rfl 10 (by decide) w_1 rfl rfl rfl rfl (Nat.le_of_ble_eq_true rfl) rfl dX2_blame_14 (fun H locs hP hD hS => ?_)
    refine lv_aload_n hx hb dX2_blame_17 rfl (lv_at hl 0 rfl) ?_
    refine lv_sipush (v := 259) hx hb dX2_blame_18 (by decide +kernel) ?_
    refine k_put (D := (dC, dI)) (ci := 2) (v := .int 259) (C := RX2) (T := TX2) (N := 11) (ws' := [(a0, .inr (2, [.ref a0_0, .ref a0_1, .ref a0_2, .int v0_3, .int v0_4, .int v0_5, .int 259, .int v0_7, .int 5, .int x1, .int x2]))]) hx hb hts hinX2 tyX2 tyX2_ok nmX2 hown hK hP hD hS 0 rfl rfl 6 (by decide) w_2 rfl rfl rfl rfl (Nat.le_of_ble_eq_true rfl) rfl dX2_blame_21 (fun H locs hP hD hS => ?_)
    exact k_rv B hP hD hS dX2_blame_24 ((fun k9 => match k9 with | 0 => 259 | 1 => x1 | 2 => x2 | _ => 0), (fun _ => 0), (fun _ => (fun _ => 0)), (fun _ => (fun _ => 0)), (fun _ => 0)) [0] rfl rfl (Nat.le_of_ble_eq_true rfl) (Nat.le_of_ble_eq_true rfl) ⟨(show iR 259 259 259 from (iR_c (n := 259) (a := 259) (b := 259) (by decide +kernel) (by decide +kernel))), (show iR x1 1 6 from hx1), (show (0 : Int32) < v0_9 → (0 : Int32) < x1 from (fun _ => (i_ltf (iR_c (n := 0) (a := 0) (b := 0) (by decide +kernel) (by decide +kernel)) hx1 (by decide +kernel)))), (show (x1 = 0) ∨ ((259 = 259)) from (Or.inr rfl))⟩
set_option maxHeartbeats 8000000 in
set_option maxRecDepth 100000 in
theorem s_X2_blame_v16 (l : Launch) (dC : Nat → ClassId) (dI : Nat → Nat → Nat) (cI cJ cZ cM : ClassId) (a0 : Nat) (x1 : Int32) (x2 : Int32) (a0_0 : Nat) (b0_1 : Nat) (b0_2 : Nat) (v0_3 : Int32) (v0_4 : Int32) (v0_5 : Int32) (v0_6 : Int32) (v0_7 : Int32) (v0_9 : Int32) (v0_10 : Int32) (hx1 : iR x1 1 6) (hv0_3 : iR v0_3 0 1600) (hv0_4 : iR v0_4 0 1600) (hv0_5 : iR v0_5 0 1600) (hv0_6 : iR v0_6 0 324) (hv0_9 : iR v0_9 0 6) (hpg0 : (v0_9 = 0) ∨ ((v0_6 = 259))) : k_Mv l yX2_blame wsX2_blame ({ frames := 1, cells := 0, slots := 0, locals := 40 }) (dC, dI) vwCl (tyy cI cJ cZ cM) [(a0, .inr (2, [.ref a0_0, .ref b0_1, .ref b0_2, .int v0_3, .int v0_4, .int v0_5, .int v0_6, .int v0_7, .int 5, .int v0_9, .int v0_10]))] [.ref a0, .int x1, .int x2] 0 0 (fun (u9 : SU) => [(a0, .inr (2, [.ref a0_0, .ref b0_1, .ref b0_2, .int v0_3, .int v0_4, .int v0_5, .int (u9.1 0), .int v0_7, .int 5, .int (u9.1 1), .int (u9.1 2)]))]) (fun (u9 : SU) => (iR (u9.1 0) 259 259) ∧ (iR (u9.1 1) 1 6) ∧ ((0 : Int32) < v0_9 → (0 : Int32) < (u9.1 1)) ∧ (((u9.1 1) = 0) ∨ (((u9.1 0) = 259)))) := by
  refine fun sz => k_enter (cc := cX2_blame) (maxL := 3) (ret := none) (Qc := fun A => va_Qv (fun (u9 : SU) => (iR (u9.1 0) 259 259) ∧ (iR (u9.1 1) 1 6) ∧ ((0 : Int32) < v0_9 → (0 : Int32) < (u9.1 1)) ∧ (((u9.1 1) = 0) ∨ (((u9.1 0) = 259)))) (fun u => k_B (dC, dI) vwCl (tyy cI cJ cZ cM) A ((fun (u9 : SU) => [(a0, .inr (2, [.ref a0_0, .ref b0_1, .ref b0_2, .int v0_3, .int v0_4, .int v0_5, .int (u9.1 0), .int v0_7, .int 5, .int (u9.1 1), .int (u9.1 2)]))]) u)) A) sz (by decide +kernel) rfl (Nat.le_of_ble_eq_true rfl) (fun p e s m args below meth c A ls H locs B hP hD hS hl => ?_)
  obtain ⟨hx, hb, hml, hown, hts, hr, hlk, hnm, hK, hA, hN, hC⟩ := id B
  have hown : s.vm.findClass RX2 = some m.cls := hown
  have hl : lv_has ls 3 [(0, .ref a0), (1, .int x1), (2, .int x2)] := hl
  have w_0 : (Cond.fieldLink RX2 63 "WishSea$Reader" "fault" "I").before args s = true := hts _ (List.mem_of_getElem? (i := 1) rfl)
  have w_1 : (Cond.fieldLink RX2 19 "WishSea$Reader" "place" "I").before args s = true := hts _ (List.mem_of_getElem? (i := 2) rfl)
  have w_2 : (Cond.fieldLink RX2 15 "WishSea$Reader" "token" "I").before args s = true := hts _ (List.mem_of_getElem? (i := 3) rfl)
  have hinX2 : ∀ w ∈ u_ws RX2 TX2 11, w ∈ wsX2_blame := fun _ h => List.mem_cons_of_mem _ (List.mem_append_right _ h)
  refine lv_aload_n hx hb dX2_blame_0 rfl (lv_at hl 0 rfl) ?_
  refine k_get (D := (dC, dI)) (ci := 2) (v := .int v0_9) (C := RX2) (T := TX2) (N := 11) hx hb hts hinX2 hown hK hP 0 rfl rfl 9 (by decide) w_0 rfl rfl dX2_blame_1 ?_
  refine lv_if_ne (tgt := 24) hx hb dX2_blame_4 (by decide) (fun c_4 => ?_) (fun c_4 => ?_)
  · have c_4 : ¬ v0_9 = 0 := c_4
    have f_24_1 : iR v0_9 1 6 := iR_neL c_4 hv0_9 (iR_c (n := 0) (a := 0) (b := 0) (by decide +kernel) (by decide +kernel)) (by decide +kernel)
    obtain d_4_1_0 := hpg0.resolve_left c_4
    have f_24_2 : iR v0_6 259 259 := iR_eqL d_4_1_0 hv0_6 (iR_c (n := 259) (a := 259) (b := 259) (by decide +kernel) (by decide +kernel)) (by decide +kernel)
    exact k_rv B hP hD hS dX2_blame_24 ((fun k9 => match k9 with | 0 => v0_6 | 1 => v0_9 | 2 => v0_10 | _ => 0), (fun _ => 0), (fun _ => (fun _ => 0)), (fun _ => (fun _ => 0)), (fun _ => 0)) [0] rfl rfl (Nat.le_of_ble_eq_true rfl) (Nat.le_of_ble_eq_true rfl) ⟨(show iR v0_6 259 259 from f_24_2), (show iR v0_9 1 6 from f_24_1), (show (0 : Int32) < v0_9 → (0 : Int32) < v0_9 from (fun h => h)), (show (v0_9 = 0) ∨ ((v0_6 = 259)) from (Or.inr d_4_1_0))⟩
  · have c_4 : v0_9 = 0 := c_4
    have f_7_1 : iR v0_9 0 0 := iR_eqL c_4 hv0_9 (iR_c (n := 0) (a := 0) (b := 0) (by decide +kernel) (by decide +kernel)) (by decide +kernel)
    refine lv_aload_n hx hb dX2_blame_7 rfl (lv_at hl 0 rfl) ?_
    refine lv_iload_n hx hb dX2_blame_8 rfl (lv_at hl 1 rfl) ?_
    refine k_put (D := (dC, dI)) (ci := 2) (v := .int x1) (C := RX2) (T := TX2) (N := 11) (ws' := [(a0, .inr (2, [.ref a0_0, .ref b0_1, .ref b0_2, .int v0_3, .int v0_4, .int v0_5, .int v0_6, .int v0_7, .int 5, .int x1, .int v0_10]))]) hx hb hts hinX2 tyX2 tyX2_ok nmX2 hown hK hP hD hS 0 rfl rfl 9 (by decide) w_0 rfl rfl rfl rfl (Nat.le_of_ble_eq_true rfl) rfl dX2_blame_9 (fun H locs hP hD hS => ?_)
    refine lv_aload_n hx hb dX2_blame_12 rfl (lv_at hl 0 rfl) ?_
    refine lv_iload_n hx hb dX2_blame_13 rfl (lv_at hl 2 rfl) ?_
    refine k_put (D := (dC, dI)) (ci := 2) (v := .int x2) (C := RX2) (T := TX2) (N := 11) (ws' := [(a0, .inr (2, [.ref a0_0, .ref b0_1, .ref b0_2, .int v0_3, .int v0_4, .int v0_5, .int v0_6, .int v0_7, .int 5, .int x1, .int x2]))]) hx hb hts hinX2 tyX2 tyX2_ok nmX2 hown hK hP hD hS 0 rfl rfl 10 (by decide) w_1 rfl rfl rfl rfl (Nat.le_of_ble_eq_true rfl) rfl dX2_blame_14 (fun H locs hP hD hS => ?_)
    refine lv_aload_n hx hb dX2_blame_17 rfl (lv_at hl 0 rfl) ?_
    refine lv_sipush (v := 259) hx hb dX2_blame_18 (by decide +kernel) ?_
    refine k_put (D := (dC, dI)) (ci := 2) (v := .int 259) (C := RX2) (T := TX2) (N := 11) (ws' := [(a0, .inr (2, [.ref a0_0, .ref b0_1, .ref b0_2, .int v0_3, .int v0_4, .int v0_5, .int 259, .int v0_7, .int 5, .int x1, .int x2]))]) hx hb hts hinX2 tyX2 tyX2_ok nmX2 hown hK hP hD hS 0 rfl rfl 6 (by decide) w_2 rfl rfl rfl rfl (Nat.le_of_ble_eq_true rfl) rfl dX2_blame_21 (fun H locs hP hD hS => ?_)
    exact k_rv B hP hD hS dX2_blame_24 ((fun k9 => match k9 with | 0 => 259 | 1 => x1 | 2 => x2 | _ => 0), (fun _ => 0), (fun _ => (fun _ => 0)), (fun _ => (fun _ => 0)), (fun _ => 0)) [0] rfl rfl (Nat.le_of_ble_eq_true rfl) (Nat.le_of_ble_eq_true rfl) ⟨(show iR 259 259 259 from (iR_c (n := 259) (a := 259) (b := 259) (by decide +kernel) (by decide +kernel))), (show iR x1 1 6 from hx1), (show (0 : Int32) < v0_9 → (0 : Int32) < x1 from (fun _ => (i_ltf (iR_c (n := 0) (a := 0) (b := 0) (by decide +kernel) (by decide +kernel)) hx1 (by decide +kernel)))), (show (x1 = 0) ∨ ((259 = 259)) from (Or.inr rfl))⟩
set_option maxHeartbeats 8000000 in
set_option maxRecDepth 100000 in
theorem s_X2_ownIndex_v11 (l : Launch) (dC : Nat → ClassId) (dI : Nat → Nat → Nat) (cI cJ cZ cM : ClassId) (a0 : Nat) (x1 : Int64) (a0_0 : Nat) (a0_1 : Nat) (g0_1 : Nat → Int64) (b0_2 : Nat) (v0_3 : Int32) (v0_4 : Int32) (v0_5 : Int32) (v0_6 : Int32) (v0_7 : Int32) (v0_9 : Int32) (v0_10 : Int32) (hv0_3 : iR v0_3 0 1600) (hv0_4 : iR v0_4 0 1600) (hv0_5 : iR v0_5 0 1600) (hv0_6 : iR v0_6 0 324) (hv0_9 : iR v0_9 0 6) : k_Mi l yX2_ownIndex wsX2_ownIndex ({ frames := 1, cells := 0, slots := 0, locals := 40 }) (dC, dI) vwCl (tyy cI cJ cZ cM) [(a0, .inr (2, [.ref a0_0, .ref a0_1, .ref b0_2, .int v0_3, .int v0_4, .int v0_5, .int v0_6, .int v0_7, .int 5, .int v0_9, .int v0_10])), (a0_1, .inl (cJ, 25, .inr (.inl g0_1)))] [.ref a0, .long x1] 0 0 (fun (u9 : Unit) => [(a0, .inr (2, [.ref a0_0, .ref a0_1, .ref b0_2, .int v0_3, .int v0_4, .int v0_5, .int v0_6, .int v0_7, .int 5, .int v0_9, .int v0_10])), (a0_1, .inl (cJ, 25, .inr (.inl g0_1)))]) (fun (r9 : Int32) (u9 : Unit) => (iR r9 (-1) 24)) := by
  refine fun sz => k_enter (cc := cX2_ownIndex) (maxL := 4) (ret := some (.int)) (Qc := fun A => va_Qi (fun (r9 : Int32) (u9 : Unit) => (iR r9 (-1) 24)) (fun u => k_B (dC, dI) vwCl (tyy cI cJ cZ cM) A ((fun (u9 : Unit) => [(a0, .inr (2, [.ref a0_0, .ref a0_1, .ref b0_2, .int v0_3, .int v0_4, .int v0_5, .int v0_6, .int v0_7, .int 5, .int v0_9, .int v0_10])), (a0_1, .inl (cJ, 25, .inr (.inl g0_1)))]) u)) A) sz (by decide +kernel) rfl (Nat.le_of_ble_eq_true rfl) (fun p e s m args below meth c A ls H locs B hP hD hS hl => ?_)
  obtain ⟨hx, hb, hml, hown, hts, hr, hlk, hnm, hK, hA, hN, hC⟩ := id B
  have hown : s.vm.findClass RX2 = some m.cls := hown
  have hl : lv_has ls 4 [(0, .ref a0), (1, .long x1)] := hl
  have w_0 : (Cond.fieldLink RX2 9 "WishSea$Reader" "ownKeys" "[J").before args s = true := hts _ (List.mem_of_getElem? (i := 1) rfl)
  have hinX2 : ∀ w ∈ u_ws RX2 TX2 11, w ∈ wsX2_ownIndex := fun _ h => List.mem_cons_of_mem _ (List.mem_append_right _ h)
  refine lv_iconst (v := 0) hx hb dX2_ownIndex_0 (by decide +kernel) ?_
  have J_2 : ∀ (n_2 : Nat) (j2_L3 : Int32) (hj2_L3 : iR j2_L3 0 26) (hm_2 : (26 - j2_L3.toInt).toNat < n_2) (H : Heap) (locs : List Loc) (ls : Array Slot), va_P (dC, dI) vwCl [(a0, .inr (2, [.ref a0_0, .ref a0_1, .ref b0_2, .int v0_3, .int v0_4, .int v0_5, .int v0_6, .int v0_7, .int 5, .int v0_9, .int v0_10])), (a0_1, .inl (cJ, 25, .inr (.inl g0_1)))] H → va_D A [(a0, .inr (2, [.ref a0_0, .ref a0_1, .ref b0_2, .int v0_3, .int v0_4, .int v0_5, .int v0_6, .int v0_7, .int 5, .int v0_9, .int v0_10])), (a0_1, .inl (cJ, 25, .inr (.inl g0_1)))] → va_S A s.heap H locs → lv_has ls 4 [(0, .ref a0), (1, .long x1), (3, .int j2_L3)] → W p l e ({ frames := 1, cells := 0, slots := 0, locals := 40 }) s m args below meth c H locs 0 0 (MQ below (va_Qi (fun (r9 : Int32) (u9 : Unit) => (iR r9 (-1) 24)) (fun u => k_B (dC, dI) vwCl (tyy cI cJ cZ cM) A ((fun (u9 : Unit) => [(a0, .inr (2, [.ref a0_0, .ref a0_1, .ref b0_2, .int v0_3, .int v0_4, .int v0_5, .int v0_6, .int v0_7, .int 5, .int v0_9, .int v0_10])), (a0_1, .inl (cJ, 25, .inr (.inl g0_1)))]) u)) A) args s 0 0 A) (F0 m 2 ls []) := by
    intro n_2
    induction n_2 with
    | zero => intro j2_L3 hj2_L3 hm_2; exact absurd hm_2 (Nat.not_lt_zero _)
    | succ n_2 ih_2 =>
      intro j2_L3 hj2_L3 hm_2 H locs ls hP hD hS hl
      refine lv_iload_n hx hb dX2_ownIndex_2 rfl (lv_at hl 2 rfl) ?_
      refine lv_aload_n hx hb dX2_ownIndex_3 rfl (lv_at hl 0 rfl) ?_
      refine k_get (D := (dC, dI)) (ci := 2) (v := .ref a0_1) (C := RX2) (T := TX2) (N := 11) hx hb hts hinX2 hown hK hP 0 rfl rfl 1 (by decide) w_0 rfl rfl dX2_ownIndex_4 ?_
      refine va_alen (v := 25) hx hb hK hP 1 1 rfl rfl rfl dX2_ownIndex_7 ?_
      refine lv_icmp_ge (tgt := 30) hx hb dX2_ownIndex_8 (by decide) (fun c_8 => ?_) (fun c_8 => ?_)
      · have c_8 : 25 ≤ j2_L3 := c_8
        have f_30_1 : iR j2_L3 25 26 := iR_leR c_8 (iR_c (n := 25) (a := 25) (b := 25) (by decide +kernel) (by decide +kernel)) hj2_L3 (by decide +kernel)
        refine lv_iconst (v := (-1)) hx hb dX2_ownIndex_30 (by decide +kernel) ?_
        exact k_ri B hP hD hS dX2_ownIndex_31 () [0, 1] rfl rfl rfl (Nat.le_of_ble_eq_true rfl) (Nat.le_of_ble_eq_true rfl) (show iR (-1) (-1) 24 from (iR_c (n := (-1)) (a := (-1)) (b := 24) (by decide +kernel) (by decide +kernel)))
      · have c_8 : j2_L3 < 25 := i_nle c_8
        have f_11_1 : iR j2_L3 0 24 := iR_ltL c_8 hj2_L3 (iR_c (n := 25) (a := 25) (b := 25) (by decide +kernel) (by decide +kernel)) (by decide +kernel)
        refine lv_aload_n hx hb dX2_ownIndex_11 rfl (lv_at hl 0 rfl) ?_
        refine k_get (D := (dC, dI)) (ci := 2) (v := .ref a0_1) (C := RX2) (T := TX2) (N := 11) hx hb hts hinX2 hown hK hP 0 rfl rfl 1 (by decide) w_0 rfl rfl dX2_ownIndex_12 ?_
        refine lv_iload_n hx hb dX2_ownIndex_15 rfl (lv_at hl 2 rfl) ?_
        refine va_lald hx hb hK hP 1 1 rfl rfl (iR_vp f_11_1 (by decide +kernel)) dX2_ownIndex_16 ?_
        refine lv_lload_n hx hb dX2_ownIndex_17 rfl (lv_at hl 1 rfl) ?_
        refine W.lcmp hx hb dX2_ownIndex_18 ?_
        refine lv_topi (fun y_18 ey_18 => ?_)
        refine lv_if_ne (tgt := 24) hx hb dX2_ownIndex_19 (by decide) (fun c_19 => ?_) (fun c_19 => ?_)
        · have c_19 : ¬ y_18 = 0 := c_19
          have lc_19 : ¬ (g0_1 j2_L3.toNatClampNeg) = x1 := l_cmpne ey_18 c_19
          obtain ⟨y_24, ey_24⟩ : ∃ y : Int32, y = j2_L3 + 1 := ⟨_, rfl⟩
          refine lv_iinc (v := y_24) (lv' := [(3, .int y_24), (0, .ref a0), (1, .long x1)]) hx hb dX2_ownIndex_24 hl (k := 2) rfl ey_24.symm (by decide) rfl (fun ls hl => ?_)
          have f_24_2 : iR y_24 1 25 := iR_add ey_24 f_11_1 (iR_c (n := 1) (a := 1) (b := 1) (by decide +kernel) (by decide +kernel)) (by decide +kernel)
          refine lv_goto (tgt := 2) hx hb dX2_ownIndex_27 (by decide) ?_
          exact ih_2 y_24 (iR_w f_24_2 (by decide +kernel)) (m_up (B := 26) hm_2 ey_24 f_11_1 (by decide +kernel)) H locs ls hP hD hS (lv_sub hl [1, 2, 0] rfl)
        · have c_19 : y_18 = 0 := c_19
          have f_22_2 : iR y_18 0 0 := iR_eqL c_19 (iR_top _) (iR_c (n := 0) (a := 0) (b := 0) (by decide +kernel) (by decide +kernel)) (by decide +kernel)
          have lc_19 : (g0_1 j2_L3.toNatClampNeg) = x1 := l_cmpe ey_18 c_19
          refine lv_iload_n hx hb dX2_ownIndex_22 rfl (lv_at hl 2 rfl) ?_
          exact k_ri B hP hD hS dX2_ownIndex_23 () [0, 1] rfl rfl rfl (Nat.le_of_ble_eq_true rfl) (Nat.le_of_ble_eq_true rfl) (show iR j2_L3 (-1) 24 from (iR_w f_11_1 (by decide +kernel)))
  refine lv_istore_n (lv' := [(3, .int 0), (0, .ref a0), (1, .long x1)]) hx hb dX2_ownIndex_1 rfl hl (by decide) rfl (fun ls hl => ?_)
  exact J_2 _ 0 (iR_c (n := 0) (a := 0) (b := 26) (by decide +kernel) (by decide +kernel)) (Nat.lt_succ_self _) H locs ls hP hD hS (lv_sub hl [1, 2, 0] rfl)
set_option maxHeartbeats 8000000 in
set_option maxRecDepth 100000 in
theorem s_X2_blame_v17 (l : Launch) (dC : Nat → ClassId) (dI : Nat → Nat → Nat) (cI cJ cZ cM : ClassId) (a0 : Nat) (x1 : Int32) (x2 : Int32) (a0_0 : Nat) (a0_1 : Nat) (b0_2 : Nat) (v0_3 : Int32) (v0_4 : Int32) (v0_5 : Int32) (v0_6 : Int32) (v0_7 : Int32) (v0_9 : Int32) (v0_10 : Int32) (hx1 : iR x1 1 6) (hv0_3 : iR v0_3 0 1600) (hv0_4 : iR v0_4 0 1600) (hv0_5 : iR v0_5 0 1600) (hv0_6 : iR v0_6 0 324) (hv0_9 : iR v0_9 0 6) (hpg0 : (v0_9 = 0) ∨ ((v0_6 = 259))) : k_Mv l yX2_blame wsX2_blame ({ frames := 1, cells := 0, slots := 0, locals := 40 }) (dC, dI) vwCl (tyy cI cJ cZ cM) [(a0, .inr (2, [.ref a0_0, .ref a0_1, .ref b0_2, .int v0_3, .int v0_4, .int v0_5, .int v0_6, .int v0_7, .int 5, .int v0_9, .int v0_10]))] [.ref a0, .int x1, .int x2] 0 0 (fun (u9 : SU) => [(a0, .inr (2, [.ref a0_0, .ref a0_1, .ref b0_2, .int v0_3, .int v0_4, .int v0_5, .int (u9.1 0), .int v0_7, .int 5, .int (u9.1 1), .int (u9.1 2)]))]) (fun (u9 : SU) => (iR (u9.1 0) 259 259) ∧ (iR (u9.1 1) 1 6) ∧ ((0 : Int32) < v0_9 → (0 : Int32) < (u9.1 1)) ∧ (((u9.1 1) = 0) ∨ (((u9.1 0) = 259)))) := by
  refine fun sz => k_enter (cc := cX2_blame) (maxL := 3) (ret := none) (Qc := fun A => va_Qv (fun (u9 : SU) => (iR (u9.1 0) 259 259) ∧ (iR (u9.1 1) 1 6) ∧ ((0 : Int32) < v0_9 → (0 : Int32) < (u9.1 1)) ∧ (((u9.1 1) = 0) ∨ (((u9.1 0) = 259)))) (fun u => k_B (dC, dI) vwCl (tyy cI cJ cZ cM) A ((fun (u9 : SU) => [(a0, .inr (2, [.ref a0_0, .ref a0_1, .ref b0_2, .int v0_3, .int v0_4, .int v0_5, .int (u9.1 0), .int v0_7, .int 5, .int (u9.1 1), .int (u9.1 2)]))]) u)) A) sz (by decide +kernel) rfl (Nat.le_of_ble_eq_true rfl) (fun p e s m args below meth c A ls H locs B hP hD hS hl => ?_)
  obtain ⟨hx, hb, hml, hown, hts, hr, hlk, hnm, hK, hA, hN, hC⟩ := id B
  have hown : s.vm.findClass RX2 = some m.cls := hown
  have hl : lv_has ls 3 [(0, .ref a0), (1, .int x1), (2, .int x2)] := hl
  have w_0 : (Cond.fieldLink RX2 63 "WishSea$Reader" "fault" "I").before args s = true := hts _ (List.mem_of_getElem? (i := 1) rfl)
  have w_1 : (Cond.fieldLink RX2 19 "WishSea$Reader" "place" "I").before args s = true := hts _ (List.mem_of_getElem? (i := 2) rfl)
  have w_2 : (Cond.fieldLink RX2 15 "WishSea$Reader" "token" "I").before args s = true := hts _ (List.mem_of_getElem? (i := 3) rfl)
  have hinX2 : ∀ w ∈ u_ws RX2 TX2 11, w ∈ wsX2_blame := fun _ h => List.mem_cons_of_mem _ (List.mem_append_right _ h)
  refine lv_aload_n hx hb dX2_blame_0 rfl (lv_at hl 0 rfl) ?_
  refine k_get (D := (dC, dI)) (ci := 2) (v := .int v0_9) (C := RX2) (T := TX2) (N := 11) hx hb hts hinX2 hown hK hP 0 rfl rfl 9 (by decide) w_0 rfl rfl dX2_blame_1 ?_
  refine lv_if_ne (tgt := 24) hx hb dX2_blame_4 (by decide) (fun c_4 => ?_) (fun c_4 => ?_)
  · have c_4 : ¬ v0_9 = 0 := c_4
    have f_24_1 : iR v0_9 1 6 := iR_neL c_4 hv0_9 (iR_c (n := 0) (a := 0) (b := 0) (by decide +kernel) (by decide +kernel)) (by decide +kernel)
    obtain d_4_1_0 := hpg0.resolve_left c_4
    have f_24_2 : iR v0_6 259 259 := iR_eqL d_4_1_0 hv0_6 (iR_c (n := 259) (a := 259) (b := 259) (by decide +kernel) (by decide +kernel)) (by decide +kernel)
    exact k_rv B hP hD hS dX2_blame_24 ((fun k9 => match k9 with | 0 => v0_6 | 1 => v0_9 | 2 => v0_10 | _ => 0), (fun _ => 0), (fun _ => (fun _ => 0)), (fun _ => (fun _ => 0)), (fun _ => 0)) [0] rfl rfl (Nat.le_of_ble_eq_true rfl) (Nat.le_of_ble_eq_true rfl) ⟨(show iR v0_6 259 259 from f_24_2), (show iR v0_9 1 6 from f_24_1), (show (0 : Int32) < v0_9 → (0 : Int32) < v0_9 from (fun h => h)), (show (v0_9 = 0) ∨ ((v0_6 = 259)) from (Or.inr d_4_1_0))⟩
  · have c_4 : v0_9 = 0 := c_4
    have f_7_1 : iR v0_9 0 0 := iR_eqL c_4 hv0_9 (iR_c (n := 0) (a := 0) (b := 0) (by decide +kernel) (by decide +kernel)) (by decide +kernel)
    refine lv_aload_n hx hb dX2_blame_7 rfl (lv_at hl 0 rfl) ?_
    refine lv_iload_n hx hb dX2_blame_8 rfl (lv_at hl 1 rfl) ?_
    refine k_put (D := (dC, dI)) (ci := 2) (v := .int x1) (C := RX2) (T := TX2) (N := 11) (ws' := [(a0, .inr (2, [.ref a0_0, .ref a0_1, .ref b0_2, .int v0_3, .int v0_4, .int v0_5, .int v0_6, .int v0_7, .int 5, .int x1, .int v0_10]))]) hx hb hts hinX2 tyX2 tyX2_ok nmX2 hown hK hP hD hS 0 rfl rfl 9 (by decide) w_0 rfl rfl rfl rfl (Nat.le_of_ble_eq_true rfl) rfl dX2_blame_9 (fun H locs hP hD hS => ?_)
    refine lv_aload_n hx hb dX2_blame_12 rfl (lv_at hl 0 rfl) ?_
    refine lv_iload_n hx hb dX2_blame_13 rfl (lv_at hl 2 rfl) ?_
    refine k_put (D := (dC, dI)) (ci := 2) (v := .int x2) (C := RX2) (T := TX2) (N := 11) (ws' := [(a0, .inr (2, [.ref a0_0, .ref a0_1, .ref b0_2, .int v0_3, .int v0_4, .int v0_5, .int v0_6, .int v0_7, .int 5, .int x1, .int x2]))]) hx hb hts hinX2 tyX2 tyX2_ok nmX2 hown hK hP hD hS 0 rfl rfl 10 (by decide) w_1 rfl rfl rfl rfl (Nat.le_of_ble_eq_true rfl) rfl dX2_blame_14 (fun H locs hP hD hS => ?_)
    refine lv_aload_n hx hb dX2_blame_17 rfl (lv_at hl 0 rfl) ?_
    refine lv_sipush (v := 259) hx hb dX2_blame_18 (by decide +kernel) ?_
    refine k_put (D := (dC, dI)) (ci := 2) (v := .int 259) (C := RX2) (T := TX2) (N := 11) (ws' := [(a0, .inr (2, [.ref a0_0, .ref a0_1, .ref b0_2, .int v0_3, .int v0_4, .int v0_5, .int 259, .int v0_7, .int 5, .int x1, .int x2]))]) hx hb hts hinX2 tyX2 tyX2_ok nmX2 hown hK hP hD hS 0 rfl rfl 6 (by decide) w_2 rfl rfl rfl rfl (Nat.le_of_ble_eq_true rfl) rfl dX2_blame_21 (fun H locs hP hD hS => ?_)
    exact k_rv B hP hD hS dX2_blame_24 ((fun k9 => match k9 with | 0 => 259 | 1 => x1 | 2 => x2 | _ => 0), (fun _ => 0), (fun _ => (fun _ => 0)), (fun _ => (fun _ => 0)), (fun _ => 0)) [0] rfl rfl (Nat.le_of_ble_eq_true rfl) (Nat.le_of_ble_eq_true rfl) ⟨(show iR 259 259 259 from (iR_c (n := 259) (a := 259) (b := 259) (by decide +kernel) (by decide +kernel))), (show iR x1 1 6 from hx1), (show (0 : Int32) < v0_9 → (0 : Int32) < x1 from (fun _ => (i_ltf (iR_c (n := 0) (a := 0) (b := 0) (by decide +kernel) (by decide +kernel)) hx1 (by decide +kernel)))), (show (x1 = 0) ∨ ((259 = 259)) from (Or.inr rfl))⟩
set_option maxHeartbeats 8000000 in
set_option maxRecDepth 100000 in
theorem s_X2_readNumber_v11 (l : Launch) (dC : Nat → ClassId) (dI : Nat → Nat → Nat) (cI cJ cZ cM : ClassId) (a0 : Nat) (a0_0 : Nat) (f0_0 : Nat → Int32) (a0_1 : Nat) (b0_2 : Nat) (v0_3 : Int32) (v0_4 : Int32) (v0_5 : Int32) (v0_6 : Int32) (v0_7 : Int32) (v0_9 : Int32) (v0_10 : Int32) (hxv0_9 : iR v0_9 0 0) (hv0_3 : iR v0_3 0 1600) (hv0_4 : iR v0_4 0 1600) (hv0_5 : iR v0_5 0 1600) (hv0_6 : iR v0_6 0 324) (hv0_9 : iR v0_9 0 6) (hf0_0 : aR f0_0 0 255) (hpg0 : (v0_9 = 0) ∨ ((v0_6 = 259))) : k_Mv l yX2_readNumber wsX2_readNumber ({ frames := 2, cells := 0, slots := 0, locals := 62 }) (dC, dI) vwCl (tyy cI cJ cZ cM) [(a0, .inr (2, [.ref a0_0, .ref a0_1, .ref b0_2, .int v0_3, .int v0_4, .int v0_5, .int v0_6, .int v0_7, .int 5, .int v0_9, .int v0_10])), (a0_0, .inl (cI, 1600, .inl f0_0))] [.ref a0] 0 0 (fun (u9 : SU) => [(a0, .inr (2, [.ref a0_0, .ref a0_1, .ref b0_2, .int v0_3, .int (u9.1 0), .int v0_5, .int (u9.1 1), .int (u9.1 2), .int 5, .int (u9.1 3), .int (u9.1 4)])), (a0_0, .inl (cI, 1600, .inl f0_0))]) (fun (u9 : SU) => (iR (u9.1 0) 0 1600) ∧ (iR (u9.1 1) 257 259) ∧ (iR (u9.1 3) 0 6) ∧ ((0 : Int32) < v0_9 → (0 : Int32) < (u9.1 3)) ∧ (((u9.1 3) = 0) ∨ (((u9.1 1) = 259)))) := by
  refine fun sz => k_enter (cc := cX2_readNumber) (maxL := 2) (ret := none) (Qc := fun A => va_Qv (fun (u9 : SU) => (iR (u9.1 0) 0 1600) ∧ (iR (u9.1 1) 257 259) ∧ (iR (u9.1 3) 0 6) ∧ ((0 : Int32) < v0_9 → (0 : Int32) < (u9.1 3)) ∧ (((u9.1 3) = 0) ∨ (((u9.1 1) = 259)))) (fun u => k_B (dC, dI) vwCl (tyy cI cJ cZ cM) A ((fun (u9 : SU) => [(a0, .inr (2, [.ref a0_0, .ref a0_1, .ref b0_2, .int v0_3, .int (u9.1 0), .int v0_5, .int (u9.1 1), .int (u9.1 2), .int 5, .int (u9.1 3), .int (u9.1 4)])), (a0_0, .inl (cI, 1600, .inl f0_0))]) u)) A) sz (by decide +kernel) rfl (Nat.le_of_ble_eq_true rfl) (fun p e s m args below meth c A ls H locs B hP hD hS hl => ?_)
  obtain ⟨hx, hb, hml, hown, hts, hr, hlk, hnm, hK, hA, hN, hC⟩ := id B
  have hown : s.vm.findClass RX2 = some m.cls := hown
  have hl : lv_has ls 2 [(0, .ref a0)] := hl
  have w_0 : (Cond.fieldLink RX2 57 "WishSea$Reader" "position" "I").before args s = true := hts _ (List.mem_of_getElem? (i := 1) rfl)
  have w_1 : (Cond.fieldLink RX2 55 "WishSea$Reader" "length" "I").before args s = true := hts _ (List.mem_of_getElem? (i := 2) rfl)
  have w_2 : (Cond.fieldLink RX2 73 "WishSea$Reader" "start" "I").before args s = true := hts _ (List.mem_of_getElem? (i := 4) rfl)
  have w_3 : (Cond.fieldLink RX2 15 "WishSea$Reader" "token" "I").before args s = true := hts _ (List.mem_of_getElem? (i := 5) rfl)
  have w_4 : (Cond.fieldLink RX2 172 "WishSea$Reader" "value" "I").before args s = true := hts _ (List.mem_of_getElem? (i := 6) rfl)
  have w_5 : (Cond.fieldLink RX2 22 "WishSea$Reader" "text" "[I").before args s = true := hts _ (List.mem_of_getElem? (i := 3) rfl)
  have hinX2 : ∀ w ∈ u_ws RX2 TX2 11, w ∈ wsX2_readNumber := fun _ h => List.mem_cons_of_mem _ (List.mem_append_right _ h)
  refine lv_iconst (v := 0) hx hb dX2_readNumber_0 (by decide +kernel) ?_
  have J_2 : ∀ (n_2 : Nat) (j2_F0_4 : Int32) (j2_L1 : Int32) (hj2_F0_4 : iR j2_F0_4 0 1600) (hm_2 : (1600 - j2_F0_4.toInt).toNat < n_2) (H : Heap) (locs : List Loc) (ls : Array Slot), va_P (dC, dI) vwCl [(a0, .inr (2, [.ref a0_0, .ref a0_1, .ref b0_2, .int v0_3, .int j2_F0_4, .int v0_5, .int v0_6, .int v0_7, .int 5, .int v0_9, .int v0_10])), (a0_0, .inl (cI, 1600, .inl f0_0))] H → va_D A [(a0, .inr (2, [.ref a0_0, .ref a0_1, .ref b0_2, .int v0_3, .int j2_F0_4, .int v0_5, .int v0_6, .int v0_7, .int 5, .int v0_9, .int v0_10])), (a0_0, .inl (cI, 1600, .inl f0_0))] → va_S A s.heap H locs → lv_has ls 2 [(0, .ref a0), (1, .int j2_L1)] → W p l e ({ frames := 2, cells := 0, slots := 0, locals := 62 }) s m args below meth c H locs 0 0 (MQ below (va_Qv (fun (u9 : SU) => (iR (u9.1 0) 0 1600) ∧ (iR (u9.1 1) 257 259) ∧ (iR (u9.1 3) 0 6) ∧ ((0 : Int32) < v0_9 → (0 : Int32) < (u9.1 3)) ∧ (((u9.1 3) = 0) ∨ (((u9.1 1) = 259)))) (fun u => k_B (dC, dI) vwCl (tyy cI cJ cZ cM) A ((fun (u9 : SU) => [(a0, .inr (2, [.ref a0_0, .ref a0_1, .ref b0_2, .int v0_3, .int (u9.1 0), .int v0_5, .int (u9.1 1), .int (u9.1 2), .int 5, .int (u9.1 3), .int (u9.1 4)])), (a0_0, .inl (cI, 1600, .inl f0_0))]) u)) A) args s 0 0 A) (F0 m 2 ls []) := by
    intro n_2
    induction n_2 with
    | zero => intro j2_F0_4 j2_L1 hj2_F0_4 hm_2; exact absurd hm_2 (Nat.not_lt_zero _)
    | succ n_2 ih_2 =>
      intro j2_F0_4 j2_L1 hj2_F0_4 hm_2 H locs ls hP hD hS hl
      refine lv_aload_n hx hb dX2_readNumber_2 rfl (lv_at hl 0 rfl) ?_
      refine k_get (D := (dC, dI)) (ci := 2) (v := .int j2_F0_4) (C := RX2) (T := TX2) (N := 11) hx hb hts hinX2 hown hK hP 0 rfl rfl 4 (by decide) w_0 rfl rfl dX2_readNumber_3 ?_
      refine lv_aload_n hx hb dX2_readNumber_6 rfl (lv_at hl 0 rfl) ?_
      refine k_get (D := (dC, dI)) (ci := 2) (v := .int v0_3) (C := RX2) (T := TX2) (N := 11) hx hb hts hinX2 hown hK hP 0 rfl rfl 3 (by decide) w_1 rfl rfl dX2_readNumber_7 ?_
      have J_72 : ∀   (H : Heap) (locs : List Loc) (ls : Array Slot), va_P (dC, dI) vwCl [(a0, .inr (2, [.ref a0_0, .ref a0_1, .ref b0_2, .int v0_3, .int j2_F0_4, .int v0_5, .int v0_6, .int v0_7, .int 5, .int v0_9, .int v0_10])), (a0_0, .inl (cI, 1600, .inl f0_0))] H → va_D A [(a0, .inr (2, [.ref a0_0, .ref a0_1, .ref b0_2, .int v0_3, .int j2_F0_4, .int v0_5, .int v0_6, .int v0_7, .int 5, .int v0_9, .int v0_10])), (a0_0, .inl (cI, 1600, .inl f0_0))] → va_S A s.heap H locs → lv_has ls 2 [(0, .ref a0), (1, .int j2_L1)] → W p l e ({ frames := 2, cells := 0, slots := 0, locals := 62 }) s m args below meth c H locs 0 0 (MQ below (va_Qv (fun (u9 : SU) => (iR (u9.1 0) 0 1600) ∧ (iR (u9.1 1) 257 259) ∧ (iR (u9.1 3) 0 6) ∧ ((0 : Int32) < v0_9 → (0 : Int32) < (u9.1 3)) ∧ (((u9.1 3) = 0) ∨ (((u9.1 1) = 259)))) (fun u => k_B (dC, dI) vwCl (tyy cI cJ cZ cM) A ((fun (u9 : SU) => [(a0, .inr (2, [.ref a0_0, .ref a0_1, .ref b0_2, .int v0_3, .int (u9.1 0), .int v0_5, .int (u9.1 1), .int (u9.1 2), .int 5, .int (u9.1 3), .int (u9.1 4)])), (a0_0, .inl (cI, 1600, .inl f0_0))]) u)) A) args s 0 0 A) (F0 m 72 ls []) := by
        intro   H locs ls hP hD hS hl
        refine lv_aload_n hx hb dX2_readNumber_72 rfl (lv_at hl 0 rfl) ?_
        refine k_get (D := (dC, dI)) (ci := 2) (v := .int j2_F0_4) (C := RX2) (T := TX2) (N := 11) hx hb hts hinX2 hown hK hP 0 rfl rfl 4 (by decide) w_0 rfl rfl dX2_readNumber_73 ?_
        refine lv_aload_n hx hb dX2_readNumber_76 rfl (lv_at hl 0 rfl) ?_
        refine k_get (D := (dC, dI)) (ci := 2) (v := .int v0_5) (C := RX2) (T := TX2) (N := 11) hx hb hts hinX2 hown hK hP 0 rfl rfl 5 (by decide) w_2 rfl rfl dX2_readNumber_77 ?_
        refine lv_isub hx hb dX2_readNumber_80 ?_
        refine lv_topi (fun y_80 ey_80 => ?_)
        have f_80_1 : iR y_80 (-1600) 1600 := iR_sub ey_80 hj2_F0_4 hv0_5 (by decide +kernel)
        refine lv_iconst (v := 4) hx hb dX2_readNumber_81 (by decide +kernel) ?_
        refine lv_icmp_le (tgt := 99) hx hb dX2_readNumber_82 (by decide) (fun c_82 => ?_) (fun c_82 => ?_)
        · have c_82 : y_80 ≤ 4 := c_82
          have f_99_2 : iR y_80 (-1600) 4 := iR_leL c_82 f_80_1 (iR_c (n := 4) (a := 4) (b := 4) (by decide +kernel) (by decide +kernel)) (by decide +kernel)
          refine lv_aload_n hx hb dX2_readNumber_99 rfl (lv_at hl 0 rfl) ?_
          refine lv_sipush (v := 257) hx hb dX2_readNumber_100 (by decide +kernel) ?_
          refine k_put (D := (dC, dI)) (ci := 2) (v := .int 257) (C := RX2) (T := TX2) (N := 11) (ws' := [(a0, .inr (2, [.ref a0_0, .ref a0_1, .ref b0_2, .int v0_3, .int j2_F0_4, .int v0_5, .int 257, .int v0_7, .int 5, .int v0_9, .int v0_10])), (a0_0, .inl (cI, 1600, .inl f0_0))]) hx hb hts hinX2 tyX2 tyX2_ok nmX2 hown hK hP hD hS 0 rfl rfl 6 (by decide) w_3 rfl rfl rfl rfl (Nat.le_of_ble_eq_true rfl) rfl dX2_readNumber_103 (fun H locs hP hD hS => ?_)
          refine lv_aload_n hx hb dX2_readNumber_106 rfl (lv_at hl 0 rfl) ?_
          refine lv_iload_n hx hb dX2_readNumber_107 rfl (lv_at hl 1 rfl) ?_
          refine k_put (D := (dC, dI)) (ci := 2) (v := .int j2_L1) (C := RX2) (T := TX2) (N := 11) (ws' := [(a0, .inr (2, [.ref a0_0, .ref a0_1, .ref b0_2, .int v0_3, .int j2_F0_4, .int v0_5, .int 257, .int j2_L1, .int 5, .int v0_9, .int v0_10])), (a0_0, .inl (cI, 1600, .inl f0_0))]) hx hb hts hinX2 tyX2 tyX2_ok nmX2 hown hK hP hD hS 0 rfl rfl 7 (by decide) w_4 rfl rfl rfl rfl (Nat.le_of_ble_eq_true rfl) rfl dX2_readNumber_108 (fun H locs hP hD hS => ?_)
          exact k_rv B hP hD hS dX2_readNumber_111 ((fun k9 => match k9 with | 0 => j2_F0_4 | 1 => 257 | 2 => j2_L1 | 3 => v0_9 | 4 => v0_10 | _ => 0), (fun _ => 0), (fun _ => (fun _ => 0)), (fun _ => (fun _ => 0)), (fun _ => 0)) [0, 1] rfl rfl (Nat.le_of_ble_eq_true rfl) (Nat.le_of_ble_eq_true rfl) ⟨(show iR j2_F0_4 0 1600 from hj2_F0_4), (show iR 257 257 259 from (iR_c (n := 257) (a := 257) (b := 259) (by decide +kernel) (by decide +kernel))), (show iR v0_9 0 6 from (iR_w hxv0_9 (by decide +kernel))), (show (0 : Int32) < v0_9 → (0 : Int32) < v0_9 from (fun h => h)), (show (v0_9 = 0) ∨ ((257 = 259)) from (Or.inl (i_eqc hxv0_9 (iR_c (n := 0) (a := 0) (b := 0) (by decide +kernel) (by decide +kernel)))))⟩
        · have c_82 : 4 < y_80 := i_nle c_82
          have f_85_2 : iR y_80 5 1600 := iR_ltR c_82 (iR_c (n := 4) (a := 4) (b := 4) (by decide +kernel) (by decide +kernel)) f_80_1 (by decide +kernel)
          refine lv_aload_n hx hb dX2_readNumber_85 rfl (lv_at hl 0 rfl) ?_
          refine lv_iconst (v := 1) hx hb dX2_readNumber_86 (by decide +kernel) ?_
          refine lv_aload_n hx hb dX2_readNumber_87 rfl (lv_at hl 0 rfl) ?_
          refine k_get (D := (dC, dI)) (ci := 2) (v := .int v0_5) (C := RX2) (T := TX2) (N := 11) hx hb hts hinX2 hown hK hP 0 rfl rfl 5 (by decide) w_2 rfl rfl dX2_readNumber_88 ?_
          refine lv_iconst (v := 4) hx hb dX2_readNumber_91 (by decide +kernel) ?_
          refine lv_iadd hx hb dX2_readNumber_92 ?_
          refine lv_topi (fun y_92 ey_92 => ?_)
          have f_92_3 : iR y_92 4 1604 := iR_add ey_92 hv0_5 (iR_c (n := 4) (a := 4) (b := 4) (by decide +kernel) (by decide +kernel)) (by decide +kernel)
          refine k_cv (wc := [(a0, .inr (2, [.ref a0_0, .ref a0_1, .ref b0_2, .int v0_3, .int j2_F0_4, .int v0_5, .int v0_6, .int v0_7, .int 5, .int v0_9, .int v0_10]))]) (wr := [(a0_0, .inl (cI, 1600, .inl f0_0))]) (fun hPc hDc hFc => va_runV (As := [.int 1, .int y_92]) (rest := []) ⟨hx, hb, hml, hown, hts⟩ (s_X2_blame_v16 l dC dI cI cJ cZ cM a0 1 y_92 a0_0 a0_1 b0_2 v0_3 j2_F0_4 v0_5 v0_6 v0_7 v0_9 v0_10 (iR_c (n := 1) (a := 1) (b := 6) (by decide +kernel) (by decide +kernel)) hv0_3 hj2_F0_4 hv0_5 hv0_6 (iR_w hxv0_9 (by decide +kernel)) hpg0 H.size) (cwV 2 hts gX2_readNumber_X2_blame rfl rfl rfl (by decide +kernel) ⟨(Nat.le_of_ble_eq_true rfl), (Nat.le_of_ble_eq_true rfl)⟩) (k_pV hPc hDc hK hN hC hS hFc hP (q0 := 0) (ci := 2) rfl rfl) rfl rfl hl.1 rfl (lv_room (Nat.le_of_ble_eq_true rfl)) dX2_readNumber_93 ⟨(Nat.le_of_ble_eq_true rfl), (Nat.le_of_ble_eq_true rfl)⟩) hP hD hS hA [0] [1] rfl rfl rfl rfl (by decide) (fun _ => rfl) 0 0 rfl rfl (fun u_93 H locs hw hP hD hS => ?_)
          obtain ⟨g_93_0, g_93_1, g_93_2, g_93_3⟩ := hw
          have hP : va_P (dC, dI) vwCl [(a0_0, .inl (cI, 1600, .inl f0_0)), (a0, .inr (2, [.ref a0_0, .ref a0_1, .ref b0_2, .int v0_3, .int j2_F0_4, .int v0_5, .int (u_93.1 0), .int v0_7, .int 5, .int (u_93.1 1), .int (u_93.1 2)]))] H := hP
          have hD : va_D A [(a0_0, .inl (cI, 1600, .inl f0_0)), (a0, .inr (2, [.ref a0_0, .ref a0_1, .ref b0_2, .int v0_3, .int j2_F0_4, .int v0_5, .int (u_93.1 0), .int v0_7, .int 5, .int (u_93.1 1), .int (u_93.1 2)]))] := hD
          have g_93_2 : (0 : Int32) < v0_9 → (0 : Int32) < (u_93.1 1) := g_93_2
          have g_93_3 : ((u_93.1 1) = 0) ∨ (((u_93.1 0) = 259)) := g_93_3
          obtain d93_1_0 := g_93_3.resolve_left (i_nef g_93_1 (iR_c (n := 0) (a := 0) (b := 0) (by decide +kernel) (by decide +kernel)) (by decide +kernel))
          refine lv_goto (tgt := 111) hx hb dX2_readNumber_96 (by decide) ?_
          exact k_rv B hP hD hS dX2_readNumber_111 ((fun k9 => match k9 with | 0 => j2_F0_4 | 1 => (u_93.1 0) | 2 => v0_7 | 3 => (u_93.1 1) | 4 => (u_93.1 2) | _ => 0), (fun _ => 0), (fun _ => (fun _ => 0)), (fun _ => (fun _ => 0)), (fun _ => 0)) [1, 0] rfl rfl (Nat.le_of_ble_eq_true rfl) (Nat.le_of_ble_eq_true rfl) ⟨(show iR j2_F0_4 0 1600 from hj2_F0_4), (show iR (u_93.1 0) 257 259 from (iR_w g_93_0 (by decide +kernel))), (show iR (u_93.1 1) 0 6 from (iR_w g_93_1 (by decide +kernel))), (show (0 : Int32) < v0_9 → (0 : Int32) < (u_93.1 1) from (fun h => g_93_2 ((fun h => h) h))), (show ((u_93.1 1) = 0) ∨ (((u_93.1 0) = 259)) from (Or.inr d93_1_0))⟩
      refine lv_icmp_ge (tgt := 72) hx hb dX2_readNumber_10 (by decide) (fun c_10 => ?_) (fun c_10 => ?_)
      · have c_10 : v0_3 ≤ j2_F0_4 := c_10
        exact J_72   H locs ls hP hD hS (lv_sub hl [0, 1] rfl)
      · have c_10 : j2_F0_4 < v0_3 := i_nle c_10
        have f_13_1 : iR j2_F0_4 0 1599 := iR_ltL c_10 hj2_F0_4 hv0_3 (by decide +kernel)
        have f_13_2 : iR v0_3 1 1600 := iR_ltR c_10 hj2_F0_4 hv0_3 (by decide +kernel)
        refine lv_aload_n hx hb dX2_readNumber_13 rfl (lv_at hl 0 rfl) ?_
        refine k_get (D := (dC, dI)) (ci := 2) (v := .ref a0_0) (C := RX2) (T := TX2) (N := 11) hx hb hts hinX2 hown hK hP 0 rfl rfl 0 (by decide) w_5 rfl rfl dX2_readNumber_14 ?_
        refine lv_aload_n hx hb dX2_readNumber_17 rfl (lv_at hl 0 rfl) ?_
        refine k_get (D := (dC, dI)) (ci := 2) (v := .int j2_F0_4) (C := RX2) (T := TX2) (N := 11) hx hb hts hinX2 hown hK hP 0 rfl rfl 4 (by decide) w_0 rfl rfl dX2_readNumber_18 ?_
        refine va_iald hx hb hK hP 1 0 rfl rfl (iR_vp f_13_1 (by decide +kernel)) dX2_readNumber_21 ?_
        have f_21_3 : iR (f0_0 j2_F0_4.toNatClampNeg) 0 255 := hf0_0 _
        refine k_ci (wc := []) (wr := [(a0, .inr (2, [.ref a0_0, .ref a0_1, .ref b0_2, .int v0_3, .int j2_F0_4, .int v0_5, .int v0_6, .int v0_7, .int 5, .int v0_9, .int v0_10])), (a0_0, .inl (cI, 1600, .inl f0_0))]) (fun hPc hDc hFc => va_runS (As := [.int (f0_0 j2_F0_4.toNatClampNeg)]) (rest := []) ⟨hx, hb, hml, hown, hts⟩ (s_X2_isDigit_v0 l dC dI cI cJ cZ cM (f0_0 j2_F0_4.toNatClampNeg) H.size) (va_cwS 1 hts gX2_readNumber_X2_isDigit rfl rfl rfl (by decide +kernel) ⟨(Nat.le_of_ble_eq_true rfl), (Nat.le_of_ble_eq_true rfl)⟩) (k_pS hPc hDc hK hN hC hS hFc) rfl rfl hl.1 rfl (lv_room (Nat.le_of_ble_eq_true rfl)) dX2_readNumber_22 ⟨(Nat.le_of_ble_eq_true rfl), (Nat.le_of_ble_eq_true rfl)⟩) hP hD hS hA [] [0, 1] rfl rfl rfl rfl (by decide) (fun _ => rfl) 0 0 rfl rfl (fun r_22 u_22 H locs hw hP hD hS => ?_)
        have g_22_0 := hw
        have hP : va_P (dC, dI) vwCl [(a0, .inr (2, [.ref a0_0, .ref a0_1, .ref b0_2, .int v0_3, .int j2_F0_4, .int v0_5, .int v0_6, .int v0_7, .int 5, .int v0_9, .int v0_10])), (a0_0, .inl (cI, 1600, .inl f0_0))] H := hP
        have hD : va_D A [(a0, .inr (2, [.ref a0_0, .ref a0_1, .ref b0_2, .int v0_3, .int j2_F0_4, .int v0_5, .int v0_6, .int v0_7, .int 5, .int v0_9, .int v0_10])), (a0_0, .inl (cI, 1600, .inl f0_0))] := hD
        refine lv_if_eq (tgt := 72) hx hb dX2_readNumber_25 (by decide) (fun c_25 => ?_) (fun c_25 => ?_)
        · have c_25 : r_22 = 0 := c_25
          have f_72_4 : iR r_22 0 0 := iR_eqL c_25 g_22_0 (iR_c (n := 0) (a := 0) (b := 0) (by decide +kernel) (by decide +kernel)) (by decide +kernel)
          exact J_72   H locs ls hP hD hS (lv_sub hl [0, 1] rfl)
        · have c_25 : ¬ r_22 = 0 := c_25
          have f_28_4 : iR r_22 1 1 := iR_neL c_25 g_22_0 (iR_c (n := 0) (a := 0) (b := 0) (by decide +kernel) (by decide +kernel)) (by decide +kernel)
          refine lv_aload_n hx hb dX2_readNumber_28 rfl (lv_at hl 0 rfl) ?_
          refine k_get (D := (dC, dI)) (ci := 2) (v := .int j2_F0_4) (C := RX2) (T := TX2) (N := 11) hx hb hts hinX2 hown hK hP 0 rfl rfl 4 (by decide) w_0 rfl rfl dX2_readNumber_29 ?_
          refine lv_aload_n hx hb dX2_readNumber_32 rfl (lv_at hl 0 rfl) ?_
          refine k_get (D := (dC, dI)) (ci := 2) (v := .int v0_5) (C := RX2) (T := TX2) (N := 11) hx hb hts hinX2 hown hK hP 0 rfl rfl 5 (by decide) w_2 rfl rfl dX2_readNumber_33 ?_
          refine lv_isub hx hb dX2_readNumber_36 ?_
          refine lv_topi (fun y_36 ey_36 => ?_)
          have f_36_5 : iR y_36 (-1600) 1599 := iR_sub ey_36 f_13_1 hv0_5 (by decide +kernel)
          refine lv_iconst (v := 4) hx hb dX2_readNumber_37 (by decide +kernel) ?_
          have J_59 : ∀ (j59_L1 : Int32)  (H : Heap) (locs : List Loc) (ls : Array Slot), va_P (dC, dI) vwCl [(a0, .inr (2, [.ref a0_0, .ref a0_1, .ref b0_2, .int v0_3, .int j2_F0_4, .int v0_5, .int v0_6, .int v0_7, .int 5, .int v0_9, .int v0_10])), (a0_0, .inl (cI, 1600, .inl f0_0))] H → va_D A [(a0, .inr (2, [.ref a0_0, .ref a0_1, .ref b0_2, .int v0_3, .int j2_F0_4, .int v0_5, .int v0_6, .int v0_7, .int 5, .int v0_9, .int v0_10])), (a0_0, .inl (cI, 1600, .inl f0_0))] → va_S A s.heap H locs → lv_has ls 2 [(0, .ref a0), (1, .int j59_L1)] → W p l e ({ frames := 2, cells := 0, slots := 0, locals := 62 }) s m args below meth c H locs 0 0 (MQ below (va_Qv (fun (u9 : SU) => (iR (u9.1 0) 0 1600) ∧ (iR (u9.1 1) 257 259) ∧ (iR (u9.1 3) 0 6) ∧ ((0 : Int32) < v0_9 → (0 : Int32) < (u9.1 3)) ∧ (((u9.1 3) = 0) ∨ (((u9.1 1) = 259)))) (fun u => k_B (dC, dI) vwCl (tyy cI cJ cZ cM) A ((fun (u9 : SU) => [(a0, .inr (2, [.ref a0_0, .ref a0_1, .ref b0_2, .int v0_3, .int (u9.1 0), .int v0_5, .int (u9.1 1), .int (u9.1 2), .int 5, .int (u9.1 3), .int (u9.1 4)])), (a0_0, .inl (cI, 1600, .inl f0_0))]) u)) A) args s 0 0 A) (F0 m 59 ls []) := by
            intro j59_L1  H locs ls hP hD hS hl
            refine lv_aload_n hx hb dX2_readNumber_59 rfl (lv_at hl 0 rfl) ?_
            refine lv_dup hx hb dX2_readNumber_60 rfl ?_
            refine k_get (D := (dC, dI)) (ci := 2) (v := .int j2_F0_4) (C := RX2) (T := TX2) (N := 11) hx hb hts hinX2 hown hK hP 0 rfl rfl 4 (by decide) w_0 rfl rfl dX2_readNumber_61 ?_
            refine lv_iconst (v := 1) hx hb dX2_readNumber_64 (by decide +kernel) ?_
            refine lv_iadd hx hb dX2_readNumber_65 ?_
            refine lv_topi (fun y_65 ey_65 => ?_)
            have f_65_1 : iR y_65 1 1600 := iR_add ey_65 f_13_1 (iR_c (n := 1) (a := 1) (b := 1) (by decide +kernel) (by decide +kernel)) (by decide +kernel)
            refine k_put (D := (dC, dI)) (ci := 2) (v := .int y_65) (C := RX2) (T := TX2) (N := 11) (ws' := [(a0, .inr (2, [.ref a0_0, .ref a0_1, .ref b0_2, .int v0_3, .int y_65, .int v0_5, .int v0_6, .int v0_7, .int 5, .int v0_9, .int v0_10])), (a0_0, .inl (cI, 1600, .inl f0_0))]) hx hb hts hinX2 tyX2 tyX2_ok nmX2 hown hK hP hD hS 0 rfl rfl 4 (by decide) w_0 rfl rfl rfl rfl (Nat.le_of_ble_eq_true rfl) rfl dX2_readNumber_66 (fun H locs hP hD hS => ?_)
            refine lv_goto (tgt := 2) hx hb dX2_readNumber_69 (by decide) ?_
            exact ih_2 y_65 j59_L1 (iR_w f_65_1 (by decide +kernel)) (m_up (B := 1600) hm_2 ey_65 f_13_1 (by decide +kernel)) H locs ls hP hD hS (lv_sub hl [0, 1] rfl)
          refine lv_icmp_ge (tgt := 59) hx hb dX2_readNumber_38 (by decide) (fun c_38 => ?_) (fun c_38 => ?_)
          · have c_38 : 4 ≤ y_36 := c_38
            have f_59_6 : iR y_36 4 1599 := iR_leR c_38 (iR_c (n := 4) (a := 4) (b := 4) (by decide +kernel) (by decide +kernel)) f_36_5 (by decide +kernel)
            exact J_59 j2_L1  H locs ls hP hD hS (lv_sub hl [0, 1] rfl)
          · have c_38 : y_36 < 4 := i_nle c_38
            have f_41_6 : iR y_36 (-1600) 3 := iR_ltL c_38 f_36_5 (iR_c (n := 4) (a := 4) (b := 4) (by decide +kernel) (by decide +kernel)) (by decide +kernel)
            refine lv_iload_n hx hb dX2_readNumber_41 rfl (lv_at hl 1 rfl) ?_
            refine lv_bipush (v := 10) hx hb dX2_readNumber_42 (by decide +kernel) ?_
            refine lv_imul hx hb dX2_readNumber_44 ?_
            refine lv_topi (fun y_44 ey_44 => ?_)
            refine lv_aload_n hx hb dX2_readNumber_45 rfl (lv_at hl 0 rfl) ?_
            refine k_get (D := (dC, dI)) (ci := 2) (v := .ref a0_0) (C := RX2) (T := TX2) (N := 11) hx hb hts hinX2 hown hK hP 0 rfl rfl 0 (by decide) w_5 rfl rfl dX2_readNumber_46 ?_
            refine lv_aload_n hx hb dX2_readNumber_49 rfl (lv_at hl 0 rfl) ?_
            refine k_get (D := (dC, dI)) (ci := 2) (v := .int j2_F0_4) (C := RX2) (T := TX2) (N := 11) hx hb hts hinX2 hown hK hP 0 rfl rfl 4 (by decide) w_0 rfl rfl dX2_readNumber_50 ?_
            refine va_iald hx hb hK hP 1 0 rfl rfl (iR_vp f_13_1 (by decide +kernel)) dX2_readNumber_53 ?_
            refine lv_iadd hx hb dX2_readNumber_54 ?_
            refine lv_topi (fun y_54 ey_54 => ?_)
            refine lv_bipush (v := 48) hx hb dX2_readNumber_55 (by decide +kernel) ?_
            refine lv_isub hx hb dX2_readNumber_57 ?_
            refine lv_topi (fun y_57 ey_57 => ?_)
            refine lv_istore_n (lv' := [(1, .int y_57), (0, .ref a0)]) hx hb dX2_readNumber_58 rfl hl (by decide) rfl (fun ls hl => ?_)
            exact J_59 y_57  H locs ls hP hD hS (lv_sub hl [1, 0] rfl)
  refine lv_istore_n (lv' := [(1, .int 0), (0, .ref a0)]) hx hb dX2_readNumber_1 rfl hl (by decide) rfl (fun ls hl => ?_)
  exact J_2 _ v0_4 0 hv0_4 (Nat.lt_succ_self _) H locs ls hP hD hS (lv_sub hl [1, 0] rfl)
set_option maxHeartbeats 8000000 in
set_option maxRecDepth 100000 in
theorem s_X2_readWord_v11 (l : Launch) (dC : Nat → ClassId) (dI : Nat → Nat → Nat) (cI cJ cZ cM : ClassId) (a0 : Nat) (a0_0 : Nat) (f0_0 : Nat → Int32) (a0_1 : Nat) (g0_1 : Nat → Int64) (b0_2 : Nat) (v0_3 : Int32) (v0_4 : Int32) (v0_5 : Int32) (v0_6 : Int32) (v0_7 : Int32) (v0_9 : Int32) (v0_10 : Int32) (hxv0_9 : iR v0_9 0 0) (hv0_3 : iR v0_3 0 1600) (hv0_4 : iR v0_4 0 1600) (hv0_5 : iR v0_5 0 1600) (hv0_6 : iR v0_6 0 324) (hv0_9 : iR v0_9 0 6) (hf0_0 : aR f0_0 0 255) (hpg0 : (v0_9 = 0) ∨ ((v0_6 = 259))) : k_Mv l yX2_readWord wsX2_readWord ({ frames := 2, cells := 0, slots := 0, locals := 63 }) (dC, dI) vwCl (tyy cI cJ cZ cM) [(a0, .inr (2, [.ref a0_0, .ref a0_1, .ref b0_2, .int v0_3, .int v0_4, .int v0_5, .int v0_6, .int v0_7, .int 5, .int v0_9, .int v0_10])), (a0_0, .inl (cI, 1600, .inl f0_0)), (a0_1, .inl (cJ, 25, .inr (.inl g0_1)))] [.ref a0] 0 0 (fun (u9 : SU) => [(a0, .inr (2, [.ref a0_0, .ref a0_1, .ref b0_2, .int v0_3, .int (u9.1 0), .int v0_5, .int (u9.1 1), .int (u9.1 2), .int 5, .int (u9.1 3), .int (u9.1 4)])), (a0_0, .inl (cI, 1600, .inl f0_0)), (a0_1, .inl (cJ, 25, .inr (.inl g0_1)))]) (fun (u9 : SU) => (iR (u9.1 0) 0 1600) ∧ (iR (u9.1 1) 258 324) ∧ (iR (u9.1 3) 0 6) ∧ ((0 : Int32) < v0_9 → (0 : Int32) < (u9.1 3)) ∧ (((u9.1 3) = 0) ∨ (((u9.1 1) = 259)))) := by
  refine fun sz => k_enter (cc := cX2_readWord) (maxL := 7) (ret := none) (Qc := fun A => va_Qv (fun (u9 : SU) => (iR (u9.1 0) 0 1600) ∧ (iR (u9.1 1) 258 324) ∧ (iR (u9.1 3) 0 6) ∧ ((0 : Int32) < v0_9 → (0 : Int32) < (u9.1 3)) ∧ (((u9.1 3) = 0) ∨ (((u9.1 1) = 259)))) (fun u => k_B (dC, dI) vwCl (tyy cI cJ cZ cM) A ((fun (u9 : SU) => [(a0, .inr (2, [.ref a0_0, .ref a0_1, .ref b0_2, .int v0_3, .int (u9.1 0), .int v0_5, .int (u9.1 1), .int (u9.1 2), .int 5, .int (u9.1 3), .int (u9.1 4)])), (a0_0, .inl (cI, 1600, .inl f0_0)), (a0_1, .inl (cJ, 25, .inr (.inl g0_1)))]) u)) A) sz (by decide +kernel) rfl (Nat.le_of_ble_eq_true rfl) (fun p e s m args below meth c A ls H locs B hP hD hS hl => ?_)
  obtain ⟨hx, hb, hml, hown, hts, hr, hlk, hnm, hK, hA, hN, hC⟩ := id B
  have hown : s.vm.findClass RX2 = some m.cls := hown
  have hl : lv_has ls 7 [(0, .ref a0)] := hl
  have w_0 : (Cond.fieldLink RX2 57 "WishSea$Reader" "position" "I").before args s = true := hts _ (List.mem_of_getElem? (i := 1) rfl)
  have w_1 : (Cond.fieldLink RX2 55 "WishSea$Reader" "length" "I").before args s = true := hts _ (List.mem_of_getElem? (i := 2) rfl)
  have w_2 : (Cond.fieldLink RX2 73 "WishSea$Reader" "start" "I").before args s = true := hts _ (List.mem_of_getElem? (i := 4) rfl)
  have w_3 : (Cond.fieldLink RX2 15 "WishSea$Reader" "token" "I").before args s = true := hts _ (List.mem_of_getElem? (i := 6) rfl)
  have w_4 : (Cond.fieldLink RX2 172 "WishSea$Reader" "value" "I").before args s = true := hts _ (List.mem_of_getElem? (i := 7) rfl)
  have w_5 : (Cond.fieldLink RX2 22 "WishSea$Reader" "text" "[I").before args s = true := hts _ (List.mem_of_getElem? (i := 3) rfl)
  have w_6 : (Cond.constantLong RX2 42 (27)).before args s = true := hts _ (List.mem_of_getElem? (i := 5) rfl)
  have hinX2 : ∀ w ∈ u_ws RX2 TX2 11, w ∈ wsX2_readWord := fun _ h => List.mem_cons_of_mem _ (List.mem_append_right _ h)
  refine lv_lconst (v := 0) hx hb dX2_readWord_0 (by decide +kernel) ?_
  refine lv_lstore_n (lv' := [(1, .long 0), (0, .ref a0)]) hx hb dX2_readWord_1 rfl hl (by decide) rfl (fun ls hl => ?_)
  refine lv_lconst (v := 1) hx hb dX2_readWord_2 (by decide +kernel) ?_
  have J_4 : ∀ (n_4 : Nat) (j4_F0_4 : Int32) (j4_L1 : Int64) (j4_L3 : Int64) (hj4_F0_4 : iR j4_F0_4 0 1600) (hm_4 : (1600 - j4_F0_4.toInt).toNat < n_4) (H : Heap) (locs : List Loc) (ls : Array Slot), va_P (dC, dI) vwCl [(a0, .inr (2, [.ref a0_0, .ref a0_1, .ref b0_2, .int v0_3, .int j4_F0_4, .int v0_5, .int v0_6, .int v0_7, .int 5, .int v0_9, .int v0_10])), (a0_0, .inl (cI, 1600, .inl f0_0)), (a0_1, .inl (cJ, 25, .inr (.inl g0_1)))] H → va_D A [(a0, .inr (2, [.ref a0_0, .ref a0_1, .ref b0_2, .int v0_3, .int j4_F0_4, .int v0_5, .int v0_6, .int v0_7, .int 5, .int v0_9, .int v0_10])), (a0_0, .inl (cI, 1600, .inl f0_0)), (a0_1, .inl (cJ, 25, .inr (.inl g0_1)))] → va_S A s.heap H locs → lv_has ls 7 [(0, .ref a0), (1, .long j4_L1), (3, .long j4_L3)] → W p l e ({ frames := 2, cells := 0, slots := 0, locals := 63 }) s m args below meth c H locs 0 0 (MQ below (va_Qv (fun (u9 : SU) => (iR (u9.1 0) 0 1600) ∧ (iR (u9.1 1) 258 324) ∧ (iR (u9.1 3) 0 6) ∧ ((0 : Int32) < v0_9 → (0 : Int32) < (u9.1 3)) ∧ (((u9.1 3) = 0) ∨ (((u9.1 1) = 259)))) (fun u => k_B (dC, dI) vwCl (tyy cI cJ cZ cM) A ((fun (u9 : SU) => [(a0, .inr (2, [.ref a0_0, .ref a0_1, .ref b0_2, .int v0_3, .int (u9.1 0), .int v0_5, .int (u9.1 1), .int (u9.1 2), .int 5, .int (u9.1 3), .int (u9.1 4)])), (a0_0, .inl (cI, 1600, .inl f0_0)), (a0_1, .inl (cJ, 25, .inr (.inl g0_1)))]) u)) A) args s 0 0 A) (F0 m 4 ls []) := by
    intro n_4
    induction n_4 with
    | zero => intro j4_F0_4 j4_L1 j4_L3 hj4_F0_4 hm_4; exact absurd hm_4 (Nat.not_lt_zero _)
    | succ n_4 ih_4 =>
      intro j4_F0_4 j4_L1 j4_L3 hj4_F0_4 hm_4 H locs ls hP hD hS hl
      refine lv_aload_n hx hb dX2_readWord_4 rfl (lv_at hl 0 rfl) ?_
      refine k_get (D := (dC, dI)) (ci := 2) (v := .int j4_F0_4) (C := RX2) (T := TX2) (N := 11) hx hb hts hinX2 hown hK hP 0 rfl rfl 4 (by decide) w_0 rfl rfl dX2_readWord_5 ?_
      refine lv_aload_n hx hb dX2_readWord_8 rfl (lv_at hl 0 rfl) ?_
      refine k_get (D := (dC, dI)) (ci := 2) (v := .int v0_3) (C := RX2) (T := TX2) (N := 11) hx hb hts hinX2 hown hK hP 0 rfl rfl 3 (by decide) w_1 rfl rfl dX2_readWord_9 ?_
      have J_83 : ∀   (H : Heap) (locs : List Loc) (ls : Array Slot), va_P (dC, dI) vwCl [(a0, .inr (2, [.ref a0_0, .ref a0_1, .ref b0_2, .int v0_3, .int j4_F0_4, .int v0_5, .int v0_6, .int v0_7, .int 5, .int v0_9, .int v0_10])), (a0_0, .inl (cI, 1600, .inl f0_0)), (a0_1, .inl (cJ, 25, .inr (.inl g0_1)))] H → va_D A [(a0, .inr (2, [.ref a0_0, .ref a0_1, .ref b0_2, .int v0_3, .int j4_F0_4, .int v0_5, .int v0_6, .int v0_7, .int 5, .int v0_9, .int v0_10])), (a0_0, .inl (cI, 1600, .inl f0_0)), (a0_1, .inl (cJ, 25, .inr (.inl g0_1)))] → va_S A s.heap H locs → lv_has ls 7 [(0, .ref a0), (1, .long j4_L1)] → W p l e ({ frames := 2, cells := 0, slots := 0, locals := 63 }) s m args below meth c H locs 0 0 (MQ below (va_Qv (fun (u9 : SU) => (iR (u9.1 0) 0 1600) ∧ (iR (u9.1 1) 258 324) ∧ (iR (u9.1 3) 0 6) ∧ ((0 : Int32) < v0_9 → (0 : Int32) < (u9.1 3)) ∧ (((u9.1 3) = 0) ∨ (((u9.1 1) = 259)))) (fun u => k_B (dC, dI) vwCl (tyy cI cJ cZ cM) A ((fun (u9 : SU) => [(a0, .inr (2, [.ref a0_0, .ref a0_1, .ref b0_2, .int v0_3, .int (u9.1 0), .int v0_5, .int (u9.1 1), .int (u9.1 2), .int 5, .int (u9.1 3), .int (u9.1 4)])), (a0_0, .inl (cI, 1600, .inl f0_0)), (a0_1, .inl (cJ, 25, .inr (.inl g0_1)))]) u)) A) args s 0 0 A) (F0 m 83 ls []) := by
        intro   H locs ls hP hD hS hl
        refine lv_aload_n hx hb dX2_readWord_83 rfl (lv_at hl 0 rfl) ?_
        refine k_get (D := (dC, dI)) (ci := 2) (v := .int j4_F0_4) (C := RX2) (T := TX2) (N := 11) hx hb hts hinX2 hown hK hP 0 rfl rfl 4 (by decide) w_0 rfl rfl dX2_readWord_84 ?_
        refine lv_aload_n hx hb dX2_readWord_87 rfl (lv_at hl 0 rfl) ?_
        refine k_get (D := (dC, dI)) (ci := 2) (v := .int v0_5) (C := RX2) (T := TX2) (N := 11) hx hb hts hinX2 hown hK hP 0 rfl rfl 5 (by decide) w_2 rfl rfl dX2_readWord_88 ?_
        refine lv_isub hx hb dX2_readWord_91 ?_
        refine lv_topi (fun y_91 ey_91 => ?_)
        have f_91_1 : iR y_91 (-1600) 1600 := iR_sub ey_91 hj4_F0_4 hv0_5 (by decide +kernel)
        refine lv_istore (lv' := [(5, .int y_91), (0, .ref a0), (1, .long j4_L1)]) hx hb dX2_readWord_92 hl (by decide) rfl (fun ls hl => ?_)
        refine lv_iload hx hb dX2_readWord_94 (lv_at hl 0 rfl) ?_
        refine lv_bipush (v := 7) hx hb dX2_readWord_96 (by decide +kernel) ?_
        have J_110 : ∀ (j110_S0 : Int32) (hj110_S0 : iR j110_S0 (-1) 24) (H : Heap) (locs : List Loc) (ls : Array Slot), va_P (dC, dI) vwCl [(a0, .inr (2, [.ref a0_0, .ref a0_1, .ref b0_2, .int v0_3, .int j4_F0_4, .int v0_5, .int v0_6, .int v0_7, .int 5, .int v0_9, .int v0_10])), (a0_0, .inl (cI, 1600, .inl f0_0)), (a0_1, .inl (cJ, 25, .inr (.inl g0_1)))] H → va_D A [(a0, .inr (2, [.ref a0_0, .ref a0_1, .ref b0_2, .int v0_3, .int j4_F0_4, .int v0_5, .int v0_6, .int v0_7, .int 5, .int v0_9, .int v0_10])), (a0_0, .inl (cI, 1600, .inl f0_0)), (a0_1, .inl (cJ, 25, .inr (.inl g0_1)))] → va_S A s.heap H locs → lv_has ls 7 [(0, .ref a0), (1, .long j4_L1), (5, .int y_91)] → W p l e ({ frames := 2, cells := 0, slots := 0, locals := 63 }) s m args below meth c H locs 0 0 (MQ below (va_Qv (fun (u9 : SU) => (iR (u9.1 0) 0 1600) ∧ (iR (u9.1 1) 258 324) ∧ (iR (u9.1 3) 0 6) ∧ ((0 : Int32) < v0_9 → (0 : Int32) < (u9.1 3)) ∧ (((u9.1 3) = 0) ∨ (((u9.1 1) = 259)))) (fun u => k_B (dC, dI) vwCl (tyy cI cJ cZ cM) A ((fun (u9 : SU) => [(a0, .inr (2, [.ref a0_0, .ref a0_1, .ref b0_2, .int v0_3, .int (u9.1 0), .int v0_5, .int (u9.1 1), .int (u9.1 2), .int 5, .int (u9.1 3), .int (u9.1 4)])), (a0_0, .inl (cI, 1600, .inl f0_0)), (a0_1, .inl (cJ, 25, .inr (.inl g0_1)))]) u)) A) args s 0 0 A) (F0 m 110 ls [.int j110_S0]) := by
          intro j110_S0 hj110_S0 H locs ls hP hD hS hl
          refine lv_istore (lv' := [(6, .int j110_S0), (0, .ref a0), (1, .long j4_L1), (5, .int y_91)]) hx hb dX2_readWord_110 hl (by decide) rfl (fun ls hl => ?_)
          refine lv_iload hx hb dX2_readWord_112 (lv_at hl 0 rfl) ?_
          refine lv_if_lt (tgt := 130) hx hb dX2_readWord_114 (by decide) (fun c_114 => ?_) (fun c_114 => ?_)
          · have c_114 : j110_S0 < 0 := c_114
            have f_130_1 : iR j110_S0 (-1) (-1) := iR_ltL c_114 hj110_S0 (iR_c (n := 0) (a := 0) (b := 0) (by decide +kernel) (by decide +kernel)) (by decide +kernel)
            refine lv_iload hx hb dX2_readWord_130 (lv_at hl 3 rfl) ?_
            refine lv_bipush (v := 6) hx hb dX2_readWord_132 (by decide +kernel) ?_
            refine lv_icmp_le (tgt := 152) hx hb dX2_readWord_134 (by decide) (fun c_134 => ?_) (fun c_134 => ?_)
            · have c_134 : y_91 ≤ 6 := c_134
              have f_152_2 : iR y_91 (-1600) 6 := iR_leL c_134 f_91_1 (iR_c (n := 6) (a := 6) (b := 6) (by decide +kernel) (by decide +kernel)) (by decide +kernel)
              refine lv_aload_n hx hb dX2_readWord_152 rfl (lv_at hl 1 rfl) ?_
              refine lv_sipush (v := 258) hx hb dX2_readWord_153 (by decide +kernel) ?_
              refine k_put (D := (dC, dI)) (ci := 2) (v := .int 258) (C := RX2) (T := TX2) (N := 11) (ws' := [(a0, .inr (2, [.ref a0_0, .ref a0_1, .ref b0_2, .int v0_3, .int j4_F0_4, .int v0_5, .int 258, .int v0_7, .int 5, .int v0_9, .int v0_10])), (a0_0, .inl (cI, 1600, .inl f0_0)), (a0_1, .inl (cJ, 25, .inr (.inl g0_1)))]) hx hb hts hinX2 tyX2 tyX2_ok nmX2 hown hK hP hD hS 0 rfl rfl 6 (by decide) w_3 rfl rfl rfl rfl (Nat.le_of_ble_eq_true rfl) rfl dX2_readWord_156 (fun H locs hP hD hS => ?_)
              refine lv_aload_n hx hb dX2_readWord_159 rfl (lv_at hl 1 rfl) ?_
              refine lv_lload_n hx hb dX2_readWord_160 rfl (lv_at hl 2 rfl) ?_
              refine lv_l2i (v := j4_L1.toInt32) hx hb dX2_readWord_161 rfl ?_
              refine lv_topi (fun y_161 ey_161 => ?_)
              refine k_put (D := (dC, dI)) (ci := 2) (v := .int y_161) (C := RX2) (T := TX2) (N := 11) (ws' := [(a0, .inr (2, [.ref a0_0, .ref a0_1, .ref b0_2, .int v0_3, .int j4_F0_4, .int v0_5, .int 258, .int y_161, .int 5, .int v0_9, .int v0_10])), (a0_0, .inl (cI, 1600, .inl f0_0)), (a0_1, .inl (cJ, 25, .inr (.inl g0_1)))]) hx hb hts hinX2 tyX2 tyX2_ok nmX2 hown hK hP hD hS 0 rfl rfl 7 (by decide) w_4 rfl rfl rfl rfl (Nat.le_of_ble_eq_true rfl) rfl dX2_readWord_162 (fun H locs hP hD hS => ?_)
              exact k_rv B hP hD hS dX2_readWord_165 ((fun k9 => match k9 with | 0 => j4_F0_4 | 1 => 258 | 2 => y_161 | 3 => v0_9 | 4 => v0_10 | _ => 0), (fun _ => 0), (fun _ => (fun _ => 0)), (fun _ => (fun _ => 0)), (fun _ => 0)) [0, 1, 2] rfl rfl (Nat.le_of_ble_eq_true rfl) (Nat.le_of_ble_eq_true rfl) ⟨(show iR j4_F0_4 0 1600 from hj4_F0_4), (show iR 258 258 324 from (iR_c (n := 258) (a := 258) (b := 324) (by decide +kernel) (by decide +kernel))), (show iR v0_9 0 6 from (iR_w hxv0_9 (by decide +kernel))), (show (0 : Int32) < v0_9 → (0 : Int32) < v0_9 from (fun h => h)), (show (v0_9 = 0) ∨ ((258 = 259)) from (Or.inl (i_eqc hxv0_9 (iR_c (n := 0) (a := 0) (b := 0) (by decide +kernel) (by decide +kernel)))))⟩
            · have c_134 : 6 < y_91 := i_nle c_134
              have f_137_2 : iR y_91 7 1600 := iR_ltR c_134 (iR_c (n := 6) (a := 6) (b := 6) (by decide +kernel) (by decide +kernel)) f_91_1 (by decide +kernel)
              refine lv_aload_n hx hb dX2_readWord_137 rfl (lv_at hl 1 rfl) ?_
              refine lv_iconst (v := 1) hx hb dX2_readWord_138 (by decide +kernel) ?_
              refine lv_aload_n hx hb dX2_readWord_139 rfl (lv_at hl 1 rfl) ?_
              refine k_get (D := (dC, dI)) (ci := 2) (v := .int v0_5) (C := RX2) (T := TX2) (N := 11) hx hb hts hinX2 hown hK hP 0 rfl rfl 5 (by decide) w_2 rfl rfl dX2_readWord_140 ?_
              refine lv_bipush (v := 6) hx hb dX2_readWord_143 (by decide +kernel) ?_
              refine lv_iadd hx hb dX2_readWord_145 ?_
              refine lv_topi (fun y_145 ey_145 => ?_)
              have f_145_3 : iR y_145 6 1606 := iR_add ey_145 hv0_5 (iR_c (n := 6) (a := 6) (b := 6) (by decide +kernel) (by decide +kernel)) (by decide +kernel)
              refine k_cv (wc := [(a0, .inr (2, [.ref a0_0, .ref a0_1, .ref b0_2, .int v0_3, .int j4_F0_4, .int v0_5, .int v0_6, .int v0_7, .int 5, .int v0_9, .int v0_10]))]) (wr := [(a0_0, .inl (cI, 1600, .inl f0_0)), (a0_1, .inl (cJ, 25, .inr (.inl g0_1)))]) (fun hPc hDc hFc => va_runV (As := [.int 1, .int y_145]) (rest := []) ⟨hx, hb, hml, hown, hts⟩ (s_X2_blame_v17 l dC dI cI cJ cZ cM a0 1 y_145 a0_0 a0_1 b0_2 v0_3 j4_F0_4 v0_5 v0_6 v0_7 v0_9 v0_10 (iR_c (n := 1) (a := 1) (b := 6) (by decide +kernel) (by decide +kernel)) hv0_3 hj4_F0_4 hv0_5 hv0_6 (iR_w hxv0_9 (by decide +kernel)) hpg0 H.size) (cwV 2 hts gX2_readWord_X2_blame rfl rfl rfl (by decide +kernel) ⟨(Nat.le_of_ble_eq_true rfl), (Nat.le_of_ble_eq_true rfl)⟩) (k_pV hPc hDc hK hN hC hS hFc hP (q0 := 0) (ci := 2) rfl rfl) rfl rfl hl.1 rfl (lv_room (Nat.le_of_ble_eq_true rfl)) dX2_readWord_146 ⟨(Nat.le_of_ble_eq_true rfl), (Nat.le_of_ble_eq_true rfl)⟩) hP hD hS hA [0] [1, 2] rfl rfl rfl rfl (by decide) (fun _ => rfl) 0 0 rfl rfl (fun u_146 H locs hw hP hD hS => ?_)
              obtain ⟨g_146_0, g_146_1, g_146_2, g_146_3⟩ := hw
              have hP : va_P (dC, dI) vwCl [(a0_0, .inl (cI, 1600, .inl f0_0)), (a0_1, .inl (cJ, 25, .inr (.inl g0_1))), (a0, .inr (2, [.ref a0_0, .ref a0_1, .ref b0_2, .int v0_3, .int j4_F0_4, .int v0_5, .int (u_146.1 0), .int v0_7, .int 5, .int (u_146.1 1), .int (u_146.1 2)]))] H := hP
              have hD : va_D A [(a0_0, .inl (cI, 1600, .inl f0_0)), (a0_1, .inl (cJ, 25, .inr (.inl g0_1))), (a0, .inr (2, [.ref a0_0, .ref a0_1, .ref b0_2, .int v0_3, .int j4_F0_4, .int v0_5, .int (u_146.1 0), .int v0_7, .int 5, .int (u_146.1 1), .int (u_146.1 2)]))] := hD
              have g_146_2 : (0 : Int32) < v0_9 → (0 : Int32) < (u_146.1 1) := g_146_2
              have g_146_3 : ((u_146.1 1) = 0) ∨ (((u_146.1 0) = 259)) := g_146_3
              obtain d146_1_0 := g_146_3.resolve_left (i_nef g_146_1 (iR_c (n := 0) (a := 0) (b := 0) (by decide +kernel) (by decide +kernel)) (by decide +kernel))
              refine lv_goto (tgt := 165) hx hb dX2_readWord_149 (by decide) ?_
              exact k_rv B hP hD hS dX2_readWord_165 ((fun k9 => match k9 with | 0 => j4_F0_4 | 1 => (u_146.1 0) | 2 => v0_7 | 3 => (u_146.1 1) | 4 => (u_146.1 2) | _ => 0), (fun _ => 0), (fun _ => (fun _ => 0)), (fun _ => (fun _ => 0)), (fun _ => 0)) [2, 0, 1] rfl rfl (Nat.le_of_ble_eq_true rfl) (Nat.le_of_ble_eq_true rfl) ⟨(show iR j4_F0_4 0 1600 from hj4_F0_4), (show iR (u_146.1 0) 258 324 from (iR_w g_146_0 (by decide +kernel))), (show iR (u_146.1 1) 0 6 from (iR_w g_146_1 (by decide +kernel))), (show (0 : Int32) < v0_9 → (0 : Int32) < (u_146.1 1) from (fun h => g_146_2 ((fun h => h) h))), (show ((u_146.1 1) = 0) ∨ (((u_146.1 0) = 259)) from (Or.inr d146_1_0))⟩
          · have c_114 : 0 ≤ j110_S0 := i_nlt c_114
            have f_117_1 : iR j110_S0 0 24 := iR_leR c_114 (iR_c (n := 0) (a := 0) (b := 0) (by decide +kernel) (by decide +kernel)) hj110_S0 (by decide +kernel)
            refine lv_aload_n hx hb dX2_readWord_117 rfl (lv_at hl 1 rfl) ?_
            refine lv_sipush (v := 300) hx hb dX2_readWord_118 (by decide +kernel) ?_
            refine lv_iload hx hb dX2_readWord_121 (lv_at hl 0 rfl) ?_
            refine lv_iadd hx hb dX2_readWord_123 ?_
            refine lv_topi (fun y_123 ey_123 => ?_)
            have f_123_2 : iR y_123 300 324 := iR_add ey_123 (iR_c (n := 300) (a := 300) (b := 300) (by decide +kernel) (by decide +kernel)) f_117_1 (by decide +kernel)
            refine k_put (D := (dC, dI)) (ci := 2) (v := .int y_123) (C := RX2) (T := TX2) (N := 11) (ws' := [(a0, .inr (2, [.ref a0_0, .ref a0_1, .ref b0_2, .int v0_3, .int j4_F0_4, .int v0_5, .int y_123, .int v0_7, .int 5, .int v0_9, .int v0_10])), (a0_0, .inl (cI, 1600, .inl f0_0)), (a0_1, .inl (cJ, 25, .inr (.inl g0_1)))]) hx hb hts hinX2 tyX2 tyX2_ok nmX2 hown hK hP hD hS 0 rfl rfl 6 (by decide) w_3 rfl rfl rfl rfl (Nat.le_of_ble_eq_true rfl) rfl dX2_readWord_124 (fun H locs hP hD hS => ?_)
            refine lv_goto (tgt := 165) hx hb dX2_readWord_127 (by decide) ?_
            exact k_rv B hP hD hS dX2_readWord_165 ((fun k9 => match k9 with | 0 => j4_F0_4 | 1 => y_123 | 2 => v0_7 | 3 => v0_9 | 4 => v0_10 | _ => 0), (fun _ => 0), (fun _ => (fun _ => 0)), (fun _ => (fun _ => 0)), (fun _ => 0)) [0, 1, 2] rfl rfl (Nat.le_of_ble_eq_true rfl) (Nat.le_of_ble_eq_true rfl) ⟨(show iR j4_F0_4 0 1600 from hj4_F0_4), (show iR y_123 258 324 from (iR_w f_123_2 (by decide +kernel))), (show iR v0_9 0 6 from (iR_w hxv0_9 (by decide +kernel))), (show (0 : Int32) < v0_9 → (0 : Int32) < v0_9 from (fun h => h)), (show (v0_9 = 0) ∨ ((y_123 = 259)) from (Or.inl (i_eqc hxv0_9 (iR_c (n := 0) (a := 0) (b := 0) (by decide +kernel) (by decide +kernel)))))⟩
        refine lv_icmp_le (tgt := 105) hx hb dX2_readWord_98 (by decide) (fun c_98 => ?_) (fun c_98 => ?_)
        · have c_98 : y_91 ≤ 7 := c_98
          have f_105_2 : iR y_91 (-1600) 7 := iR_leL c_98 f_91_1 (iR_c (n := 7) (a := 7) (b := 7) (by decide +kernel) (by decide +kernel)) (by decide +kernel)
          refine lv_aload_n hx hb dX2_readWord_105 rfl (lv_at hl 1 rfl) ?_
          refine lv_lload_n hx hb dX2_readWord_106 rfl (lv_at hl 2 rfl) ?_
          refine k_ci (wc := [(a0, .inr (2, [.ref a0_0, .ref a0_1, .ref b0_2, .int v0_3, .int j4_F0_4, .int v0_5, .int v0_6, .int v0_7, .int 5, .int v0_9, .int v0_10])), (a0_1, .inl (cJ, 25, .inr (.inl g0_1)))]) (wr := [(a0_0, .inl (cI, 1600, .inl f0_0))]) (fun hPc hDc hFc => va_runV (As := [.long j4_L1]) (rest := []) ⟨hx, hb, hml, hown, hts⟩ (s_X2_ownIndex_v11 l dC dI cI cJ cZ cM a0 j4_L1 a0_0 a0_1 g0_1 b0_2 v0_3 j4_F0_4 v0_5 v0_6 v0_7 v0_9 v0_10 hv0_3 hj4_F0_4 hv0_5 hv0_6 (iR_w hxv0_9 (by decide +kernel)) H.size) (cwV 1 hts gX2_readWord_X2_ownIndex rfl rfl rfl (by decide +kernel) ⟨(Nat.le_of_ble_eq_true rfl), (Nat.le_of_ble_eq_true rfl)⟩) (k_pV hPc hDc hK hN hC hS hFc hP (q0 := 0) (ci := 2) rfl rfl) rfl rfl hl.1 rfl (lv_room (Nat.le_of_ble_eq_true rfl)) dX2_readWord_107 ⟨(Nat.le_of_ble_eq_true rfl), (Nat.le_of_ble_eq_true rfl)⟩) hP hD hS hA [0, 2] [1] rfl rfl rfl rfl (by decide) (fun _ => rfl) 0 0 rfl rfl (fun r_107 u_107 H locs hw hP hD hS => ?_)
          have g_107_0 := hw
          have hP : va_P (dC, dI) vwCl [(a0_0, .inl (cI, 1600, .inl f0_0)), (a0, .inr (2, [.ref a0_0, .ref a0_1, .ref b0_2, .int v0_3, .int j4_F0_4, .int v0_5, .int v0_6, .int v0_7, .int 5, .int v0_9, .int v0_10])), (a0_1, .inl (cJ, 25, .inr (.inl g0_1)))] H := hP
          have hD : va_D A [(a0_0, .inl (cI, 1600, .inl f0_0)), (a0, .inr (2, [.ref a0_0, .ref a0_1, .ref b0_2, .int v0_3, .int j4_F0_4, .int v0_5, .int v0_6, .int v0_7, .int 5, .int v0_9, .int v0_10])), (a0_1, .inl (cJ, 25, .inr (.inl g0_1)))] := hD
          exact J_110 r_107 g_107_0 H locs ls (hP.sub [1, 0, 2] rfl) (hD.sub [1, 0, 2] (by decide +kernel) rfl) hS (lv_sub hl [1, 2, 0] rfl)
        · have c_98 : 7 < y_91 := i_nle c_98
          have f_101_2 : iR y_91 8 1600 := iR_ltR c_98 (iR_c (n := 7) (a := 7) (b := 7) (by decide +kernel) (by decide +kernel)) f_91_1 (by decide +kernel)
          refine lv_iconst (v := (-1)) hx hb dX2_readWord_101 (by decide +kernel) ?_
          refine lv_goto (tgt := 110) hx hb dX2_readWord_102 (by decide) ?_
          exact J_110 (-1) (iR_c (n := (-1)) (a := (-1)) (b := 24) (by decide +kernel) (by decide +kernel)) H locs ls hP hD hS (lv_sub hl [1, 2, 0] rfl)
      refine lv_icmp_ge (tgt := 83) hx hb dX2_readWord_12 (by decide) (fun c_12 => ?_) (fun c_12 => ?_)
      · have c_12 : v0_3 ≤ j4_F0_4 := c_12
        exact J_83   H locs ls hP hD hS (lv_sub hl [0, 1] rfl)
      · have c_12 : j4_F0_4 < v0_3 := i_nle c_12
        have f_15_1 : iR j4_F0_4 0 1599 := iR_ltL c_12 hj4_F0_4 hv0_3 (by decide +kernel)
        have f_15_2 : iR v0_3 1 1600 := iR_ltR c_12 hj4_F0_4 hv0_3 (by decide +kernel)
        refine lv_aload_n hx hb dX2_readWord_15 rfl (lv_at hl 0 rfl) ?_
        refine k_get (D := (dC, dI)) (ci := 2) (v := .ref a0_0) (C := RX2) (T := TX2) (N := 11) hx hb hts hinX2 hown hK hP 0 rfl rfl 0 (by decide) w_5 rfl rfl dX2_readWord_16 ?_
        refine lv_aload_n hx hb dX2_readWord_19 rfl (lv_at hl 0 rfl) ?_
        refine k_get (D := (dC, dI)) (ci := 2) (v := .int j4_F0_4) (C := RX2) (T := TX2) (N := 11) hx hb hts hinX2 hown hK hP 0 rfl rfl 4 (by decide) w_0 rfl rfl dX2_readWord_20 ?_
        refine va_iald hx hb hK hP 1 0 rfl rfl (iR_vp f_15_1 (by decide +kernel)) dX2_readWord_23 ?_
        have f_23_3 : iR (f0_0 j4_F0_4.toNatClampNeg) 0 255 := hf0_0 _
        refine k_ci (wc := []) (wr := [(a0, .inr (2, [.ref a0_0, .ref a0_1, .ref b0_2, .int v0_3, .int j4_F0_4, .int v0_5, .int v0_6, .int v0_7, .int 5, .int v0_9, .int v0_10])), (a0_0, .inl (cI, 1600, .inl f0_0)), (a0_1, .inl (cJ, 25, .inr (.inl g0_1)))]) (fun hPc hDc hFc => va_runS (As := [.int (f0_0 j4_F0_4.toNatClampNeg)]) (rest := []) ⟨hx, hb, hml, hown, hts⟩ (s_X2_isLetter_v0 l dC dI cI cJ cZ cM (f0_0 j4_F0_4.toNatClampNeg) H.size) (va_cwS 1 hts gX2_readWord_X2_isLetter rfl rfl rfl (by decide +kernel) ⟨(Nat.le_of_ble_eq_true rfl), (Nat.le_of_ble_eq_true rfl)⟩) (k_pS hPc hDc hK hN hC hS hFc) rfl rfl hl.1 rfl (lv_room (Nat.le_of_ble_eq_true rfl)) dX2_readWord_24 ⟨(Nat.le_of_ble_eq_true rfl), (Nat.le_of_ble_eq_true rfl)⟩) hP hD hS hA [] [0, 1, 2] rfl rfl rfl rfl (by decide) (fun _ => rfl) 0 0 rfl rfl (fun r_24 u_24 H locs hw hP hD hS => ?_)
        have g_24_0 := hw
        have hP : va_P (dC, dI) vwCl [(a0, .inr (2, [.ref a0_0, .ref a0_1, .ref b0_2, .int v0_3, .int j4_F0_4, .int v0_5, .int v0_6, .int v0_7, .int 5, .int v0_9, .int v0_10])), (a0_0, .inl (cI, 1600, .inl f0_0)), (a0_1, .inl (cJ, 25, .inr (.inl g0_1)))] H := hP
        have hD : va_D A [(a0, .inr (2, [.ref a0_0, .ref a0_1, .ref b0_2, .int v0_3, .int j4_F0_4, .int v0_5, .int v0_6, .int v0_7, .int 5, .int v0_9, .int v0_10])), (a0_0, .inl (cI, 1600, .inl f0_0)), (a0_1, .inl (cJ, 25, .inr (.inl g0_1)))] := hD
        refine lv_if_eq (tgt := 83) hx hb dX2_readWord_27 (by decide) (fun c_27 => ?_) (fun c_27 => ?_)
        · have c_27 : r_24 = 0 := c_27
          have f_83_4 : iR r_24 0 0 := iR_eqL c_27 g_24_0 (iR_c (n := 0) (a := 0) (b := 0) (by decide +kernel) (by decide +kernel)) (by decide +kernel)
          exact J_83   H locs ls hP hD hS (lv_sub hl [0, 1] rfl)
        · have c_27 : ¬ r_24 = 0 := c_27
          have f_30_4 : iR r_24 1 1 := iR_neL c_27 g_24_0 (iR_c (n := 0) (a := 0) (b := 0) (by decide +kernel) (by decide +kernel)) (by decide +kernel)
          refine lv_aload_n hx hb dX2_readWord_30 rfl (lv_at hl 0 rfl) ?_
          refine k_get (D := (dC, dI)) (ci := 2) (v := .int j4_F0_4) (C := RX2) (T := TX2) (N := 11) hx hb hts hinX2 hown hK hP 0 rfl rfl 4 (by decide) w_0 rfl rfl dX2_readWord_31 ?_
          refine lv_aload_n hx hb dX2_readWord_34 rfl (lv_at hl 0 rfl) ?_
          refine k_get (D := (dC, dI)) (ci := 2) (v := .int v0_5) (C := RX2) (T := TX2) (N := 11) hx hb hts hinX2 hown hK hP 0 rfl rfl 5 (by decide) w_2 rfl rfl dX2_readWord_35 ?_
          refine lv_isub hx hb dX2_readWord_38 ?_
          refine lv_topi (fun y_38 ey_38 => ?_)
          have f_38_5 : iR y_38 (-1600) 1599 := iR_sub ey_38 f_15_1 hv0_5 (by decide +kernel)
          refine lv_bipush (v := 7) hx hb dX2_readWord_39 (by decide +kernel) ?_
          have J_70 : ∀ (j70_L1 : Int64) (j70_L3 : Int64)  (H : Heap) (locs : List Loc) (ls : Array Slot), va_P (dC, dI) vwCl [(a0, .inr (2, [.ref a0_0, .ref a0_1, .ref b0_2, .int v0_3, .int j4_F0_4, .int v0_5, .int v0_6, .int v0_7, .int 5, .int v0_9, .int v0_10])), (a0_0, .inl (cI, 1600, .inl f0_0)), (a0_1, .inl (cJ, 25, .inr (.inl g0_1)))] H → va_D A [(a0, .inr (2, [.ref a0_0, .ref a0_1, .ref b0_2, .int v0_3, .int j4_F0_4, .int v0_5, .int v0_6, .int v0_7, .int 5, .int v0_9, .int v0_10])), (a0_0, .inl (cI, 1600, .inl f0_0)), (a0_1, .inl (cJ, 25, .inr (.inl g0_1)))] → va_S A s.heap H locs → lv_has ls 7 [(0, .ref a0), (1, .long j70_L1), (3, .long j70_L3)] → W p l e ({ frames := 2, cells := 0, slots := 0, locals := 63 }) s m args below meth c H locs 0 0 (MQ below (va_Qv (fun (u9 : SU) => (iR (u9.1 0) 0 1600) ∧ (iR (u9.1 1) 258 324) ∧ (iR (u9.1 3) 0 6) ∧ ((0 : Int32) < v0_9 → (0 : Int32) < (u9.1 3)) ∧ (((u9.1 3) = 0) ∨ (((u9.1 1) = 259)))) (fun u => k_B (dC, dI) vwCl (tyy cI cJ cZ cM) A ((fun (u9 : SU) => [(a0, .inr (2, [.ref a0_0, .ref a0_1, .ref b0_2, .int v0_3, .int (u9.1 0), .int v0_5, .int (u9.1 1), .int (u9.1 2), .int 5, .int (u9.1 3), .int (u9.1 4)])), (a0_0, .inl (cI, 1600, .inl f0_0)), (a0_1, .inl (cJ, 25, .inr (.inl g0_1)))]) u)) A) args s 0 0 A) (F0 m 70 ls []) := by
            intro j70_L1 j70_L3  H locs ls hP hD hS hl
            refine lv_aload_n hx hb dX2_readWord_70 rfl (lv_at hl 0 rfl) ?_
            refine lv_dup hx hb dX2_readWord_71 rfl ?_
            refine k_get (D := (dC, dI)) (ci := 2) (v := .int j4_F0_4) (C := RX2) (T := TX2) (N := 11) hx hb hts hinX2 hown hK hP 0 rfl rfl 4 (by decide) w_0 rfl rfl dX2_readWord_72 ?_
            refine lv_iconst (v := 1) hx hb dX2_readWord_75 (by decide +kernel) ?_
            refine lv_iadd hx hb dX2_readWord_76 ?_
            refine lv_topi (fun y_76 ey_76 => ?_)
            have f_76_1 : iR y_76 1 1600 := iR_add ey_76 f_15_1 (iR_c (n := 1) (a := 1) (b := 1) (by decide +kernel) (by decide +kernel)) (by decide +kernel)
            refine k_put (D := (dC, dI)) (ci := 2) (v := .int y_76) (C := RX2) (T := TX2) (N := 11) (ws' := [(a0, .inr (2, [.ref a0_0, .ref a0_1, .ref b0_2, .int v0_3, .int y_76, .int v0_5, .int v0_6, .int v0_7, .int 5, .int v0_9, .int v0_10])), (a0_0, .inl (cI, 1600, .inl f0_0)), (a0_1, .inl (cJ, 25, .inr (.inl g0_1)))]) hx hb hts hinX2 tyX2 tyX2_ok nmX2 hown hK hP hD hS 0 rfl rfl 4 (by decide) w_0 rfl rfl rfl rfl (Nat.le_of_ble_eq_true rfl) rfl dX2_readWord_77 (fun H locs hP hD hS => ?_)
            refine lv_goto (tgt := 4) hx hb dX2_readWord_80 (by decide) ?_
            exact ih_4 y_76 j70_L1 j70_L3 (iR_w f_76_1 (by decide +kernel)) (m_up (B := 1600) hm_4 ey_76 f_15_1 (by decide +kernel)) H locs ls hP hD hS (lv_sub hl [0, 1, 2] rfl)
          refine lv_icmp_ge (tgt := 70) hx hb dX2_readWord_41 (by decide) (fun c_41 => ?_) (fun c_41 => ?_)
          · have c_41 : 7 ≤ y_38 := c_41
            have f_70_6 : iR y_38 7 1599 := iR_leR c_41 (iR_c (n := 7) (a := 7) (b := 7) (by decide +kernel) (by decide +kernel)) f_38_5 (by decide +kernel)
            exact J_70 j4_L1 j4_L3  H locs ls hP hD hS (lv_sub hl [0, 1, 2] rfl)
          · have c_41 : y_38 < 7 := i_nle c_41
            have f_44_6 : iR y_38 (-1600) 6 := iR_ltL c_41 f_38_5 (iR_c (n := 7) (a := 7) (b := 7) (by decide +kernel) (by decide +kernel)) (by decide +kernel)
            refine lv_lload_n hx hb dX2_readWord_44 rfl (lv_at hl 1 rfl) ?_
            refine lv_aload_n hx hb dX2_readWord_45 rfl (lv_at hl 0 rfl) ?_
            refine k_get (D := (dC, dI)) (ci := 2) (v := .ref a0_0) (C := RX2) (T := TX2) (N := 11) hx hb hts hinX2 hown hK hP 0 rfl rfl 0 (by decide) w_5 rfl rfl dX2_readWord_46 ?_
            refine lv_aload_n hx hb dX2_readWord_49 rfl (lv_at hl 0 rfl) ?_
            refine k_get (D := (dC, dI)) (ci := 2) (v := .int j4_F0_4) (C := RX2) (T := TX2) (N := 11) hx hb hts hinX2 hown hK hP 0 rfl rfl 4 (by decide) w_0 rfl rfl dX2_readWord_50 ?_
            refine va_iald hx hb hK hP 1 0 rfl rfl (iR_vp f_15_1 (by decide +kernel)) dX2_readWord_53 ?_
            refine lv_bipush (v := 97) hx hb dX2_readWord_54 (by decide +kernel) ?_
            refine lv_isub hx hb dX2_readWord_56 ?_
            refine lv_topi (fun y_56 ey_56 => ?_)
            have f_56_7 : iR y_56 (-97) 158 := iR_sub ey_56 f_23_3 (iR_c (n := 97) (a := 97) (b := 97) (by decide +kernel) (by decide +kernel)) (by decide +kernel)
            refine lv_iconst (v := 1) hx hb dX2_readWord_57 (by decide +kernel) ?_
            refine lv_iadd hx hb dX2_readWord_58 ?_
            refine lv_topi (fun y_58 ey_58 => ?_)
            have f_58_8 : iR y_58 (-96) 159 := iR_add ey_58 f_56_7 (iR_c (n := 1) (a := 1) (b := 1) (by decide +kernel) (by decide +kernel)) (by decide +kernel)
            refine lv_i2l (v := y_58.toInt64) hx hb dX2_readWord_59 rfl ?_
            refine lv_topl (fun y_59 ey_59 => ?_)
            refine lv_lload_n hx hb dX2_readWord_60 rfl (lv_at hl 2 rfl) ?_
            refine lv_lmul hx hb dX2_readWord_61 ?_
            refine lv_topl (fun y_61 ey_61 => ?_)
            refine lv_ladd hx hb dX2_readWord_62 ?_
            refine lv_topl (fun y_62 ey_62 => ?_)
            refine lv_lstore_n (lv' := [(1, .long y_62), (0, .ref a0), (3, .long j4_L3)]) hx hb dX2_readWord_63 rfl hl (by decide) rfl (fun ls hl => ?_)
            refine lv_lload_n hx hb dX2_readWord_64 rfl (lv_at hl 2 rfl) ?_
            refine lv_ldc2 (v := 27) hx hb hown w_6 dX2_readWord_65 ?_
            refine lv_lmul hx hb dX2_readWord_68 ?_
            refine lv_topl (fun y_68 ey_68 => ?_)
            refine lv_lstore_n (lv' := [(3, .long y_68), (1, .long y_62), (0, .ref a0)]) hx hb dX2_readWord_69 rfl hl (by decide) rfl (fun ls hl => ?_)
            exact J_70 y_62 y_68  H locs ls hP hD hS (lv_sub hl [2, 1, 0] rfl)
  refine lv_lstore_n (lv' := [(3, .long 1), (1, .long 0), (0, .ref a0)]) hx hb dX2_readWord_3 rfl hl (by decide) rfl (fun ls hl => ?_)
  exact J_4 _ v0_4 0 1 hv0_4 (Nat.lt_succ_self _) H locs ls hP hD hS (lv_sub hl [2, 1, 0] rfl)
set_option maxHeartbeats 8000000 in
set_option maxRecDepth 100000 in
theorem s_X2_step_v10 (l : Launch) (dC : Nat → ClassId) (dI : Nat → Nat → Nat) (cI cJ cZ cM : ClassId) (a0 : Nat) (a0_0 : Nat) (f0_0 : Nat → Int32) (a0_1 : Nat) (g0_1 : Nat → Int64) (a0_2 : Nat) (v0_3 : Int32) (v0_4 : Int32) (v0_5 : Int32) (v0_6 : Int32) (v0_7 : Int32) (v0_9 : Int32) (v0_10 : Int32) (hv0_3 : iR v0_3 0 1600) (hv0_4 : iR v0_4 0 1600) (hv0_5 : iR v0_5 0 1600) (hv0_6 : iR v0_6 0 324) (hv0_9 : iR v0_9 0 6) (hf0_0 : aR f0_0 0 255) (hpg0 : (v0_9 = 0) ∨ ((v0_6 = 259))) : k_Mv l yX2_step wsX2_step ({ frames := 3, cells := 0, slots := 0, locals := 89 }) (dC, dI) vwCl (tyy cI cJ cZ cM) [(a0, .inr (2, [.ref a0_0, .ref a0_1, .ref a0_2, .int v0_3, .int v0_4, .int v0_5, .int v0_6, .int v0_7, .int 5, .int v0_9, .int v0_10])), (a0_0, .inl (cI, 1600, .inl f0_0)), (a0_1, .inl (cJ, 25, .inr (.inl g0_1)))] [.ref a0] 0 0 (fun (u9 : SU) => [(a0, .inr (2, [.ref a0_0, .ref a0_1, .ref a0_2, .int v0_3, .int (u9.1 0), .int (u9.1 1), .int (u9.1 2), .int (u9.1 3), .int 5, .int (u9.1 4), .int (u9.1 5)])), (a0_0, .inl (cI, 1600, .inl f0_0)), (a0_1, .inl (cJ, 25, .inr (.inl g0_1)))]) (fun (u9 : SU) => (iR (u9.1 0) 0 1600) ∧ (iR (u9.1 1) 0 1600) ∧ (iR (u9.1 2) 0 324) ∧ (iR (u9.1 4) 0 6) ∧ ((0 : Int32) < v0_9 → (0 : Int32) < (u9.1 4)) ∧ (((u9.1 4) = 0) ∨ (((u9.1 2) = 259)))) := by
  refine fun sz => k_enter (cc := cX2_step) (maxL := 3) (ret := none) (Qc := fun A => va_Qv (fun (u9 : SU) => (iR (u9.1 0) 0 1600) ∧ (iR (u9.1 1) 0 1600) ∧ (iR (u9.1 2) 0 324) ∧ (iR (u9.1 4) 0 6) ∧ ((0 : Int32) < v0_9 → (0 : Int32) < (u9.1 4)) ∧ (((u9.1 4) = 0) ∨ (((u9.1 2) = 259)))) (fun u => k_B (dC, dI) vwCl (tyy cI cJ cZ cM) A ((fun (u9 : SU) => [(a0, .inr (2, [.ref a0_0, .ref a0_1, .ref a0_2, .int v0_3, .int (u9.1 0), .int (u9.1 1), .int (u9.1 2), .int (u9.1 3), .int 5, .int (u9.1 4), .int (u9.1 5)])), (a0_0, .inl (cI, 1600, .inl f0_0)), (a0_1, .inl (cJ, 25, .inr (.inl g0_1)))]) u)) A) sz (by decide +kernel) rfl (Nat.le_of_ble_eq_true rfl) (fun p e s m args below meth c A ls H locs B hP hD hS hl => ?_)
  obtain ⟨hx, hb, hml, hown, hts, hr, hlk, hnm, hK, hA, hN, hC⟩ := id B
  have hown : s.vm.findClass RX2 = some m.cls := hown
  have hl : lv_has ls 3 [(0, .ref a0)] := hl
  have w_0 : (Cond.fieldLink RX2 63 "WishSea$Reader" "fault" "I").before args s = true := hts _ (List.mem_of_getElem? (i := 1) rfl)
  have w_1 : (Cond.fieldLink RX2 57 "WishSea$Reader" "position" "I").before args s = true := hts _ (List.mem_of_getElem? (i := 2) rfl)
  have w_2 : (Cond.fieldLink RX2 15 "WishSea$Reader" "token" "I").before args s = true := hts _ (List.mem_of_getElem? (i := 3) rfl)
  have w_3 : (Cond.fieldLink RX2 55 "WishSea$Reader" "length" "I").before args s = true := hts _ (List.mem_of_getElem? (i := 4) rfl)
  have w_4 : (Cond.fieldLink RX2 73 "WishSea$Reader" "start" "I").before args s = true := hts _ (List.mem_of_getElem? (i := 6) rfl)
  have w_5 : (Cond.fieldLink RX2 22 "WishSea$Reader" "text" "[I").before args s = true := hts _ (List.mem_of_getElem? (i := 5) rfl)
  have hinX2 : ∀ w ∈ u_ws RX2 TX2 11, w ∈ wsX2_step := fun _ h => List.mem_cons_of_mem _ (List.mem_append_right _ h)
  refine lv_aload_n hx hb dX2_step_0 rfl (lv_at hl 0 rfl) ?_
  refine k_get (D := (dC, dI)) (ci := 2) (v := .int v0_9) (C := RX2) (T := TX2) (N := 11) hx hb hts hinX2 hown hK hP 0 rfl rfl 9 (by decide) w_0 rfl rfl dX2_step_1 ?_
  refine lv_if_eq (tgt := 8) hx hb dX2_step_4 (by decide) (fun c_4 => ?_) (fun c_4 => ?_)
  · have c_4 : v0_9 = 0 := c_4
    have f_8_1 : iR v0_9 0 0 := iR_eqL c_4 hv0_9 (iR_c (n := 0) (a := 0) (b := 0) (by decide +kernel) (by decide +kernel)) (by decide +kernel)
    refine lv_aload_n hx hb dX2_step_8 rfl (lv_at hl 0 rfl) ?_
    refine k_get (D := (dC, dI)) (ci := 2) (v := .int v0_4) (C := RX2) (T := TX2) (N := 11) hx hb hts hinX2 hown hK hP 0 rfl rfl 4 (by decide) w_1 rfl rfl dX2_step_9 ?_
    refine lv_istore_n (lv' := [(1, .int v0_4), (0, .ref a0)]) hx hb dX2_step_12 rfl hl (by decide) rfl (fun ls hl => ?_)
    refine lv_aload_n hx hb dX2_step_13 rfl (lv_at hl 1 rfl) ?_
    refine k_get (D := (dC, dI)) (ci := 2) (v := .int v0_6) (C := RX2) (T := TX2) (N := 11) hx hb hts hinX2 hown hK hP 0 rfl rfl 6 (by decide) w_2 rfl rfl dX2_step_14 ?_
    refine k_ci (wc := []) (wr := [(a0, .inr (2, [.ref a0_0, .ref a0_1, .ref a0_2, .int v0_3, .int v0_4, .int v0_5, .int v0_6, .int v0_7, .int 5, .int v0_9, .int v0_10])), (a0_0, .inl (cI, 1600, .inl f0_0)), (a0_1, .inl (cJ, 25, .inr (.inl g0_1)))]) (fun hPc hDc hFc => va_runS (As := [.int v0_6]) (rest := []) ⟨hx, hb, hml, hown, hts⟩ (s_X2_isWhole_v0 l dC dI cI cJ cZ cM v0_6 H.size) (va_cwS 1 hts gX2_step_X2_isWhole rfl rfl rfl (by decide +kernel) ⟨(Nat.le_of_ble_eq_true rfl), (Nat.le_of_ble_eq_true rfl)⟩) (k_pS hPc hDc hK hN hC hS hFc) rfl rfl hl.1 rfl (lv_room (Nat.le_of_ble_eq_true rfl)) dX2_step_17 ⟨(Nat.le_of_ble_eq_true rfl), (Nat.le_of_ble_eq_true rfl)⟩) hP hD hS hA [] [0, 1, 2] rfl rfl rfl rfl (by decide) (fun _ => rfl) 0 0 rfl rfl (fun r_17 u_17 H locs hw hP hD hS => ?_)
    have g_17_0 := hw
    have hP : va_P (dC, dI) vwCl [(a0, .inr (2, [.ref a0_0, .ref a0_1, .ref a0_2, .int v0_3, .int v0_4, .int v0_5, .int v0_6, .int v0_7, .int 5, .int v0_9, .int v0_10])), (a0_0, .inl (cI, 1600, .inl f0_0)), (a0_1, .inl (cJ, 25, .inr (.inl g0_1)))] H := hP
    have hD : va_D A [(a0, .inr (2, [.ref a0_0, .ref a0_1, .ref a0_2, .int v0_3, .int v0_4, .int v0_5, .int v0_6, .int v0_7, .int 5, .int v0_9, .int v0_10])), (a0_0, .inl (cI, 1600, .inl f0_0)), (a0_1, .inl (cJ, 25, .inr (.inl g0_1)))] := hD
    have J_21 : ∀ (n_21 : Nat) (j21_F0_4 : Int32) (hj21_F0_4 : iR j21_F0_4 0 1600) (hm_21 : (1600 - j21_F0_4.toInt).toNat < n_21) (H : Heap) (locs : List Loc) (ls : Array Slot), va_P (dC, dI) vwCl [(a0, .inr (2, [.ref a0_0, .ref a0_1, .ref a0_2, .int v0_3, .int j21_F0_4, .int v0_5, .int v0_6, .int v0_7, .int 5, .int v0_9, .int v0_10])), (a0_0, .inl (cI, 1600, .inl f0_0)), (a0_1, .inl (cJ, 25, .inr (.inl g0_1)))] H → va_D A [(a0, .inr (2, [.ref a0_0, .ref a0_1, .ref a0_2, .int v0_3, .int j21_F0_4, .int v0_5, .int v0_6, .int v0_7, .int 5, .int v0_9, .int v0_10])), (a0_0, .inl (cI, 1600, .inl f0_0)), (a0_1, .inl (cJ, 25, .inr (.inl g0_1)))] → va_S A s.heap H locs → lv_has ls 3 [(0, .ref a0), (1, .int v0_4), (2, .int r_17)] → W p l e ({ frames := 3, cells := 0, slots := 0, locals := 89 }) s m args below meth c H locs 0 0 (MQ below (va_Qv (fun (u9 : SU) => (iR (u9.1 0) 0 1600) ∧ (iR (u9.1 1) 0 1600) ∧ (iR (u9.1 2) 0 324) ∧ (iR (u9.1 4) 0 6) ∧ ((0 : Int32) < v0_9 → (0 : Int32) < (u9.1 4)) ∧ (((u9.1 4) = 0) ∨ (((u9.1 2) = 259)))) (fun u => k_B (dC, dI) vwCl (tyy cI cJ cZ cM) A ((fun (u9 : SU) => [(a0, .inr (2, [.ref a0_0, .ref a0_1, .ref a0_2, .int v0_3, .int (u9.1 0), .int (u9.1 1), .int (u9.1 2), .int (u9.1 3), .int 5, .int (u9.1 4), .int (u9.1 5)])), (a0_0, .inl (cI, 1600, .inl f0_0)), (a0_1, .inl (cJ, 25, .inr (.inl g0_1)))]) u)) A) args s 0 0 A) (F0 m 21 ls []) := by
      intro n_21
      induction n_21 with
      | zero => intro j21_F0_4 hj21_F0_4 hm_21; exact absurd hm_21 (Nat.not_lt_zero _)
      | succ n_21 ih_21 =>
        intro j21_F0_4 hj21_F0_4 hm_21 H locs ls hP hD hS hl
        refine lv_aload_n hx hb dX2_step_21 rfl (lv_at hl 0 rfl) ?_
        refine k_get (D := (dC, dI)) (ci := 2) (v := .int j21_F0_4) (C := RX2) (T := TX2) (N := 11) hx hb hts hinX2 hown hK hP 0 rfl rfl 4 (by decide) w_1 rfl rfl dX2_step_22 ?_
        refine lv_aload_n hx hb dX2_step_25 rfl (lv_at hl 0 rfl) ?_
        refine k_get (D := (dC, dI)) (ci := 2) (v := .int v0_3) (C := RX2) (T := TX2) (N := 11) hx hb hts hinX2 hown hK hP 0 rfl rfl 3 (by decide) w_3 rfl rfl dX2_step_26 ?_
        have J_73 : ∀   (H : Heap) (locs : List Loc) (ls : Array Slot), va_P (dC, dI) vwCl [(a0, .inr (2, [.ref a0_0, .ref a0_1, .ref a0_2, .int v0_3, .int j21_F0_4, .int v0_5, .int v0_6, .int v0_7, .int 5, .int v0_9, .int v0_10])), (a0_0, .inl (cI, 1600, .inl f0_0)), (a0_1, .inl (cJ, 25, .inr (.inl g0_1)))] H → va_D A [(a0, .inr (2, [.ref a0_0, .ref a0_1, .ref a0_2, .int v0_3, .int j21_F0_4, .int v0_5, .int v0_6, .int v0_7, .int 5, .int v0_9, .int v0_10])), (a0_0, .inl (cI, 1600, .inl f0_0)), (a0_1, .inl (cJ, 25, .inr (.inl g0_1)))] → va_S A s.heap H locs → lv_has ls 3 [(0, .ref a0), (1, .int v0_4), (2, .int r_17)] → W p l e ({ frames := 3, cells := 0, slots := 0, locals := 89 }) s m args below meth c H locs 0 0 (MQ below (va_Qv (fun (u9 : SU) => (iR (u9.1 0) 0 1600) ∧ (iR (u9.1 1) 0 1600) ∧ (iR (u9.1 2) 0 324) ∧ (iR (u9.1 4) 0 6) ∧ ((0 : Int32) < v0_9 → (0 : Int32) < (u9.1 4)) ∧ (((u9.1 4) = 0) ∨ (((u9.1 2) = 259)))) (fun u => k_B (dC, dI) vwCl (tyy cI cJ cZ cM) A ((fun (u9 : SU) => [(a0, .inr (2, [.ref a0_0, .ref a0_1, .ref a0_2, .int v0_3, .int (u9.1 0), .int (u9.1 1), .int (u9.1 2), .int (u9.1 3), .int 5, .int (u9.1 4), .int (u9.1 5)])), (a0_0, .inl (cI, 1600, .inl f0_0)), (a0_1, .inl (cJ, 25, .inr (.inl g0_1)))]) u)) A) args s 0 0 A) (F0 m 73 ls []) := by
          intro   H locs ls hP hD hS hl
          refine lv_aload_n hx hb dX2_step_73 rfl (lv_at hl 0 rfl) ?_
          refine lv_aload_n hx hb dX2_step_74 rfl (lv_at hl 0 rfl) ?_
          refine k_get (D := (dC, dI)) (ci := 2) (v := .int j21_F0_4) (C := RX2) (T := TX2) (N := 11) hx hb hts hinX2 hown hK hP 0 rfl rfl 4 (by decide) w_1 rfl rfl dX2_step_75 ?_
          refine k_put (D := (dC, dI)) (ci := 2) (v := .int j21_F0_4) (C := RX2) (T := TX2) (N := 11) (ws' := [(a0, .inr (2, [.ref a0_0, .ref a0_1, .ref a0_2, .int v0_3, .int j21_F0_4, .int j21_F0_4, .int v0_6, .int v0_7, .int 5, .int v0_9, .int v0_10])), (a0_0, .inl (cI, 1600, .inl f0_0)), (a0_1, .inl (cJ, 25, .inr (.inl g0_1)))]) hx hb hts hinX2 tyX2 tyX2_ok nmX2 hown hK hP hD hS 0 rfl rfl 5 (by decide) w_4 rfl rfl rfl rfl (Nat.le_of_ble_eq_true rfl) rfl dX2_step_78 (fun H locs hP hD hS => ?_)
          refine lv_aload_n hx hb dX2_step_81 rfl (lv_at hl 0 rfl) ?_
          refine k_get (D := (dC, dI)) (ci := 2) (v := .int j21_F0_4) (C := RX2) (T := TX2) (N := 11) hx hb hts hinX2 hown hK hP 0 rfl rfl 4 (by decide) w_1 rfl rfl dX2_step_82 ?_
          refine lv_aload_n hx hb dX2_step_85 rfl (lv_at hl 0 rfl) ?_
          refine k_get (D := (dC, dI)) (ci := 2) (v := .int v0_3) (C := RX2) (T := TX2) (N := 11) hx hb hts hinX2 hown hK hP 0 rfl rfl 3 (by decide) w_3 rfl rfl dX2_step_86 ?_
          have J_169 : ∀ (j169_F0_4 : Int32) (j169_F0_6 : Int32) (j169_F0_7 : Int32) (j169_F0_9 : Int32) (j169_F0_10 : Int32) (hj169_F0_4 : iR j169_F0_4 0 1600) (hj169_F0_6 : iR j169_F0_6 0 324) (hj169_F0_9 : iR j169_F0_9 0 6) (t169_xf : (0 : Int32) < v0_9 → (0 : Int32) < j169_F0_9) (w169_0 : (j169_F0_9 = 0) ∨ ((j169_F0_6 = 259))) (H : Heap) (locs : List Loc) (ls : Array Slot), va_P (dC, dI) vwCl [(a0, .inr (2, [.ref a0_0, .ref a0_1, .ref a0_2, .int v0_3, .int j169_F0_4, .int j21_F0_4, .int j169_F0_6, .int j169_F0_7, .int 5, .int j169_F0_9, .int j169_F0_10])), (a0_0, .inl (cI, 1600, .inl f0_0)), (a0_1, .inl (cJ, 25, .inr (.inl g0_1)))] H → va_D A [(a0, .inr (2, [.ref a0_0, .ref a0_1, .ref a0_2, .int v0_3, .int j169_F0_4, .int j21_F0_4, .int j169_F0_6, .int j169_F0_7, .int 5, .int j169_F0_9, .int j169_F0_10])), (a0_0, .inl (cI, 1600, .inl f0_0)), (a0_1, .inl (cJ, 25, .inr (.inl g0_1)))] → va_S A s.heap H locs → lv_has ls 3 [(0, .ref a0), (1, .int v0_4), (2, .int r_17)] → W p l e ({ frames := 3, cells := 0, slots := 0, locals := 89 }) s m args below meth c H locs 0 0 (MQ below (va_Qv (fun (u9 : SU) => (iR (u9.1 0) 0 1600) ∧ (iR (u9.1 1) 0 1600) ∧ (iR (u9.1 2) 0 324) ∧ (iR (u9.1 4) 0 6) ∧ ((0 : Int32) < v0_9 → (0 : Int32) < (u9.1 4)) ∧ (((u9.1 4) = 0) ∨ (((u9.1 2) = 259)))) (fun u => k_B (dC, dI) vwCl (tyy cI cJ cZ cM) A ((fun (u9 : SU) => [(a0, .inr (2, [.ref a0_0, .ref a0_1, .ref a0_2, .int v0_3, .int (u9.1 0), .int (u9.1 1), .int (u9.1 2), .int (u9.1 3), .int 5, .int (u9.1 4), .int (u9.1 5)])), (a0_0, .inl (cI, 1600, .inl f0_0)), (a0_1, .inl (cJ, 25, .inr (.inl g0_1)))]) u)) A) args s 0 0 A) (F0 m 169 ls []) := by
            intro j169_F0_4 j169_F0_6 j169_F0_7 j169_F0_9 j169_F0_10 hj169_F0_4 hj169_F0_6 hj169_F0_9 t169_xf w169_0 H locs ls hP hD hS hl
            refine lv_iload_n hx hb dX2_step_169 rfl (lv_at hl 2 rfl) ?_
            refine lv_if_eq (tgt := 200) hx hb dX2_step_170 (by decide) (fun c_170 => ?_) (fun c_170 => ?_)
            · have c_170 : r_17 = 0 := c_170
              have f_200_1 : iR r_17 0 0 := iR_eqL c_170 g_17_0 (iR_c (n := 0) (a := 0) (b := 0) (by decide +kernel) (by decide +kernel)) (by decide +kernel)
              exact k_rv B hP hD hS dX2_step_200 ((fun k9 => match k9 with | 0 => j169_F0_4 | 1 => j21_F0_4 | 2 => j169_F0_6 | 3 => j169_F0_7 | 4 => j169_F0_9 | 5 => j169_F0_10 | _ => 0), (fun _ => 0), (fun _ => (fun _ => 0)), (fun _ => (fun _ => 0)), (fun _ => 0)) [0, 1, 2] rfl rfl (Nat.le_of_ble_eq_true rfl) (Nat.le_of_ble_eq_true rfl) ⟨(show iR j169_F0_4 0 1600 from hj169_F0_4), (show iR j21_F0_4 0 1600 from hj21_F0_4), (show iR j169_F0_6 0 324 from hj169_F0_6), (show iR j169_F0_9 0 6 from hj169_F0_9), (show (0 : Int32) < v0_9 → (0 : Int32) < j169_F0_9 from t169_xf), (show (j169_F0_9 = 0) ∨ ((j169_F0_6 = 259)) from w169_0)⟩
            · have c_170 : ¬ r_17 = 0 := c_170
              have f_173_1 : iR r_17 1 1 := iR_neL c_170 g_17_0 (iR_c (n := 0) (a := 0) (b := 0) (by decide +kernel) (by decide +kernel)) (by decide +kernel)
              refine lv_aload_n hx hb dX2_step_173 rfl (lv_at hl 0 rfl) ?_
              refine k_get (D := (dC, dI)) (ci := 2) (v := .int j21_F0_4) (C := RX2) (T := TX2) (N := 11) hx hb hts hinX2 hown hK hP 0 rfl rfl 5 (by decide) w_4 rfl rfl dX2_step_174 ?_
              refine lv_iload_n hx hb dX2_step_177 rfl (lv_at hl 1 rfl) ?_
              refine lv_icmp_ne (tgt := 200) hx hb dX2_step_178 (by decide) (fun c_178 => ?_) (fun c_178 => ?_)
              · have c_178 : ¬ j21_F0_4 = v0_4 := c_178
                exact k_rv B hP hD hS dX2_step_200 ((fun k9 => match k9 with | 0 => j169_F0_4 | 1 => j21_F0_4 | 2 => j169_F0_6 | 3 => j169_F0_7 | 4 => j169_F0_9 | 5 => j169_F0_10 | _ => 0), (fun _ => 0), (fun _ => (fun _ => 0)), (fun _ => (fun _ => 0)), (fun _ => 0)) [0, 1, 2] rfl rfl (Nat.le_of_ble_eq_true rfl) (Nat.le_of_ble_eq_true rfl) ⟨(show iR j169_F0_4 0 1600 from hj169_F0_4), (show iR j21_F0_4 0 1600 from hj21_F0_4), (show iR j169_F0_6 0 324 from hj169_F0_6), (show iR j169_F0_9 0 6 from hj169_F0_9), (show (0 : Int32) < v0_9 → (0 : Int32) < j169_F0_9 from t169_xf), (show (j169_F0_9 = 0) ∨ ((j169_F0_6 = 259)) from w169_0)⟩
              · have c_178 : j21_F0_4 = v0_4 := c_178
                refine lv_aload_n hx hb dX2_step_181 rfl (lv_at hl 0 rfl) ?_
                refine k_get (D := (dC, dI)) (ci := 2) (v := .int j169_F0_6) (C := RX2) (T := TX2) (N := 11) hx hb hts hinX2 hown hK hP 0 rfl rfl 6 (by decide) w_2 rfl rfl dX2_step_182 ?_
                refine k_ci (wc := []) (wr := [(a0, .inr (2, [.ref a0_0, .ref a0_1, .ref a0_2, .int v0_3, .int j169_F0_4, .int j21_F0_4, .int j169_F0_6, .int j169_F0_7, .int 5, .int j169_F0_9, .int j169_F0_10])), (a0_0, .inl (cI, 1600, .inl f0_0)), (a0_1, .inl (cJ, 25, .inr (.inl g0_1)))]) (fun hPc hDc hFc => va_runS (As := [.int j169_F0_6]) (rest := []) ⟨hx, hb, hml, hown, hts⟩ (s_X2_isWhole_v0 l dC dI cI cJ cZ cM j169_F0_6 H.size) (va_cwS 1 hts gX2_step_X2_isWhole rfl rfl rfl (by decide +kernel) ⟨(Nat.le_of_ble_eq_true rfl), (Nat.le_of_ble_eq_true rfl)⟩) (k_pS hPc hDc hK hN hC hS hFc) rfl rfl hl.1 rfl (lv_room (Nat.le_of_ble_eq_true rfl)) dX2_step_185 ⟨(Nat.le_of_ble_eq_true rfl), (Nat.le_of_ble_eq_true rfl)⟩) hP hD hS hA [] [0, 1, 2] rfl rfl rfl rfl (by decide) (fun _ => rfl) 0 0 rfl rfl (fun r_185 u_185 H locs hw hP hD hS => ?_)
                have g_185_0 := hw
                have hP : va_P (dC, dI) vwCl [(a0, .inr (2, [.ref a0_0, .ref a0_1, .ref a0_2, .int v0_3, .int j169_F0_4, .int j21_F0_4, .int j169_F0_6, .int j169_F0_7, .int 5, .int j169_F0_9, .int j169_F0_10])), (a0_0, .inl (cI, 1600, .inl f0_0)), (a0_1, .inl (cJ, 25, .inr (.inl g0_1)))] H := hP
                have hD : va_D A [(a0, .inr (2, [.ref a0_0, .ref a0_1, .ref a0_2, .int v0_3, .int j169_F0_4, .int j21_F0_4, .int j169_F0_6, .int j169_F0_7, .int 5, .int j169_F0_9, .int j169_F0_10])), (a0_0, .inl (cI, 1600, .inl f0_0)), (a0_1, .inl (cJ, 25, .inr (.inl g0_1)))] := hD
                refine lv_if_eq (tgt := 200) hx hb dX2_step_188 (by decide) (fun c_188 => ?_) (fun c_188 => ?_)
                · have c_188 : r_185 = 0 := c_188
                  have f_200_2 : iR r_185 0 0 := iR_eqL c_188 g_185_0 (iR_c (n := 0) (a := 0) (b := 0) (by decide +kernel) (by decide +kernel)) (by decide +kernel)
                  exact k_rv B hP hD hS dX2_step_200 ((fun k9 => match k9 with | 0 => j169_F0_4 | 1 => j21_F0_4 | 2 => j169_F0_6 | 3 => j169_F0_7 | 4 => j169_F0_9 | 5 => j169_F0_10 | _ => 0), (fun _ => 0), (fun _ => (fun _ => 0)), (fun _ => (fun _ => 0)), (fun _ => 0)) [0, 1, 2] rfl rfl (Nat.le_of_ble_eq_true rfl) (Nat.le_of_ble_eq_true rfl) ⟨(show iR j169_F0_4 0 1600 from hj169_F0_4), (show iR j21_F0_4 0 1600 from hj21_F0_4), (show iR j169_F0_6 0 324 from hj169_F0_6), (show iR j169_F0_9 0 6 from hj169_F0_9), (show (0 : Int32) < v0_9 → (0 : Int32) < j169_F0_9 from t169_xf), (show (j169_F0_9 = 0) ∨ ((j169_F0_6 = 259)) from w169_0)⟩
                · have c_188 : ¬ r_185 = 0 := c_188
                  have f_191_2 : iR r_185 1 1 := iR_neL c_188 g_185_0 (iR_c (n := 0) (a := 0) (b := 0) (by decide +kernel) (by decide +kernel)) (by decide +kernel)
                  refine lv_aload_n hx hb dX2_step_191 rfl (lv_at hl 0 rfl) ?_
                  refine lv_iconst (v := 1) hx hb dX2_step_192 (by decide +kernel) ?_
                  refine lv_aload_n hx hb dX2_step_193 rfl (lv_at hl 0 rfl) ?_
                  refine k_get (D := (dC, dI)) (ci := 2) (v := .int j21_F0_4) (C := RX2) (T := TX2) (N := 11) hx hb hts hinX2 hown hK hP 0 rfl rfl 5 (by decide) w_4 rfl rfl dX2_step_194 ?_
                  refine k_cv (wc := [(a0, .inr (2, [.ref a0_0, .ref a0_1, .ref a0_2, .int v0_3, .int j169_F0_4, .int j21_F0_4, .int j169_F0_6, .int j169_F0_7, .int 5, .int j169_F0_9, .int j169_F0_10]))]) (wr := [(a0_0, .inl (cI, 1600, .inl f0_0)), (a0_1, .inl (cJ, 25, .inr (.inl g0_1)))]) (fun hPc hDc hFc => va_runV (As := [.int 1, .int j21_F0_4]) (rest := []) ⟨hx, hb, hml, hown, hts⟩ (s_X2_blame_v17 l dC dI cI cJ cZ cM a0 1 j21_F0_4 a0_0 a0_1 a0_2 v0_3 j169_F0_4 j21_F0_4 j169_F0_6 j169_F0_7 j169_F0_9 j169_F0_10 (iR_c (n := 1) (a := 1) (b := 6) (by decide +kernel) (by decide +kernel)) hv0_3 hj169_F0_4 hj21_F0_4 hj169_F0_6 hj169_F0_9 w169_0 H.size) (cwV 2 hts gX2_step_X2_blame rfl rfl rfl (by decide +kernel) ⟨(Nat.le_of_ble_eq_true rfl), (Nat.le_of_ble_eq_true rfl)⟩) (k_pV hPc hDc hK hN hC hS hFc hP (q0 := 0) (ci := 2) rfl rfl) rfl rfl hl.1 rfl (lv_room (Nat.le_of_ble_eq_true rfl)) dX2_step_197 ⟨(Nat.le_of_ble_eq_true rfl), (Nat.le_of_ble_eq_true rfl)⟩) hP hD hS hA [0] [1, 2] rfl rfl rfl rfl (by decide) (fun _ => rfl) 0 0 rfl rfl (fun u_197 H locs hw hP hD hS => ?_)
                  obtain ⟨g_197_0, g_197_1, g_197_2, g_197_3⟩ := hw
                  have hP : va_P (dC, dI) vwCl [(a0_0, .inl (cI, 1600, .inl f0_0)), (a0_1, .inl (cJ, 25, .inr (.inl g0_1))), (a0, .inr (2, [.ref a0_0, .ref a0_1, .ref a0_2, .int v0_3, .int j169_F0_4, .int j21_F0_4, .int (u_197.1 0), .int j169_F0_7, .int 5, .int (u_197.1 1), .int (u_197.1 2)]))] H := hP
                  have hD : va_D A [(a0_0, .inl (cI, 1600, .inl f0_0)), (a0_1, .inl (cJ, 25, .inr (.inl g0_1))), (a0, .inr (2, [.ref a0_0, .ref a0_1, .ref a0_2, .int v0_3, .int j169_F0_4, .int j21_F0_4, .int (u_197.1 0), .int j169_F0_7, .int 5, .int (u_197.1 1), .int (u_197.1 2)]))] := hD
                  have g_197_2 : (0 : Int32) < j169_F0_9 → (0 : Int32) < (u_197.1 1) := g_197_2
                  have g_197_3 : ((u_197.1 1) = 0) ∨ (((u_197.1 0) = 259)) := g_197_3
                  obtain d197_1_0 := g_197_3.resolve_left (i_nef g_197_1 (iR_c (n := 0) (a := 0) (b := 0) (by decide +kernel) (by decide +kernel)) (by decide +kernel))
                  exact k_rv B hP hD hS dX2_step_200 ((fun k9 => match k9 with | 0 => j169_F0_4 | 1 => j21_F0_4 | 2 => (u_197.1 0) | 3 => j169_F0_7 | 4 => (u_197.1 1) | 5 => (u_197.1 2) | _ => 0), (fun _ => 0), (fun _ => (fun _ => 0)), (fun _ => (fun _ => 0)), (fun _ => 0)) [2, 0, 1] rfl rfl (Nat.le_of_ble_eq_true rfl) (Nat.le_of_ble_eq_true rfl) ⟨(show iR j169_F0_4 0 1600 from hj169_F0_4), (show iR j21_F0_4 0 1600 from hj21_F0_4), (show iR (u_197.1 0) 0 324 from (iR_w g_197_0 (by decide +kernel))), (show iR (u_197.1 1) 0 6 from (iR_w g_197_1 (by decide +kernel))), (show (0 : Int32) < v0_9 → (0 : Int32) < (u_197.1 1) from (fun h => g_197_2 (t169_xf h))), (show ((u_197.1 1) = 0) ∨ (((u_197.1 0) = 259)) from (Or.inr d197_1_0))⟩
          refine lv_icmp_lt (tgt := 102) hx hb dX2_step_89 (by decide) (fun c_89 => ?_) (fun c_89 => ?_)
          · have c_89 : j21_F0_4 < v0_3 := c_89
            have f_102_1 : iR j21_F0_4 0 1599 := iR_ltL c_89 hj21_F0_4 hv0_3 (by decide +kernel)
            have f_102_2 : iR v0_3 1 1600 := iR_ltR c_89 hj21_F0_4 hv0_3 (by decide +kernel)
            refine lv_aload_n hx hb dX2_step_102 rfl (lv_at hl 0 rfl) ?_
            refine k_get (D := (dC, dI)) (ci := 2) (v := .ref a0_0) (C := RX2) (T := TX2) (N := 11) hx hb hts hinX2 hown hK hP 0 rfl rfl 0 (by decide) w_5 rfl rfl dX2_step_103 ?_
            refine lv_aload_n hx hb dX2_step_106 rfl (lv_at hl 0 rfl) ?_
            refine k_get (D := (dC, dI)) (ci := 2) (v := .int j21_F0_4) (C := RX2) (T := TX2) (N := 11) hx hb hts hinX2 hown hK hP 0 rfl rfl 4 (by decide) w_1 rfl rfl dX2_step_107 ?_
            refine va_iald hx hb hK hP 1 0 rfl rfl (iR_vp f_102_1 (by decide +kernel)) dX2_step_110 ?_
            have f_110_3 : iR (f0_0 j21_F0_4.toNatClampNeg) 0 255 := hf0_0 _
            refine k_ci (wc := []) (wr := [(a0, .inr (2, [.ref a0_0, .ref a0_1, .ref a0_2, .int v0_3, .int j21_F0_4, .int j21_F0_4, .int v0_6, .int v0_7, .int 5, .int v0_9, .int v0_10])), (a0_0, .inl (cI, 1600, .inl f0_0)), (a0_1, .inl (cJ, 25, .inr (.inl g0_1)))]) (fun hPc hDc hFc => va_runS (As := [.int (f0_0 j21_F0_4.toNatClampNeg)]) (rest := []) ⟨hx, hb, hml, hown, hts⟩ (s_X2_isLetter_v0 l dC dI cI cJ cZ cM (f0_0 j21_F0_4.toNatClampNeg) H.size) (va_cwS 1 hts gX2_step_X2_isLetter rfl rfl rfl (by decide +kernel) ⟨(Nat.le_of_ble_eq_true rfl), (Nat.le_of_ble_eq_true rfl)⟩) (k_pS hPc hDc hK hN hC hS hFc) rfl rfl hl.1 rfl (lv_room (Nat.le_of_ble_eq_true rfl)) dX2_step_111 ⟨(Nat.le_of_ble_eq_true rfl), (Nat.le_of_ble_eq_true rfl)⟩) hP hD hS hA [] [0, 1, 2] rfl rfl rfl rfl (by decide) (fun _ => rfl) 0 0 rfl rfl (fun r_111 u_111 H locs hw hP hD hS => ?_)
            have g_111_0 := hw
            have hP : va_P (dC, dI) vwCl [(a0, .inr (2, [.ref a0_0, .ref a0_1, .ref a0_2, .int v0_3, .int j21_F0_4, .int j21_F0_4, .int v0_6, .int v0_7, .int 5, .int v0_9, .int v0_10])), (a0_0, .inl (cI, 1600, .inl f0_0)), (a0_1, .inl (cJ, 25, .inr (.inl g0_1)))] H := hP
            have hD : va_D A [(a0, .inr (2, [.ref a0_0, .ref a0_1, .ref a0_2, .int v0_3, .int j21_F0_4, .int j21_F0_4, .int v0_6, .int v0_7, .int 5, .int v0_9, .int v0_10])), (a0_0, .inl (cI, 1600, .inl f0_0)), (a0_1, .inl (cJ, 25, .inr (.inl g0_1)))] := hD
            refine lv_if_eq (tgt := 124) hx hb dX2_step_114 (by decide) (fun c_114 => ?_) (fun c_114 => ?_)
            · have c_114 : r_111 = 0 := c_114
              have f_124_4 : iR r_111 0 0 := iR_eqL c_114 g_111_0 (iR_c (n := 0) (a := 0) (b := 0) (by decide +kernel) (by decide +kernel)) (by decide +kernel)
              refine lv_aload_n hx hb dX2_step_124 rfl (lv_at hl 0 rfl) ?_
              refine k_get (D := (dC, dI)) (ci := 2) (v := .ref a0_0) (C := RX2) (T := TX2) (N := 11) hx hb hts hinX2 hown hK hP 0 rfl rfl 0 (by decide) w_5 rfl rfl dX2_step_125 ?_
              refine lv_aload_n hx hb dX2_step_128 rfl (lv_at hl 0 rfl) ?_
              refine k_get (D := (dC, dI)) (ci := 2) (v := .int j21_F0_4) (C := RX2) (T := TX2) (N := 11) hx hb hts hinX2 hown hK hP 0 rfl rfl 4 (by decide) w_1 rfl rfl dX2_step_129 ?_
              refine va_iald hx hb hK hP 1 0 rfl rfl (iR_vp f_102_1 (by decide +kernel)) dX2_step_132 ?_
              refine k_ci (wc := []) (wr := [(a0, .inr (2, [.ref a0_0, .ref a0_1, .ref a0_2, .int v0_3, .int j21_F0_4, .int j21_F0_4, .int v0_6, .int v0_7, .int 5, .int v0_9, .int v0_10])), (a0_0, .inl (cI, 1600, .inl f0_0)), (a0_1, .inl (cJ, 25, .inr (.inl g0_1)))]) (fun hPc hDc hFc => va_runS (As := [.int (f0_0 j21_F0_4.toNatClampNeg)]) (rest := []) ⟨hx, hb, hml, hown, hts⟩ (s_X2_isDigit_v0 l dC dI cI cJ cZ cM (f0_0 j21_F0_4.toNatClampNeg) H.size) (va_cwS 1 hts gX2_step_X2_isDigit rfl rfl rfl (by decide +kernel) ⟨(Nat.le_of_ble_eq_true rfl), (Nat.le_of_ble_eq_true rfl)⟩) (k_pS hPc hDc hK hN hC hS hFc) rfl rfl hl.1 rfl (lv_room (Nat.le_of_ble_eq_true rfl)) dX2_step_133 ⟨(Nat.le_of_ble_eq_true rfl), (Nat.le_of_ble_eq_true rfl)⟩) hP hD hS hA [] [0, 1, 2] rfl rfl rfl rfl (by decide) (fun _ => rfl) 0 0 rfl rfl (fun r_133 u_133 H locs hw hP hD hS => ?_)
              have g_133_0 := hw
              have hP : va_P (dC, dI) vwCl [(a0, .inr (2, [.ref a0_0, .ref a0_1, .ref a0_2, .int v0_3, .int j21_F0_4, .int j21_F0_4, .int v0_6, .int v0_7, .int 5, .int v0_9, .int v0_10])), (a0_0, .inl (cI, 1600, .inl f0_0)), (a0_1, .inl (cJ, 25, .inr (.inl g0_1)))] H := hP
              have hD : va_D A [(a0, .inr (2, [.ref a0_0, .ref a0_1, .ref a0_2, .int v0_3, .int j21_F0_4, .int j21_F0_4, .int v0_6, .int v0_7, .int 5, .int v0_9, .int v0_10])), (a0_0, .inl (cI, 1600, .inl f0_0)), (a0_1, .inl (cJ, 25, .inr (.inl g0_1)))] := hD
              refine lv_if_eq (tgt := 146) hx hb dX2_step_136 (by decide) (fun c_136 => ?_) (fun c_136 => ?_)
              · have c_136 : r_133 = 0 := c_136
                have f_146_5 : iR r_133 0 0 := iR_eqL c_136 g_133_0 (iR_c (n := 0) (a := 0) (b := 0) (by decide +kernel) (by decide +kernel)) (by decide +kernel)
                refine lv_aload_n hx hb dX2_step_146 rfl (lv_at hl 0 rfl) ?_
                refine lv_aload_n hx hb dX2_step_147 rfl (lv_at hl 0 rfl) ?_
                refine k_get (D := (dC, dI)) (ci := 2) (v := .ref a0_0) (C := RX2) (T := TX2) (N := 11) hx hb hts hinX2 hown hK hP 0 rfl rfl 0 (by decide) w_5 rfl rfl dX2_step_148 ?_
                refine lv_aload_n hx hb dX2_step_151 rfl (lv_at hl 0 rfl) ?_
                refine k_get (D := (dC, dI)) (ci := 2) (v := .int j21_F0_4) (C := RX2) (T := TX2) (N := 11) hx hb hts hinX2 hown hK hP 0 rfl rfl 4 (by decide) w_1 rfl rfl dX2_step_152 ?_
                refine va_iald hx hb hK hP 1 0 rfl rfl (iR_vp f_102_1 (by decide +kernel)) dX2_step_155 ?_
                refine k_put (D := (dC, dI)) (ci := 2) (v := .int (f0_0 j21_F0_4.toNatClampNeg)) (C := RX2) (T := TX2) (N := 11) (ws' := [(a0, .inr (2, [.ref a0_0, .ref a0_1, .ref a0_2, .int v0_3, .int j21_F0_4, .int j21_F0_4, .int (f0_0 j21_F0_4.toNatClampNeg), .int v0_7, .int 5, .int v0_9, .int v0_10])), (a0_0, .inl (cI, 1600, .inl f0_0)), (a0_1, .inl (cJ, 25, .inr (.inl g0_1)))]) hx hb hts hinX2 tyX2 tyX2_ok nmX2 hown hK hP hD hS 0 rfl rfl 6 (by decide) w_2 rfl rfl rfl rfl (Nat.le_of_ble_eq_true rfl) rfl dX2_step_156 (fun H locs hP hD hS => ?_)
                refine lv_aload_n hx hb dX2_step_159 rfl (lv_at hl 0 rfl) ?_
                refine lv_dup hx hb dX2_step_160 rfl ?_
                refine k_get (D := (dC, dI)) (ci := 2) (v := .int j21_F0_4) (C := RX2) (T := TX2) (N := 11) hx hb hts hinX2 hown hK hP 0 rfl rfl 4 (by decide) w_1 rfl rfl dX2_step_161 ?_
                refine lv_iconst (v := 1) hx hb dX2_step_164 (by decide +kernel) ?_
                refine lv_iadd hx hb dX2_step_165 ?_
                refine lv_topi (fun y_165 ey_165 => ?_)
                have f_165_6 : iR y_165 1 1600 := iR_add ey_165 f_102_1 (iR_c (n := 1) (a := 1) (b := 1) (by decide +kernel) (by decide +kernel)) (by decide +kernel)
                refine k_put (D := (dC, dI)) (ci := 2) (v := .int y_165) (C := RX2) (T := TX2) (N := 11) (ws' := [(a0, .inr (2, [.ref a0_0, .ref a0_1, .ref a0_2, .int v0_3, .int y_165, .int j21_F0_4, .int (f0_0 j21_F0_4.toNatClampNeg), .int v0_7, .int 5, .int v0_9, .int v0_10])), (a0_0, .inl (cI, 1600, .inl f0_0)), (a0_1, .inl (cJ, 25, .inr (.inl g0_1)))]) hx hb hts hinX2 tyX2 tyX2_ok nmX2 hown hK hP hD hS 0 rfl rfl 4 (by decide) w_1 rfl rfl rfl rfl (Nat.le_of_ble_eq_true rfl) rfl dX2_step_166 (fun H locs hP hD hS => ?_)
                exact J_169 y_165 (f0_0 j21_F0_4.toNatClampNeg) v0_7 v0_9 v0_10 (iR_w f_165_6 (by decide +kernel)) (iR_w f_110_3 (by decide +kernel)) (iR_w f_8_1 (by decide +kernel)) (fun h => h) (Or.inl c_4) H locs ls hP hD hS (lv_sub hl [0, 1, 2] rfl)
              · have c_136 : ¬ r_133 = 0 := c_136
                have f_139_5 : iR r_133 1 1 := iR_neL c_136 g_133_0 (iR_c (n := 0) (a := 0) (b := 0) (by decide +kernel) (by decide +kernel)) (by decide +kernel)
                refine lv_aload_n hx hb dX2_step_139 rfl (lv_at hl 0 rfl) ?_
                refine k_cv (wc := [(a0, .inr (2, [.ref a0_0, .ref a0_1, .ref a0_2, .int v0_3, .int j21_F0_4, .int j21_F0_4, .int v0_6, .int v0_7, .int 5, .int v0_9, .int v0_10])), (a0_0, .inl (cI, 1600, .inl f0_0))]) (wr := [(a0_1, .inl (cJ, 25, .inr (.inl g0_1)))]) (fun hPc hDc hFc => va_runV (As := []) (rest := []) ⟨hx, hb, hml, hown, hts⟩ (s_X2_readNumber_v11 l dC dI cI cJ cZ cM a0 a0_0 f0_0 a0_1 a0_2 v0_3 j21_F0_4 j21_F0_4 v0_6 v0_7 v0_9 v0_10 (show iR v0_9 0 0 from f_8_1) (iR_w f_102_2 (by decide +kernel)) (iR_w f_102_1 (by decide +kernel)) (iR_w f_102_1 (by decide +kernel)) hv0_6 (iR_w f_8_1 (by decide +kernel)) hf0_0 hpg0 H.size) (cwV 0 hts gX2_step_X2_readNumber rfl rfl rfl (by decide +kernel) ⟨(Nat.le_of_ble_eq_true rfl), (Nat.le_of_ble_eq_true rfl)⟩) (k_pV hPc hDc hK hN hC hS hFc hP (q0 := 0) (ci := 2) rfl rfl) rfl rfl hl.1 rfl (lv_room (Nat.le_of_ble_eq_true rfl)) dX2_step_140 ⟨(Nat.le_of_ble_eq_true rfl), (Nat.le_of_ble_eq_true rfl)⟩) hP hD hS hA [0, 1] [2] rfl rfl rfl rfl (by decide) (fun _ => rfl) 0 0 rfl rfl (fun u_140 H locs hw hP hD hS => ?_)
                obtain ⟨g_140_0, g_140_1, g_140_2, g_140_3, g_140_4⟩ := hw
                have hP : va_P (dC, dI) vwCl [(a0_1, .inl (cJ, 25, .inr (.inl g0_1))), (a0, .inr (2, [.ref a0_0, .ref a0_1, .ref a0_2, .int v0_3, .int (u_140.1 0), .int j21_F0_4, .int (u_140.1 1), .int (u_140.1 2), .int 5, .int (u_140.1 3), .int (u_140.1 4)])), (a0_0, .inl (cI, 1600, .inl f0_0))] H := hP
                have hD : va_D A [(a0_1, .inl (cJ, 25, .inr (.inl g0_1))), (a0, .inr (2, [.ref a0_0, .ref a0_1, .ref a0_2, .int v0_3, .int (u_140.1 0), .int j21_F0_4, .int (u_140.1 1), .int (u_140.1 2), .int 5, .int (u_140.1 3), .int (u_140.1 4)])), (a0_0, .inl (cI, 1600, .inl f0_0))] := hD
                have g_140_3 : (0 : Int32) < v0_9 → (0 : Int32) < (u_140.1 3) := g_140_3
                have g_140_4 : ((u_140.1 3) = 0) ∨ (((u_140.1 1) = 259)) := g_140_4
                refine lv_goto (tgt := 169) hx hb dX2_step_143 (by decide) ?_
                exact J_169 (u_140.1 0) (u_140.1 1) (u_140.1 2) (u_140.1 3) (u_140.1 4) g_140_0 (iR_w g_140_1 (by decide +kernel)) g_140_2 (fun h => g_140_3 ((fun h => h) h)) g_140_4 H locs ls (hP.sub [1, 2, 0] rfl) (hD.sub [1, 2, 0] (by decide +kernel) rfl) hS (lv_sub hl [0, 1, 2] rfl)
            · have c_114 : ¬ r_111 = 0 := c_114
              have f_117_4 : iR r_111 1 1 := iR_neL c_114 g_111_0 (iR_c (n := 0) (a := 0) (b := 0) (by decide +kernel) (by decide +kernel)) (by decide +kernel)
              refine lv_aload_n hx hb dX2_step_117 rfl (lv_at hl 0 rfl) ?_
              refine k_cv (wc := [(a0, .inr (2, [.ref a0_0, .ref a0_1, .ref a0_2, .int v0_3, .int j21_F0_4, .int j21_F0_4, .int v0_6, .int v0_7, .int 5, .int v0_9, .int v0_10])), (a0_0, .inl (cI, 1600, .inl f0_0)), (a0_1, .inl (cJ, 25, .inr (.inl g0_1)))]) (wr := []) (fun hPc hDc hFc => va_runV (As := []) (rest := []) ⟨hx, hb, hml, hown, hts⟩ (s_X2_readWord_v11 l dC dI cI cJ cZ cM a0 a0_0 f0_0 a0_1 g0_1 a0_2 v0_3 j21_F0_4 j21_F0_4 v0_6 v0_7 v0_9 v0_10 (show iR v0_9 0 0 from f_8_1) (iR_w f_102_2 (by decide +kernel)) (iR_w f_102_1 (by decide +kernel)) (iR_w f_102_1 (by decide +kernel)) hv0_6 (iR_w f_8_1 (by decide +kernel)) hf0_0 hpg0 H.size) (cwV 0 hts gX2_step_X2_readWord rfl rfl rfl (by decide +kernel) ⟨(Nat.le_of_ble_eq_true rfl), (Nat.le_of_ble_eq_true rfl)⟩) (k_pV hPc hDc hK hN hC hS hFc hP (q0 := 0) (ci := 2) rfl rfl) rfl rfl hl.1 rfl (lv_room (Nat.le_of_ble_eq_true rfl)) dX2_step_118 ⟨(Nat.le_of_ble_eq_true rfl), (Nat.le_of_ble_eq_true rfl)⟩) hP hD hS hA [0, 1, 2] [] rfl rfl rfl rfl (by decide) (fun _ => rfl) 0 0 rfl rfl (fun u_118 H locs hw hP hD hS => ?_)
              obtain ⟨g_118_0, g_118_1, g_118_2, g_118_3, g_118_4⟩ := hw
              have hP : va_P (dC, dI) vwCl [(a0, .inr (2, [.ref a0_0, .ref a0_1, .ref a0_2, .int v0_3, .int (u_118.1 0), .int j21_F0_4, .int (u_118.1 1), .int (u_118.1 2), .int 5, .int (u_118.1 3), .int (u_118.1 4)])), (a0_0, .inl (cI, 1600, .inl f0_0)), (a0_1, .inl (cJ, 25, .inr (.inl g0_1)))] H := hP
              have hD : va_D A [(a0, .inr (2, [.ref a0_0, .ref a0_1, .ref a0_2, .int v0_3, .int (u_118.1 0), .int j21_F0_4, .int (u_118.1 1), .int (u_118.1 2), .int 5, .int (u_118.1 3), .int (u_118.1 4)])), (a0_0, .inl (cI, 1600, .inl f0_0)), (a0_1, .inl (cJ, 25, .inr (.inl g0_1)))] := hD
              have g_118_3 : (0 : Int32) < v0_9 → (0 : Int32) < (u_118.1 3) := g_118_3
              have g_118_4 : ((u_118.1 3) = 0) ∨ (((u_118.1 1) = 259)) := g_118_4
              refine lv_goto (tgt := 169) hx hb dX2_step_121 (by decide) ?_
              exact J_169 (u_118.1 0) (u_118.1 1) (u_118.1 2) (u_118.1 3) (u_118.1 4) g_118_0 (iR_w g_118_1 (by decide +kernel)) g_118_2 (fun h => g_118_3 ((fun h => h) h)) g_118_4 H locs ls hP hD hS (lv_sub hl [0, 1, 2] rfl)
          · have c_89 : v0_3 ≤ j21_F0_4 := i_nlt c_89
            refine lv_aload_n hx hb dX2_step_92 rfl (lv_at hl 0 rfl) ?_
            refine lv_sipush (v := 256) hx hb dX2_step_93 (by decide +kernel) ?_
            refine k_put (D := (dC, dI)) (ci := 2) (v := .int 256) (C := RX2) (T := TX2) (N := 11) (ws' := [(a0, .inr (2, [.ref a0_0, .ref a0_1, .ref a0_2, .int v0_3, .int j21_F0_4, .int j21_F0_4, .int 256, .int v0_7, .int 5, .int v0_9, .int v0_10])), (a0_0, .inl (cI, 1600, .inl f0_0)), (a0_1, .inl (cJ, 25, .inr (.inl g0_1)))]) hx hb hts hinX2 tyX2 tyX2_ok nmX2 hown hK hP hD hS 0 rfl rfl 6 (by decide) w_2 rfl rfl rfl rfl (Nat.le_of_ble_eq_true rfl) rfl dX2_step_96 (fun H locs hP hD hS => ?_)
            refine lv_goto (tgt := 169) hx hb dX2_step_99 (by decide) ?_
            exact J_169 j21_F0_4 256 v0_7 v0_9 v0_10 hj21_F0_4 (iR_c (n := 256) (a := 0) (b := 324) (by decide +kernel) (by decide +kernel)) (iR_w f_8_1 (by decide +kernel)) (fun h => h) (Or.inl c_4) H locs ls hP hD hS (lv_sub hl [0, 1, 2] rfl)
        refine lv_icmp_ge (tgt := 73) hx hb dX2_step_29 (by decide) (fun c_29 => ?_) (fun c_29 => ?_)
        · have c_29 : v0_3 ≤ j21_F0_4 := c_29
          exact J_73   H locs ls hP hD hS (lv_sub hl [0, 1, 2] rfl)
        · have c_29 : j21_F0_4 < v0_3 := i_nle c_29
          have f_32_1 : iR j21_F0_4 0 1599 := iR_ltL c_29 hj21_F0_4 hv0_3 (by decide +kernel)
          have f_32_2 : iR v0_3 1 1600 := iR_ltR c_29 hj21_F0_4 hv0_3 (by decide +kernel)
          refine lv_aload_n hx hb dX2_step_32 rfl (lv_at hl 0 rfl) ?_
          refine k_get (D := (dC, dI)) (ci := 2) (v := .ref a0_0) (C := RX2) (T := TX2) (N := 11) hx hb hts hinX2 hown hK hP 0 rfl rfl 0 (by decide) w_5 rfl rfl dX2_step_33 ?_
          refine lv_aload_n hx hb dX2_step_36 rfl (lv_at hl 0 rfl) ?_
          refine k_get (D := (dC, dI)) (ci := 2) (v := .int j21_F0_4) (C := RX2) (T := TX2) (N := 11) hx hb hts hinX2 hown hK hP 0 rfl rfl 4 (by decide) w_1 rfl rfl dX2_step_37 ?_
          refine va_iald hx hb hK hP 1 0 rfl rfl (iR_vp f_32_1 (by decide +kernel)) dX2_step_40 ?_
          have f_40_3 : iR (f0_0 j21_F0_4.toNatClampNeg) 0 255 := hf0_0 _
          refine lv_bipush (v := 32) hx hb dX2_step_41 (by decide +kernel) ?_
          have J_60 : ∀  (k60_0 : iR (f0_0 j21_F0_4.toNatClampNeg) 10 32) (H : Heap) (locs : List Loc) (ls : Array Slot), va_P (dC, dI) vwCl [(a0, .inr (2, [.ref a0_0, .ref a0_1, .ref a0_2, .int v0_3, .int j21_F0_4, .int v0_5, .int v0_6, .int v0_7, .int 5, .int v0_9, .int v0_10])), (a0_0, .inl (cI, 1600, .inl f0_0)), (a0_1, .inl (cJ, 25, .inr (.inl g0_1)))] H → va_D A [(a0, .inr (2, [.ref a0_0, .ref a0_1, .ref a0_2, .int v0_3, .int j21_F0_4, .int v0_5, .int v0_6, .int v0_7, .int 5, .int v0_9, .int v0_10])), (a0_0, .inl (cI, 1600, .inl f0_0)), (a0_1, .inl (cJ, 25, .inr (.inl g0_1)))] → va_S A s.heap H locs → lv_has ls 3 [(0, .ref a0), (1, .int v0_4), (2, .int r_17)] → W p l e ({ frames := 3, cells := 0, slots := 0, locals := 89 }) s m args below meth c H locs 0 0 (MQ below (va_Qv (fun (u9 : SU) => (iR (u9.1 0) 0 1600) ∧ (iR (u9.1 1) 0 1600) ∧ (iR (u9.1 2) 0 324) ∧ (iR (u9.1 4) 0 6) ∧ ((0 : Int32) < v0_9 → (0 : Int32) < (u9.1 4)) ∧ (((u9.1 4) = 0) ∨ (((u9.1 2) = 259)))) (fun u => k_B (dC, dI) vwCl (tyy cI cJ cZ cM) A ((fun (u9 : SU) => [(a0, .inr (2, [.ref a0_0, .ref a0_1, .ref a0_2, .int v0_3, .int (u9.1 0), .int (u9.1 1), .int (u9.1 2), .int (u9.1 3), .int 5, .int (u9.1 4), .int (u9.1 5)])), (a0_0, .inl (cI, 1600, .inl f0_0)), (a0_1, .inl (cJ, 25, .inr (.inl g0_1)))]) u)) A) args s 0 0 A) (F0 m 60 ls []) := by
            intro  k60_0 H locs ls hP hD hS hl
            refine lv_aload_n hx hb dX2_step_60 rfl (lv_at hl 0 rfl) ?_
            refine lv_dup hx hb dX2_step_61 rfl ?_
            refine k_get (D := (dC, dI)) (ci := 2) (v := .int j21_F0_4) (C := RX2) (T := TX2) (N := 11) hx hb hts hinX2 hown hK hP 0 rfl rfl 4 (by decide) w_1 rfl rfl dX2_step_62 ?_
            refine lv_iconst (v := 1) hx hb dX2_step_65 (by decide +kernel) ?_
            refine lv_iadd hx hb dX2_step_66 ?_
            refine lv_topi (fun y_66 ey_66 => ?_)
            have f_66_1 : iR y_66 1 1600 := iR_add ey_66 f_32_1 (iR_c (n := 1) (a := 1) (b := 1) (by decide +kernel) (by decide +kernel)) (by decide +kernel)
            refine k_put (D := (dC, dI)) (ci := 2) (v := .int y_66) (C := RX2) (T := TX2) (N := 11) (ws' := [(a0, .inr (2, [.ref a0_0, .ref a0_1, .ref a0_2, .int v0_3, .int y_66, .int v0_5, .int v0_6, .int v0_7, .int 5, .int v0_9, .int v0_10])), (a0_0, .inl (cI, 1600, .inl f0_0)), (a0_1, .inl (cJ, 25, .inr (.inl g0_1)))]) hx hb hts hinX2 tyX2 tyX2_ok nmX2 hown hK hP hD hS 0 rfl rfl 4 (by decide) w_1 rfl rfl rfl rfl (Nat.le_of_ble_eq_true rfl) rfl dX2_step_67 (fun H locs hP hD hS => ?_)
            refine lv_goto (tgt := 21) hx hb dX2_step_70 (by decide) ?_
            exact ih_21 y_66 (iR_w f_66_1 (by decide +kernel)) (m_up (B := 1600) hm_21 ey_66 f_32_1 (by decide +kernel)) H locs ls hP hD hS (lv_sub hl [0, 1, 2] rfl)
          refine lv_icmp_eq (tgt := 60) hx hb dX2_step_43 (by decide) (fun c_43 => ?_) (fun c_43 => ?_)
          · have c_43 : (f0_0 j21_F0_4.toNatClampNeg) = 32 := c_43
            have f_60_4 : iR (f0_0 j21_F0_4.toNatClampNeg) 32 32 := iR_eqL c_43 f_40_3 (iR_c (n := 32) (a := 32) (b := 32) (by decide +kernel) (by decide +kernel)) (by decide +kernel)
            exact J_60  (iR_w f_60_4 (by decide +kernel)) H locs ls hP hD hS (lv_sub hl [0, 1, 2] rfl)
          · have c_43 : ¬ (f0_0 j21_F0_4.toNatClampNeg) = 32 := c_43
            refine lv_aload_n hx hb dX2_step_46 rfl (lv_at hl 0 rfl) ?_
            refine k_get (D := (dC, dI)) (ci := 2) (v := .ref a0_0) (C := RX2) (T := TX2) (N := 11) hx hb hts hinX2 hown hK hP 0 rfl rfl 0 (by decide) w_5 rfl rfl dX2_step_47 ?_
            refine lv_aload_n hx hb dX2_step_50 rfl (lv_at hl 0 rfl) ?_
            refine k_get (D := (dC, dI)) (ci := 2) (v := .int j21_F0_4) (C := RX2) (T := TX2) (N := 11) hx hb hts hinX2 hown hK hP 0 rfl rfl 4 (by decide) w_1 rfl rfl dX2_step_51 ?_
            refine va_iald hx hb hK hP 1 0 rfl rfl (iR_vp f_32_1 (by decide +kernel)) dX2_step_54 ?_
            refine lv_bipush (v := 10) hx hb dX2_step_55 (by decide +kernel) ?_
            refine lv_icmp_ne (tgt := 73) hx hb dX2_step_57 (by decide) (fun c_57 => ?_) (fun c_57 => ?_)
            · have c_57 : ¬ (f0_0 j21_F0_4.toNatClampNeg) = 10 := c_57
              exact J_73   H locs ls hP hD hS (lv_sub hl [0, 1, 2] rfl)
            · have c_57 : (f0_0 j21_F0_4.toNatClampNeg) = 10 := c_57
              have f_60_4 : iR (f0_0 j21_F0_4.toNatClampNeg) 10 10 := iR_eqL c_57 f_40_3 (iR_c (n := 10) (a := 10) (b := 10) (by decide +kernel) (by decide +kernel)) (by decide +kernel)
              exact J_60  (iR_w f_60_4 (by decide +kernel)) H locs ls hP hD hS (lv_sub hl [0, 1, 2] rfl)
    refine lv_istore_n (lv' := [(2, .int r_17), (1, .int v0_4), (0, .ref a0)]) hx hb dX2_step_20 rfl hl (by decide) rfl (fun ls hl => ?_)
    exact J_21 _ v0_4 hv0_4 (Nat.lt_succ_self _) H locs ls hP hD hS (lv_sub hl [2, 1, 0] rfl)
  · have c_4 : ¬ v0_9 = 0 := c_4
    have f_7_1 : iR v0_9 1 6 := iR_neL c_4 hv0_9 (iR_c (n := 0) (a := 0) (b := 0) (by decide +kernel) (by decide +kernel)) (by decide +kernel)
    obtain d_4_1_0 := hpg0.resolve_left c_4
    have f_7_2 : iR v0_6 259 259 := iR_eqL d_4_1_0 hv0_6 (iR_c (n := 259) (a := 259) (b := 259) (by decide +kernel) (by decide +kernel)) (by decide +kernel)
    exact k_rv B hP hD hS dX2_step_7 ((fun k9 => match k9 with | 0 => v0_4 | 1 => v0_5 | 2 => v0_6 | 3 => v0_7 | 4 => v0_9 | 5 => v0_10 | _ => 0), (fun _ => 0), (fun _ => (fun _ => 0)), (fun _ => (fun _ => 0)), (fun _ => 0)) [0, 1, 2] rfl rfl (Nat.le_of_ble_eq_true rfl) (Nat.le_of_ble_eq_true rfl) ⟨(show iR v0_4 0 1600 from hv0_4), (show iR v0_5 0 1600 from hv0_5), (show iR v0_6 0 324 from (iR_w f_7_2 (by decide +kernel))), (show iR v0_9 0 6 from (iR_w f_7_1 (by decide +kernel))), (show (0 : Int32) < v0_9 → (0 : Int32) < v0_9 from (fun h => h)), (show (v0_9 = 0) ∨ ((v0_6 = 259)) from (Or.inr d_4_1_0))⟩
set_option maxHeartbeats 8000000 in
set_option maxRecDepth 100000 in
theorem s_X2_step_v11 (l : Launch) (dC : Nat → ClassId) (dI : Nat → Nat → Nat) (cI cJ cZ cM : ClassId) (a0 : Nat) (a0_0 : Nat) (f0_0 : Nat → Int32) (a0_1 : Nat) (g0_1 : Nat → Int64) (b0_2 : Nat) (v0_3 : Int32) (v0_4 : Int32) (v0_5 : Int32) (v0_6 : Int32) (v0_7 : Int32) (v0_9 : Int32) (v0_10 : Int32) (hv0_3 : iR v0_3 0 1600) (hv0_4 : iR v0_4 0 1600) (hv0_5 : iR v0_5 0 1600) (hv0_6 : iR v0_6 0 324) (hv0_9 : iR v0_9 0 6) (hf0_0 : aR f0_0 0 255) (hpg0 : (v0_9 = 0) ∨ ((v0_6 = 259))) : k_Mv l yX2_step wsX2_step ({ frames := 3, cells := 0, slots := 0, locals := 89 }) (dC, dI) vwCl (tyy cI cJ cZ cM) [(a0, .inr (2, [.ref a0_0, .ref a0_1, .ref b0_2, .int v0_3, .int v0_4, .int v0_5, .int v0_6, .int v0_7, .int 5, .int v0_9, .int v0_10])), (a0_0, .inl (cI, 1600, .inl f0_0)), (a0_1, .inl (cJ, 25, .inr (.inl g0_1)))] [.ref a0] 0 0 (fun (u9 : SU) => [(a0, .inr (2, [.ref a0_0, .ref a0_1, .ref b0_2, .int v0_3, .int (u9.1 0), .int (u9.1 1), .int (u9.1 2), .int (u9.1 3), .int 5, .int (u9.1 4), .int (u9.1 5)])), (a0_0, .inl (cI, 1600, .inl f0_0)), (a0_1, .inl (cJ, 25, .inr (.inl g0_1)))]) (fun (u9 : SU) => (iR (u9.1 0) 0 1600) ∧ (iR (u9.1 1) 0 1600) ∧ (iR (u9.1 2) 0 324) ∧ (iR (u9.1 4) 0 6) ∧ ((0 : Int32) < v0_9 → (0 : Int32) < (u9.1 4)) ∧ (((u9.1 4) = 0) ∨ (((u9.1 2) = 259)))) := by
  refine fun sz => k_enter (cc := cX2_step) (maxL := 3) (ret := none) (Qc := fun A => va_Qv (fun (u9 : SU) => (iR (u9.1 0) 0 1600) ∧ (iR (u9.1 1) 0 1600) ∧ (iR (u9.1 2) 0 324) ∧ (iR (u9.1 4) 0 6) ∧ ((0 : Int32) < v0_9 → (0 : Int32) < (u9.1 4)) ∧ (((u9.1 4) = 0) ∨ (((u9.1 2) = 259)))) (fun u => k_B (dC, dI) vwCl (tyy cI cJ cZ cM) A ((fun (u9 : SU) => [(a0, .inr (2, [.ref a0_0, .ref a0_1, .ref b0_2, .int v0_3, .int (u9.1 0), .int (u9.1 1), .int (u9.1 2), .int (u9.1 3), .int 5, .int (u9.1 4), .int (u9.1 5)])), (a0_0, .inl (cI, 1600, .inl f0_0)), (a0_1, .inl (cJ, 25, .inr (.inl g0_1)))]) u)) A) sz (by decide +kernel) rfl (Nat.le_of_ble_eq_true rfl) (fun p e s m args below meth c A ls H locs B hP hD hS hl => ?_)
  obtain ⟨hx, hb, hml, hown, hts, hr, hlk, hnm, hK, hA, hN, hC⟩ := id B
  have hown : s.vm.findClass RX2 = some m.cls := hown
  have hl : lv_has ls 3 [(0, .ref a0)] := hl
  have w_0 : (Cond.fieldLink RX2 63 "WishSea$Reader" "fault" "I").before args s = true := hts _ (List.mem_of_getElem? (i := 1) rfl)
  have w_1 : (Cond.fieldLink RX2 57 "WishSea$Reader" "position" "I").before args s = true := hts _ (List.mem_of_getElem? (i := 2) rfl)
  have w_2 : (Cond.fieldLink RX2 15 "WishSea$Reader" "token" "I").before args s = true := hts _ (List.mem_of_getElem? (i := 3) rfl)
  have w_3 : (Cond.fieldLink RX2 55 "WishSea$Reader" "length" "I").before args s = true := hts _ (List.mem_of_getElem? (i := 4) rfl)
  have w_4 : (Cond.fieldLink RX2 73 "WishSea$Reader" "start" "I").before args s = true := hts _ (List.mem_of_getElem? (i := 6) rfl)
  have w_5 : (Cond.fieldLink RX2 22 "WishSea$Reader" "text" "[I").before args s = true := hts _ (List.mem_of_getElem? (i := 5) rfl)
  have hinX2 : ∀ w ∈ u_ws RX2 TX2 11, w ∈ wsX2_step := fun _ h => List.mem_cons_of_mem _ (List.mem_append_right _ h)
  refine lv_aload_n hx hb dX2_step_0 rfl (lv_at hl 0 rfl) ?_
  refine k_get (D := (dC, dI)) (ci := 2) (v := .int v0_9) (C := RX2) (T := TX2) (N := 11) hx hb hts hinX2 hown hK hP 0 rfl rfl 9 (by decide) w_0 rfl rfl dX2_step_1 ?_
  refine lv_if_eq (tgt := 8) hx hb dX2_step_4 (by decide) (fun c_4 => ?_) (fun c_4 => ?_)
  · have c_4 : v0_9 = 0 := c_4
    have f_8_1 : iR v0_9 0 0 := iR_eqL c_4 hv0_9 (iR_c (n := 0) (a := 0) (b := 0) (by decide +kernel) (by decide +kernel)) (by decide +kernel)
    refine lv_aload_n hx hb dX2_step_8 rfl (lv_at hl 0 rfl) ?_
    refine k_get (D := (dC, dI)) (ci := 2) (v := .int v0_4) (C := RX2) (T := TX2) (N := 11) hx hb hts hinX2 hown hK hP 0 rfl rfl 4 (by decide) w_1 rfl rfl dX2_step_9 ?_
    refine lv_istore_n (lv' := [(1, .int v0_4), (0, .ref a0)]) hx hb dX2_step_12 rfl hl (by decide) rfl (fun ls hl => ?_)
    refine lv_aload_n hx hb dX2_step_13 rfl (lv_at hl 1 rfl) ?_
    refine k_get (D := (dC, dI)) (ci := 2) (v := .int v0_6) (C := RX2) (T := TX2) (N := 11) hx hb hts hinX2 hown hK hP 0 rfl rfl 6 (by decide) w_2 rfl rfl dX2_step_14 ?_
    refine k_ci (wc := []) (wr := [(a0, .inr (2, [.ref a0_0, .ref a0_1, .ref b0_2, .int v0_3, .int v0_4, .int v0_5, .int v0_6, .int v0_7, .int 5, .int v0_9, .int v0_10])), (a0_0, .inl (cI, 1600, .inl f0_0)), (a0_1, .inl (cJ, 25, .inr (.inl g0_1)))]) (fun hPc hDc hFc => va_runS (As := [.int v0_6]) (rest := []) ⟨hx, hb, hml, hown, hts⟩ (s_X2_isWhole_v0 l dC dI cI cJ cZ cM v0_6 H.size) (va_cwS 1 hts gX2_step_X2_isWhole rfl rfl rfl (by decide +kernel) ⟨(Nat.le_of_ble_eq_true rfl), (Nat.le_of_ble_eq_true rfl)⟩) (k_pS hPc hDc hK hN hC hS hFc) rfl rfl hl.1 rfl (lv_room (Nat.le_of_ble_eq_true rfl)) dX2_step_17 ⟨(Nat.le_of_ble_eq_true rfl), (Nat.le_of_ble_eq_true rfl)⟩) hP hD hS hA [] [0, 1, 2] rfl rfl rfl rfl (by decide) (fun _ => rfl) 0 0 rfl rfl (fun r_17 u_17 H locs hw hP hD hS => ?_)
    have g_17_0 := hw
    have hP : va_P (dC, dI) vwCl [(a0, .inr (2, [.ref a0_0, .ref a0_1, .ref b0_2, .int v0_3, .int v0_4, .int v0_5, .int v0_6, .int v0_7, .int 5, .int v0_9, .int v0_10])), (a0_0, .inl (cI, 1600, .inl f0_0)), (a0_1, .inl (cJ, 25, .inr (.inl g0_1)))] H := hP
    have hD : va_D A [(a0, .inr (2, [.ref a0_0, .ref a0_1, .ref b0_2, .int v0_3, .int v0_4, .int v0_5, .int v0_6, .int v0_7, .int 5, .int v0_9, .int v0_10])), (a0_0, .inl (cI, 1600, .inl f0_0)), (a0_1, .inl (cJ, 25, .inr (.inl g0_1)))] := hD
    have J_21 : ∀ (n_21 : Nat) (j21_F0_4 : Int32) (hj21_F0_4 : iR j21_F0_4 0 1600) (hm_21 : (1600 - j21_F0_4.toInt).toNat < n_21) (H : Heap) (locs : List Loc) (ls : Array Slot), va_P (dC, dI) vwCl [(a0, .inr (2, [.ref a0_0, .ref a0_1, .ref b0_2, .int v0_3, .int j21_F0_4, .int v0_5, .int v0_6, .int v0_7, .int 5, .int v0_9, .int v0_10])), (a0_0, .inl (cI, 1600, .inl f0_0)), (a0_1, .inl (cJ, 25, .inr (.inl g0_1)))] H → va_D A [(a0, .inr (2, [.ref a0_0, .ref a0_1, .ref b0_2, .int v0_3, .int j21_F0_4, .int v0_5, .int v0_6, .int v0_7, .int 5, .int v0_9, .int v0_10])), (a0_0, .inl (cI, 1600, .inl f0_0)), (a0_1, .inl (cJ, 25, .inr (.inl g0_1)))] → va_S A s.heap H locs → lv_has ls 3 [(0, .ref a0), (1, .int v0_4), (2, .int r_17)] → W p l e ({ frames := 3, cells := 0, slots := 0, locals := 89 }) s m args below meth c H locs 0 0 (MQ below (va_Qv (fun (u9 : SU) => (iR (u9.1 0) 0 1600) ∧ (iR (u9.1 1) 0 1600) ∧ (iR (u9.1 2) 0 324) ∧ (iR (u9.1 4) 0 6) ∧ ((0 : Int32) < v0_9 → (0 : Int32) < (u9.1 4)) ∧ (((u9.1 4) = 0) ∨ (((u9.1 2) = 259)))) (fun u => k_B (dC, dI) vwCl (tyy cI cJ cZ cM) A ((fun (u9 : SU) => [(a0, .inr (2, [.ref a0_0, .ref a0_1, .ref b0_2, .int v0_3, .int (u9.1 0), .int (u9.1 1), .int (u9.1 2), .int (u9.1 3), .int 5, .int (u9.1 4), .int (u9.1 5)])), (a0_0, .inl (cI, 1600, .inl f0_0)), (a0_1, .inl (cJ, 25, .inr (.inl g0_1)))]) u)) A) args s 0 0 A) (F0 m 21 ls []) := by
      intro n_21
      induction n_21 with
      | zero => intro j21_F0_4 hj21_F0_4 hm_21; exact absurd hm_21 (Nat.not_lt_zero _)
      | succ n_21 ih_21 =>
        intro j21_F0_4 hj21_F0_4 hm_21 H locs ls hP hD hS hl
        refine lv_aload_n hx hb dX2_step_21 rfl (lv_at hl 0 rfl) ?_
        refine k_get (D := (dC, dI)) (ci := 2) (v := .int j21_F0_4) (C := RX2) (T := TX2) (N := 11) hx hb hts hinX2 hown hK hP 0 rfl rfl 4 (by decide) w_1 rfl rfl dX2_step_22 ?_
        refine lv_aload_n hx hb dX2_step_25 rfl (lv_at hl 0 rfl) ?_
        refine k_get (D := (dC, dI)) (ci := 2) (v := .int v0_3) (C := RX2) (T := TX2) (N := 11) hx hb hts hinX2 hown hK hP 0 rfl rfl 3 (by decide) w_3 rfl rfl dX2_step_26 ?_
        have J_73 : ∀   (H : Heap) (locs : List Loc) (ls : Array Slot), va_P (dC, dI) vwCl [(a0, .inr (2, [.ref a0_0, .ref a0_1, .ref b0_2, .int v0_3, .int j21_F0_4, .int v0_5, .int v0_6, .int v0_7, .int 5, .int v0_9, .int v0_10])), (a0_0, .inl (cI, 1600, .inl f0_0)), (a0_1, .inl (cJ, 25, .inr (.inl g0_1)))] H → va_D A [(a0, .inr (2, [.ref a0_0, .ref a0_1, .ref b0_2, .int v0_3, .int j21_F0_4, .int v0_5, .int v0_6, .int v0_7, .int 5, .int v0_9, .int v0_10])), (a0_0, .inl (cI, 1600, .inl f0_0)), (a0_1, .inl (cJ, 25, .inr (.inl g0_1)))] → va_S A s.heap H locs → lv_has ls 3 [(0, .ref a0), (1, .int v0_4), (2, .int r_17)] → W p l e ({ frames := 3, cells := 0, slots := 0, locals := 89 }) s m args below meth c H locs 0 0 (MQ below (va_Qv (fun (u9 : SU) => (iR (u9.1 0) 0 1600) ∧ (iR (u9.1 1) 0 1600) ∧ (iR (u9.1 2) 0 324) ∧ (iR (u9.1 4) 0 6) ∧ ((0 : Int32) < v0_9 → (0 : Int32) < (u9.1 4)) ∧ (((u9.1 4) = 0) ∨ (((u9.1 2) = 259)))) (fun u => k_B (dC, dI) vwCl (tyy cI cJ cZ cM) A ((fun (u9 : SU) => [(a0, .inr (2, [.ref a0_0, .ref a0_1, .ref b0_2, .int v0_3, .int (u9.1 0), .int (u9.1 1), .int (u9.1 2), .int (u9.1 3), .int 5, .int (u9.1 4), .int (u9.1 5)])), (a0_0, .inl (cI, 1600, .inl f0_0)), (a0_1, .inl (cJ, 25, .inr (.inl g0_1)))]) u)) A) args s 0 0 A) (F0 m 73 ls []) := by
          intro   H locs ls hP hD hS hl
          refine lv_aload_n hx hb dX2_step_73 rfl (lv_at hl 0 rfl) ?_
          refine lv_aload_n hx hb dX2_step_74 rfl (lv_at hl 0 rfl) ?_
          refine k_get (D := (dC, dI)) (ci := 2) (v := .int j21_F0_4) (C := RX2) (T := TX2) (N := 11) hx hb hts hinX2 hown hK hP 0 rfl rfl 4 (by decide) w_1 rfl rfl dX2_step_75 ?_
          refine k_put (D := (dC, dI)) (ci := 2) (v := .int j21_F0_4) (C := RX2) (T := TX2) (N := 11) (ws' := [(a0, .inr (2, [.ref a0_0, .ref a0_1, .ref b0_2, .int v0_3, .int j21_F0_4, .int j21_F0_4, .int v0_6, .int v0_7, .int 5, .int v0_9, .int v0_10])), (a0_0, .inl (cI, 1600, .inl f0_0)), (a0_1, .inl (cJ, 25, .inr (.inl g0_1)))]) hx hb hts hinX2 tyX2 tyX2_ok nmX2 hown hK hP hD hS 0 rfl rfl 5 (by decide) w_4 rfl rfl rfl rfl (Nat.le_of_ble_eq_true rfl) rfl dX2_step_78 (fun H locs hP hD hS => ?_)
          refine lv_aload_n hx hb dX2_step_81 rfl (lv_at hl 0 rfl) ?_
          refine k_get (D := (dC, dI)) (ci := 2) (v := .int j21_F0_4) (C := RX2) (T := TX2) (N := 11) hx hb hts hinX2 hown hK hP 0 rfl rfl 4 (by decide) w_1 rfl rfl dX2_step_82 ?_
          refine lv_aload_n hx hb dX2_step_85 rfl (lv_at hl 0 rfl) ?_
          refine k_get (D := (dC, dI)) (ci := 2) (v := .int v0_3) (C := RX2) (T := TX2) (N := 11) hx hb hts hinX2 hown hK hP 0 rfl rfl 3 (by decide) w_3 rfl rfl dX2_step_86 ?_
          have J_169 : ∀ (j169_F0_4 : Int32) (j169_F0_6 : Int32) (j169_F0_7 : Int32) (j169_F0_9 : Int32) (j169_F0_10 : Int32) (hj169_F0_4 : iR j169_F0_4 0 1600) (hj169_F0_6 : iR j169_F0_6 0 324) (hj169_F0_9 : iR j169_F0_9 0 6) (t169_xf : (0 : Int32) < v0_9 → (0 : Int32) < j169_F0_9) (w169_0 : (j169_F0_9 = 0) ∨ ((j169_F0_6 = 259))) (H : Heap) (locs : List Loc) (ls : Array Slot), va_P (dC, dI) vwCl [(a0, .inr (2, [.ref a0_0, .ref a0_1, .ref b0_2, .int v0_3, .int j169_F0_4, .int j21_F0_4, .int j169_F0_6, .int j169_F0_7, .int 5, .int j169_F0_9, .int j169_F0_10])), (a0_0, .inl (cI, 1600, .inl f0_0)), (a0_1, .inl (cJ, 25, .inr (.inl g0_1)))] H → va_D A [(a0, .inr (2, [.ref a0_0, .ref a0_1, .ref b0_2, .int v0_3, .int j169_F0_4, .int j21_F0_4, .int j169_F0_6, .int j169_F0_7, .int 5, .int j169_F0_9, .int j169_F0_10])), (a0_0, .inl (cI, 1600, .inl f0_0)), (a0_1, .inl (cJ, 25, .inr (.inl g0_1)))] → va_S A s.heap H locs → lv_has ls 3 [(0, .ref a0), (1, .int v0_4), (2, .int r_17)] → W p l e ({ frames := 3, cells := 0, slots := 0, locals := 89 }) s m args below meth c H locs 0 0 (MQ below (va_Qv (fun (u9 : SU) => (iR (u9.1 0) 0 1600) ∧ (iR (u9.1 1) 0 1600) ∧ (iR (u9.1 2) 0 324) ∧ (iR (u9.1 4) 0 6) ∧ ((0 : Int32) < v0_9 → (0 : Int32) < (u9.1 4)) ∧ (((u9.1 4) = 0) ∨ (((u9.1 2) = 259)))) (fun u => k_B (dC, dI) vwCl (tyy cI cJ cZ cM) A ((fun (u9 : SU) => [(a0, .inr (2, [.ref a0_0, .ref a0_1, .ref b0_2, .int v0_3, .int (u9.1 0), .int (u9.1 1), .int (u9.1 2), .int (u9.1 3), .int 5, .int (u9.1 4), .int (u9.1 5)])), (a0_0, .inl (cI, 1600, .inl f0_0)), (a0_1, .inl (cJ, 25, .inr (.inl g0_1)))]) u)) A) args s 0 0 A) (F0 m 169 ls []) := by
            intro j169_F0_4 j169_F0_6 j169_F0_7 j169_F0_9 j169_F0_10 hj169_F0_4 hj169_F0_6 hj169_F0_9 t169_xf w169_0 H locs ls hP hD hS hl
            refine lv_iload_n hx hb dX2_step_169 rfl (lv_at hl 2 rfl) ?_
            refine lv_if_eq (tgt := 200) hx hb dX2_step_170 (by decide) (fun c_170 => ?_) (fun c_170 => ?_)
            · have c_170 : r_17 = 0 := c_170
              have f_200_1 : iR r_17 0 0 := iR_eqL c_170 g_17_0 (iR_c (n := 0) (a := 0) (b := 0) (by decide +kernel) (by decide +kernel)) (by decide +kernel)
              exact k_rv B hP hD hS dX2_step_200 ((fun k9 => match k9 with | 0 => j169_F0_4 | 1 => j21_F0_4 | 2 => j169_F0_6 | 3 => j169_F0_7 | 4 => j169_F0_9 | 5 => j169_F0_10 | _ => 0), (fun _ => 0), (fun _ => (fun _ => 0)), (fun _ => (fun _ => 0)), (fun _ => 0)) [0, 1, 2] rfl rfl (Nat.le_of_ble_eq_true rfl) (Nat.le_of_ble_eq_true rfl) ⟨(show iR j169_F0_4 0 1600 from hj169_F0_4), (show iR j21_F0_4 0 1600 from hj21_F0_4), (show iR j169_F0_6 0 324 from hj169_F0_6), (show iR j169_F0_9 0 6 from hj169_F0_9), (show (0 : Int32) < v0_9 → (0 : Int32) < j169_F0_9 from t169_xf), (show (j169_F0_9 = 0) ∨ ((j169_F0_6 = 259)) from w169_0)⟩
            · have c_170 : ¬ r_17 = 0 := c_170
              have f_173_1 : iR r_17 1 1 := iR_neL c_170 g_17_0 (iR_c (n := 0) (a := 0) (b := 0) (by decide +kernel) (by decide +kernel)) (by decide +kernel)
              refine lv_aload_n hx hb dX2_step_173 rfl (lv_at hl 0 rfl) ?_
              refine k_get (D := (dC, dI)) (ci := 2) (v := .int j21_F0_4) (C := RX2) (T := TX2) (N := 11) hx hb hts hinX2 hown hK hP 0 rfl rfl 5 (by decide) w_4 rfl rfl dX2_step_174 ?_
              refine lv_iload_n hx hb dX2_step_177 rfl (lv_at hl 1 rfl) ?_
              refine lv_icmp_ne (tgt := 200) hx hb dX2_step_178 (by decide) (fun c_178 => ?_) (fun c_178 => ?_)
              · have c_178 : ¬ j21_F0_4 = v0_4 := c_178
                exact k_rv B hP hD hS dX2_step_200 ((fun k9 => match k9 with | 0 => j169_F0_4 | 1 => j21_F0_4 | 2 => j169_F0_6 | 3 => j169_F0_7 | 4 => j169_F0_9 | 5 => j169_F0_10 | _ => 0), (fun _ => 0), (fun _ => (fun _ => 0)), (fun _ => (fun _ => 0)), (fun _ => 0)) [0, 1, 2] rfl rfl (Nat.le_of_ble_eq_true rfl) (Nat.le_of_ble_eq_true rfl) ⟨(show iR j169_F0_4 0 1600 from hj169_F0_4), (show iR j21_F0_4 0 1600 from hj21_F0_4), (show iR j169_F0_6 0 324 from hj169_F0_6), (show iR j169_F0_9 0 6 from hj169_F0_9), (show (0 : Int32) < v0_9 → (0 : Int32) < j169_F0_9 from t169_xf), (show (j169_F0_9 = 0) ∨ ((j169_F0_6 = 259)) from w169_0)⟩
              · have c_178 : j21_F0_4 = v0_4 := c_178
                refine lv_aload_n hx hb dX2_step_181 rfl (lv_at hl 0 rfl) ?_
                refine k_get (D := (dC, dI)) (ci := 2) (v := .int j169_F0_6) (C := RX2) (T := TX2) (N := 11) hx hb hts hinX2 hown hK hP 0 rfl rfl 6 (by decide) w_2 rfl rfl dX2_step_182 ?_
                refine k_ci (wc := []) (wr := [(a0, .inr (2, [.ref a0_0, .ref a0_1, .ref b0_2, .int v0_3, .int j169_F0_4, .int j21_F0_4, .int j169_F0_6, .int j169_F0_7, .int 5, .int j169_F0_9, .int j169_F0_10])), (a0_0, .inl (cI, 1600, .inl f0_0)), (a0_1, .inl (cJ, 25, .inr (.inl g0_1)))]) (fun hPc hDc hFc => va_runS (As := [.int j169_F0_6]) (rest := []) ⟨hx, hb, hml, hown, hts⟩ (s_X2_isWhole_v0 l dC dI cI cJ cZ cM j169_F0_6 H.size) (va_cwS 1 hts gX2_step_X2_isWhole rfl rfl rfl (by decide +kernel) ⟨(Nat.le_of_ble_eq_true rfl), (Nat.le_of_ble_eq_true rfl)⟩) (k_pS hPc hDc hK hN hC hS hFc) rfl rfl hl.1 rfl (lv_room (Nat.le_of_ble_eq_true rfl)) dX2_step_185 ⟨(Nat.le_of_ble_eq_true rfl), (Nat.le_of_ble_eq_true rfl)⟩) hP hD hS hA [] [0, 1, 2] rfl rfl rfl rfl (by decide) (fun _ => rfl) 0 0 rfl rfl (fun r_185 u_185 H locs hw hP hD hS => ?_)
                have g_185_0 := hw
                have hP : va_P (dC, dI) vwCl [(a0, .inr (2, [.ref a0_0, .ref a0_1, .ref b0_2, .int v0_3, .int j169_F0_4, .int j21_F0_4, .int j169_F0_6, .int j169_F0_7, .int 5, .int j169_F0_9, .int j169_F0_10])), (a0_0, .inl (cI, 1600, .inl f0_0)), (a0_1, .inl (cJ, 25, .inr (.inl g0_1)))] H := hP
                have hD : va_D A [(a0, .inr (2, [.ref a0_0, .ref a0_1, .ref b0_2, .int v0_3, .int j169_F0_4, .int j21_F0_4, .int j169_F0_6, .int j169_F0_7, .int 5, .int j169_F0_9, .int j169_F0_10])), (a0_0, .inl (cI, 1600, .inl f0_0)), (a0_1, .inl (cJ, 25, .inr (.inl g0_1)))] := hD
                refine lv_if_eq (tgt := 200) hx hb dX2_step_188 (by decide) (fun c_188 => ?_) (fun c_188 => ?_)
                · have c_188 : r_185 = 0 := c_188
                  have f_200_2 : iR r_185 0 0 := iR_eqL c_188 g_185_0 (iR_c (n := 0) (a := 0) (b := 0) (by decide +kernel) (by decide +kernel)) (by decide +kernel)
                  exact k_rv B hP hD hS dX2_step_200 ((fun k9 => match k9 with | 0 => j169_F0_4 | 1 => j21_F0_4 | 2 => j169_F0_6 | 3 => j169_F0_7 | 4 => j169_F0_9 | 5 => j169_F0_10 | _ => 0), (fun _ => 0), (fun _ => (fun _ => 0)), (fun _ => (fun _ => 0)), (fun _ => 0)) [0, 1, 2] rfl rfl (Nat.le_of_ble_eq_true rfl) (Nat.le_of_ble_eq_true rfl) ⟨(show iR j169_F0_4 0 1600 from hj169_F0_4), (show iR j21_F0_4 0 1600 from hj21_F0_4), (show iR j169_F0_6 0 324 from hj169_F0_6), (show iR j169_F0_9 0 6 from hj169_F0_9), (show (0 : Int32) < v0_9 → (0 : Int32) < j169_F0_9 from t169_xf), (show (j169_F0_9 = 0) ∨ ((j169_F0_6 = 259)) from w169_0)⟩
                · have c_188 : ¬ r_185 = 0 := c_188
                  have f_191_2 : iR r_185 1 1 := iR_neL c_188 g_185_0 (iR_c (n := 0) (a := 0) (b := 0) (by decide +kernel) (by decide +kernel)) (by decide +kernel)
                  refine lv_aload_n hx hb dX2_step_191 rfl (lv_at hl 0 rfl) ?_
                  refine lv_iconst (v := 1) hx hb dX2_step_192 (by decide +kernel) ?_
                  refine lv_aload_n hx hb dX2_step_193 rfl (lv_at hl 0 rfl) ?_
                  refine k_get (D := (dC, dI)) (ci := 2) (v := .int j21_F0_4) (C := RX2) (T := TX2) (N := 11) hx hb hts hinX2 hown hK hP 0 rfl rfl 5 (by decide) w_4 rfl rfl dX2_step_194 ?_
                  refine k_cv (wc := [(a0, .inr (2, [.ref a0_0, .ref a0_1, .ref b0_2, .int v0_3, .int j169_F0_4, .int j21_F0_4, .int j169_F0_6, .int j169_F0_7, .int 5, .int j169_F0_9, .int j169_F0_10]))]) (wr := [(a0_0, .inl (cI, 1600, .inl f0_0)), (a0_1, .inl (cJ, 25, .inr (.inl g0_1)))]) (fun hPc hDc hFc => va_runV (As := [.int 1, .int j21_F0_4]) (rest := []) ⟨hx, hb, hml, hown, hts⟩ (s_X2_blame_v17 l dC dI cI cJ cZ cM a0 1 j21_F0_4 a0_0 a0_1 b0_2 v0_3 j169_F0_4 j21_F0_4 j169_F0_6 j169_F0_7 j169_F0_9 j169_F0_10 (iR_c (n := 1) (a := 1) (b := 6) (by decide +kernel) (by decide +kernel)) hv0_3 hj169_F0_4 hj21_F0_4 hj169_F0_6 hj169_F0_9 w169_0 H.size) (cwV 2 hts gX2_step_X2_blame rfl rfl rfl (by decide +kernel) ⟨(Nat.le_of_ble_eq_true rfl), (Nat.le_of_ble_eq_true rfl)⟩) (k_pV hPc hDc hK hN hC hS hFc hP (q0 := 0) (ci := 2) rfl rfl) rfl rfl hl.1 rfl (lv_room (Nat.le_of_ble_eq_true rfl)) dX2_step_197 ⟨(Nat.le_of_ble_eq_true rfl), (Nat.le_of_ble_eq_true rfl)⟩) hP hD hS hA [0] [1, 2] rfl rfl rfl rfl (by decide) (fun _ => rfl) 0 0 rfl rfl (fun u_197 H locs hw hP hD hS => ?_)
                  obtain ⟨g_197_0, g_197_1, g_197_2, g_197_3⟩ := hw
                  have hP : va_P (dC, dI) vwCl [(a0_0, .inl (cI, 1600, .inl f0_0)), (a0_1, .inl (cJ, 25, .inr (.inl g0_1))), (a0, .inr (2, [.ref a0_0, .ref a0_1, .ref b0_2, .int v0_3, .int j169_F0_4, .int j21_F0_4, .int (u_197.1 0), .int j169_F0_7, .int 5, .int (u_197.1 1), .int (u_197.1 2)]))] H := hP
                  have hD : va_D A [(a0_0, .inl (cI, 1600, .inl f0_0)), (a0_1, .inl (cJ, 25, .inr (.inl g0_1))), (a0, .inr (2, [.ref a0_0, .ref a0_1, .ref b0_2, .int v0_3, .int j169_F0_4, .int j21_F0_4, .int (u_197.1 0), .int j169_F0_7, .int 5, .int (u_197.1 1), .int (u_197.1 2)]))] := hD
                  have g_197_2 : (0 : Int32) < j169_F0_9 → (0 : Int32) < (u_197.1 1) := g_197_2
                  have g_197_3 : ((u_197.1 1) = 0) ∨ (((u_197.1 0) = 259)) := g_197_3
                  obtain d197_1_0 := g_197_3.resolve_left (i_nef g_197_1 (iR_c (n := 0) (a := 0) (b := 0) (by decide +kernel) (by decide +kernel)) (by decide +kernel))
                  exact k_rv B hP hD hS dX2_step_200 ((fun k9 => match k9 with | 0 => j169_F0_4 | 1 => j21_F0_4 | 2 => (u_197.1 0) | 3 => j169_F0_7 | 4 => (u_197.1 1) | 5 => (u_197.1 2) | _ => 0), (fun _ => 0), (fun _ => (fun _ => 0)), (fun _ => (fun _ => 0)), (fun _ => 0)) [2, 0, 1] rfl rfl (Nat.le_of_ble_eq_true rfl) (Nat.le_of_ble_eq_true rfl) ⟨(show iR j169_F0_4 0 1600 from hj169_F0_4), (show iR j21_F0_4 0 1600 from hj21_F0_4), (show iR (u_197.1 0) 0 324 from (iR_w g_197_0 (by decide +kernel))), (show iR (u_197.1 1) 0 6 from (iR_w g_197_1 (by decide +kernel))), (show (0 : Int32) < v0_9 → (0 : Int32) < (u_197.1 1) from (fun h => g_197_2 (t169_xf h))), (show ((u_197.1 1) = 0) ∨ (((u_197.1 0) = 259)) from (Or.inr d197_1_0))⟩
          refine lv_icmp_lt (tgt := 102) hx hb dX2_step_89 (by decide) (fun c_89 => ?_) (fun c_89 => ?_)
          · have c_89 : j21_F0_4 < v0_3 := c_89
            have f_102_1 : iR j21_F0_4 0 1599 := iR_ltL c_89 hj21_F0_4 hv0_3 (by decide +kernel)
            have f_102_2 : iR v0_3 1 1600 := iR_ltR c_89 hj21_F0_4 hv0_3 (by decide +kernel)
            refine lv_aload_n hx hb dX2_step_102 rfl (lv_at hl 0 rfl) ?_
            refine k_get (D := (dC, dI)) (ci := 2) (v := .ref a0_0) (C := RX2) (T := TX2) (N := 11) hx hb hts hinX2 hown hK hP 0 rfl rfl 0 (by decide) w_5 rfl rfl dX2_step_103 ?_
            refine lv_aload_n hx hb dX2_step_106 rfl (lv_at hl 0 rfl) ?_
            refine k_get (D := (dC, dI)) (ci := 2) (v := .int j21_F0_4) (C := RX2) (T := TX2) (N := 11) hx hb hts hinX2 hown hK hP 0 rfl rfl 4 (by decide) w_1 rfl rfl dX2_step_107 ?_
            refine va_iald hx hb hK hP 1 0 rfl rfl (iR_vp f_102_1 (by decide +kernel)) dX2_step_110 ?_
            have f_110_3 : iR (f0_0 j21_F0_4.toNatClampNeg) 0 255 := hf0_0 _
            refine k_ci (wc := []) (wr := [(a0, .inr (2, [.ref a0_0, .ref a0_1, .ref b0_2, .int v0_3, .int j21_F0_4, .int j21_F0_4, .int v0_6, .int v0_7, .int 5, .int v0_9, .int v0_10])), (a0_0, .inl (cI, 1600, .inl f0_0)), (a0_1, .inl (cJ, 25, .inr (.inl g0_1)))]) (fun hPc hDc hFc => va_runS (As := [.int (f0_0 j21_F0_4.toNatClampNeg)]) (rest := []) ⟨hx, hb, hml, hown, hts⟩ (s_X2_isLetter_v0 l dC dI cI cJ cZ cM (f0_0 j21_F0_4.toNatClampNeg) H.size) (va_cwS 1 hts gX2_step_X2_isLetter rfl rfl rfl (by decide +kernel) ⟨(Nat.le_of_ble_eq_true rfl), (Nat.le_of_ble_eq_true rfl)⟩) (k_pS hPc hDc hK hN hC hS hFc) rfl rfl hl.1 rfl (lv_room (Nat.le_of_ble_eq_true rfl)) dX2_step_111 ⟨(Nat.le_of_ble_eq_true rfl), (Nat.le_of_ble_eq_true rfl)⟩) hP hD hS hA [] [0, 1, 2] rfl rfl rfl rfl (by decide) (fun _ => rfl) 0 0 rfl rfl (fun r_111 u_111 H locs hw hP hD hS => ?_)
            have g_111_0 := hw
            have hP : va_P (dC, dI) vwCl [(a0, .inr (2, [.ref a0_0, .ref a0_1, .ref b0_2, .int v0_3, .int j21_F0_4, .int j21_F0_4, .int v0_6, .int v0_7, .int 5, .int v0_9, .int v0_10])), (a0_0, .inl (cI, 1600, .inl f0_0)), (a0_1, .inl (cJ, 25, .inr (.inl g0_1)))] H := hP
            have hD : va_D A [(a0, .inr (2, [.ref a0_0, .ref a0_1, .ref b0_2, .int v0_3, .int j21_F0_4, .int j21_F0_4, .int v0_6, .int v0_7, .int 5, .int v0_9, .int v0_10])), (a0_0, .inl (cI, 1600, .inl f0_0)), (a0_1, .inl (cJ, 25, .inr (.inl g0_1)))] := hD
            refine lv_if_eq (tgt := 124) hx hb dX2_step_114 (by decide) (fun c_114 => ?_) (fun c_114 => ?_)
            · have c_114 : r_111 = 0 := c_114
              have f_124_4 : iR r_111 0 0 := iR_eqL c_114 g_111_0 (iR_c (n := 0) (a := 0) (b := 0) (by decide +kernel) (by decide +kernel)) (by decide +kernel)
              refine lv_aload_n hx hb dX2_step_124 rfl (lv_at hl 0 rfl) ?_
              refine k_get (D := (dC, dI)) (ci := 2) (v := .ref a0_0) (C := RX2) (T := TX2) (N := 11) hx hb hts hinX2 hown hK hP 0 rfl rfl 0 (by decide) w_5 rfl rfl dX2_step_125 ?_
              refine lv_aload_n hx hb dX2_step_128 rfl (lv_at hl 0 rfl) ?_
              refine k_get (D := (dC, dI)) (ci := 2) (v := .int j21_F0_4) (C := RX2) (T := TX2) (N := 11) hx hb hts hinX2 hown hK hP 0 rfl rfl 4 (by decide) w_1 rfl rfl dX2_step_129 ?_
              refine va_iald hx hb hK hP 1 0 rfl rfl (iR_vp f_102_1 (by decide +kernel)) dX2_step_132 ?_
              refine k_ci (wc := []) (wr := [(a0, .inr (2, [.ref a0_0, .ref a0_1, .ref b0_2, .int v0_3, .int j21_F0_4, .int j21_F0_4, .int v0_6, .int v0_7, .int 5, .int v0_9, .int v0_10])), (a0_0, .inl (cI, 1600, .inl f0_0)), (a0_1, .inl (cJ, 25, .inr (.inl g0_1)))]) (fun hPc hDc hFc => va_runS (As := [.int (f0_0 j21_F0_4.toNatClampNeg)]) (rest := []) ⟨hx, hb, hml, hown, hts⟩ (s_X2_isDigit_v0 l dC dI cI cJ cZ cM (f0_0 j21_F0_4.toNatClampNeg) H.size) (va_cwS 1 hts gX2_step_X2_isDigit rfl rfl rfl (by decide +kernel) ⟨(Nat.le_of_ble_eq_true rfl), (Nat.le_of_ble_eq_true rfl)⟩) (k_pS hPc hDc hK hN hC hS hFc) rfl rfl hl.1 rfl (lv_room (Nat.le_of_ble_eq_true rfl)) dX2_step_133 ⟨(Nat.le_of_ble_eq_true rfl), (Nat.le_of_ble_eq_true rfl)⟩) hP hD hS hA [] [0, 1, 2] rfl rfl rfl rfl (by decide) (fun _ => rfl) 0 0 rfl rfl (fun r_133 u_133 H locs hw hP hD hS => ?_)
              have g_133_0 := hw
              have hP : va_P (dC, dI) vwCl [(a0, .inr (2, [.ref a0_0, .ref a0_1, .ref b0_2, .int v0_3, .int j21_F0_4, .int j21_F0_4, .int v0_6, .int v0_7, .int 5, .int v0_9, .int v0_10])), (a0_0, .inl (cI, 1600, .inl f0_0)), (a0_1, .inl (cJ, 25, .inr (.inl g0_1)))] H := hP
              have hD : va_D A [(a0, .inr (2, [.ref a0_0, .ref a0_1, .ref b0_2, .int v0_3, .int j21_F0_4, .int j21_F0_4, .int v0_6, .int v0_7, .int 5, .int v0_9, .int v0_10])), (a0_0, .inl (cI, 1600, .inl f0_0)), (a0_1, .inl (cJ, 25, .inr (.inl g0_1)))] := hD
              refine lv_if_eq (tgt := 146) hx hb dX2_step_136 (by decide) (fun c_136 => ?_) (fun c_136 => ?_)
              · have c_136 : r_133 = 0 := c_136
                have f_146_5 : iR r_133 0 0 := iR_eqL c_136 g_133_0 (iR_c (n := 0) (a := 0) (b := 0) (by decide +kernel) (by decide +kernel)) (by decide +kernel)
                refine lv_aload_n hx hb dX2_step_146 rfl (lv_at hl 0 rfl) ?_
                refine lv_aload_n hx hb dX2_step_147 rfl (lv_at hl 0 rfl) ?_
                refine k_get (D := (dC, dI)) (ci := 2) (v := .ref a0_0) (C := RX2) (T := TX2) (N := 11) hx hb hts hinX2 hown hK hP 0 rfl rfl 0 (by decide) w_5 rfl rfl dX2_step_148 ?_
                refine lv_aload_n hx hb dX2_step_151 rfl (lv_at hl 0 rfl) ?_
                refine k_get (D := (dC, dI)) (ci := 2) (v := .int j21_F0_4) (C := RX2) (T := TX2) (N := 11) hx hb hts hinX2 hown hK hP 0 rfl rfl 4 (by decide) w_1 rfl rfl dX2_step_152 ?_
                refine va_iald hx hb hK hP 1 0 rfl rfl (iR_vp f_102_1 (by decide +kernel)) dX2_step_155 ?_
                refine k_put (D := (dC, dI)) (ci := 2) (v := .int (f0_0 j21_F0_4.toNatClampNeg)) (C := RX2) (T := TX2) (N := 11) (ws' := [(a0, .inr (2, [.ref a0_0, .ref a0_1, .ref b0_2, .int v0_3, .int j21_F0_4, .int j21_F0_4, .int (f0_0 j21_F0_4.toNatClampNeg), .int v0_7, .int 5, .int v0_9, .int v0_10])), (a0_0, .inl (cI, 1600, .inl f0_0)), (a0_1, .inl (cJ, 25, .inr (.inl g0_1)))]) hx hb hts hinX2 tyX2 tyX2_ok nmX2 hown hK hP hD hS 0 rfl rfl 6 (by decide) w_2 rfl rfl rfl rfl (Nat.le_of_ble_eq_true rfl) rfl dX2_step_156 (fun H locs hP hD hS => ?_)
                refine lv_aload_n hx hb dX2_step_159 rfl (lv_at hl 0 rfl) ?_
                refine lv_dup hx hb dX2_step_160 rfl ?_
                refine k_get (D := (dC, dI)) (ci := 2) (v := .int j21_F0_4) (C := RX2) (T := TX2) (N := 11) hx hb hts hinX2 hown hK hP 0 rfl rfl 4 (by decide) w_1 rfl rfl dX2_step_161 ?_
                refine lv_iconst (v := 1) hx hb dX2_step_164 (by decide +kernel) ?_
                refine lv_iadd hx hb dX2_step_165 ?_
                refine lv_topi (fun y_165 ey_165 => ?_)
                have f_165_6 : iR y_165 1 1600 := iR_add ey_165 f_102_1 (iR_c (n := 1) (a := 1) (b := 1) (by decide +kernel) (by decide +kernel)) (by decide +kernel)
                refine k_put (D := (dC, dI)) (ci := 2) (v := .int y_165) (C := RX2) (T := TX2) (N := 11) (ws' := [(a0, .inr (2, [.ref a0_0, .ref a0_1, .ref b0_2, .int v0_3, .int y_165, .int j21_F0_4, .int (f0_0 j21_F0_4.toNatClampNeg), .int v0_7, .int 5, .int v0_9, .int v0_10])), (a0_0, .inl (cI, 1600, .inl f0_0)), (a0_1, .inl (cJ, 25, .inr (.inl g0_1)))]) hx hb hts hinX2 tyX2 tyX2_ok nmX2 hown hK hP hD hS 0 rfl rfl 4 (by decide) w_1 rfl rfl rfl rfl (Nat.le_of_ble_eq_true rfl) rfl dX2_step_166 (fun H locs hP hD hS => ?_)
                exact J_169 y_165 (f0_0 j21_F0_4.toNatClampNeg) v0_7 v0_9 v0_10 (iR_w f_165_6 (by decide +kernel)) (iR_w f_110_3 (by decide +kernel)) (iR_w f_8_1 (by decide +kernel)) (fun h => h) (Or.inl c_4) H locs ls hP hD hS (lv_sub hl [0, 1, 2] rfl)
              · have c_136 : ¬ r_133 = 0 := c_136
                have f_139_5 : iR r_133 1 1 := iR_neL c_136 g_133_0 (iR_c (n := 0) (a := 0) (b := 0) (by decide +kernel) (by decide +kernel)) (by decide +kernel)
                refine lv_aload_n hx hb dX2_step_139 rfl (lv_at hl 0 rfl) ?_
                refine k_cv (wc := [(a0, .inr (2, [.ref a0_0, .ref a0_1, .ref b0_2, .int v0_3, .int j21_F0_4, .int j21_F0_4, .int v0_6, .int v0_7, .int 5, .int v0_9, .int v0_10])), (a0_0, .inl (cI, 1600, .inl f0_0))]) (wr := [(a0_1, .inl (cJ, 25, .inr (.inl g0_1)))]) (fun hPc hDc hFc => va_runV (As := []) (rest := []) ⟨hx, hb, hml, hown, hts⟩ (s_X2_readNumber_v11 l dC dI cI cJ cZ cM a0 a0_0 f0_0 a0_1 b0_2 v0_3 j21_F0_4 j21_F0_4 v0_6 v0_7 v0_9 v0_10 (show iR v0_9 0 0 from f_8_1) (iR_w f_102_2 (by decide +kernel)) (iR_w f_102_1 (by decide +kernel)) (iR_w f_102_1 (by decide +kernel)) hv0_6 (iR_w f_8_1 (by decide +kernel)) hf0_0 hpg0 H.size) (cwV 0 hts gX2_step_X2_readNumber rfl rfl rfl (by decide +kernel) ⟨(Nat.le_of_ble_eq_true rfl), (Nat.le_of_ble_eq_true rfl)⟩) (k_pV hPc hDc hK hN hC hS hFc hP (q0 := 0) (ci := 2) rfl rfl) rfl rfl hl.1 rfl (lv_room (Nat.le_of_ble_eq_true rfl)) dX2_step_140 ⟨(Nat.le_of_ble_eq_true rfl), (Nat.le_of_ble_eq_true rfl)⟩) hP hD hS hA [0, 1] [2] rfl rfl rfl rfl (by decide) (fun _ => rfl) 0 0 rfl rfl (fun u_140 H locs hw hP hD hS => ?_)
                obtain ⟨g_140_0, g_140_1, g_140_2, g_140_3, g_140_4⟩ := hw
                have hP : va_P (dC, dI) vwCl [(a0_1, .inl (cJ, 25, .inr (.inl g0_1))), (a0, .inr (2, [.ref a0_0, .ref a0_1, .ref b0_2, .int v0_3, .int (u_140.1 0), .int j21_F0_4, .int (u_140.1 1), .int (u_140.1 2), .int 5, .int (u_140.1 3), .int (u_140.1 4)])), (a0_0, .inl (cI, 1600, .inl f0_0))] H := hP
                have hD : va_D A [(a0_1, .inl (cJ, 25, .inr (.inl g0_1))), (a0, .inr (2, [.ref a0_0, .ref a0_1, .ref b0_2, .int v0_3, .int (u_140.1 0), .int j21_F0_4, .int (u_140.1 1), .int (u_140.1 2), .int 5, .int (u_140.1 3), .int (u_140.1 4)])), (a0_0, .inl (cI, 1600, .inl f0_0))] := hD
                have g_140_3 : (0 : Int32) < v0_9 → (0 : Int32) < (u_140.1 3) := g_140_3
                have g_140_4 : ((u_140.1 3) = 0) ∨ (((u_140.1 1) = 259)) := g_140_4
                refine lv_goto (tgt := 169) hx hb dX2_step_143 (by decide) ?_
                exact J_169 (u_140.1 0) (u_140.1 1) (u_140.1 2) (u_140.1 3) (u_140.1 4) g_140_0 (iR_w g_140_1 (by decide +kernel)) g_140_2 (fun h => g_140_3 ((fun h => h) h)) g_140_4 H locs ls (hP.sub [1, 2, 0] rfl) (hD.sub [1, 2, 0] (by decide +kernel) rfl) hS (lv_sub hl [0, 1, 2] rfl)
            · have c_114 : ¬ r_111 = 0 := c_114
              have f_117_4 : iR r_111 1 1 := iR_neL c_114 g_111_0 (iR_c (n := 0) (a := 0) (b := 0) (by decide +kernel) (by decide +kernel)) (by decide +kernel)
              refine lv_aload_n hx hb dX2_step_117 rfl (lv_at hl 0 rfl) ?_
              refine k_cv (wc := [(a0, .inr (2, [.ref a0_0, .ref a0_1, .ref b0_2, .int v0_3, .int j21_F0_4, .int j21_F0_4, .int v0_6, .int v0_7, .int 5, .int v0_9, .int v0_10])), (a0_0, .inl (cI, 1600, .inl f0_0)), (a0_1, .inl (cJ, 25, .inr (.inl g0_1)))]) (wr := []) (fun hPc hDc hFc => va_runV (As := []) (rest := []) ⟨hx, hb, hml, hown, hts⟩ (s_X2_readWord_v11 l dC dI cI cJ cZ cM a0 a0_0 f0_0 a0_1 g0_1 b0_2 v0_3 j21_F0_4 j21_F0_4 v0_6 v0_7 v0_9 v0_10 (show iR v0_9 0 0 from f_8_1) (iR_w f_102_2 (by decide +kernel)) (iR_w f_102_1 (by decide +kernel)) (iR_w f_102_1 (by decide +kernel)) hv0_6 (iR_w f_8_1 (by decide +kernel)) hf0_0 hpg0 H.size) (cwV 0 hts gX2_step_X2_readWord rfl rfl rfl (by decide +kernel) ⟨(Nat.le_of_ble_eq_true rfl), (Nat.le_of_ble_eq_true rfl)⟩) (k_pV hPc hDc hK hN hC hS hFc hP (q0 := 0) (ci := 2) rfl rfl) rfl rfl hl.1 rfl (lv_room (Nat.le_of_ble_eq_true rfl)) dX2_step_118 ⟨(Nat.le_of_ble_eq_true rfl), (Nat.le_of_ble_eq_true rfl)⟩) hP hD hS hA [0, 1, 2] [] rfl rfl rfl rfl (by decide) (fun _ => rfl) 0 0 rfl rfl (fun u_118 H locs hw hP hD hS => ?_)
              obtain ⟨g_118_0, g_118_1, g_118_2, g_118_3, g_118_4⟩ := hw
              have hP : va_P (dC, dI) vwCl [(a0, .inr (2, [.ref a0_0, .ref a0_1, .ref b0_2, .int v0_3, .int (u_118.1 0), .int j21_F0_4, .int (u_118.1 1), .int (u_118.1 2), .int 5, .int (u_118.1 3), .int (u_118.1 4)])), (a0_0, .inl (cI, 1600, .inl f0_0)), (a0_1, .inl (cJ, 25, .inr (.inl g0_1)))] H := hP
              have hD : va_D A [(a0, .inr (2, [.ref a0_0, .ref a0_1, .ref b0_2, .int v0_3, .int (u_118.1 0), .int j21_F0_4, .int (u_118.1 1), .int (u_118.1 2), .int 5, .int (u_118.1 3), .int (u_118.1 4)])), (a0_0, .inl (cI, 1600, .inl f0_0)), (a0_1, .inl (cJ, 25, .inr (.inl g0_1)))] := hD
              have g_118_3 : (0 : Int32) < v0_9 → (0 : Int32) < (u_118.1 3) := g_118_3
              have g_118_4 : ((u_118.1 3) = 0) ∨ (((u_118.1 1) = 259)) := g_118_4
              refine lv_goto (tgt := 169) hx hb dX2_step_121 (by decide) ?_
              exact J_169 (u_118.1 0) (u_118.1 1) (u_118.1 2) (u_118.1 3) (u_118.1 4) g_118_0 (iR_w g_118_1 (by decide +kernel)) g_118_2 (fun h => g_118_3 ((fun h => h) h)) g_118_4 H locs ls hP hD hS (lv_sub hl [0, 1, 2] rfl)
          · have c_89 : v0_3 ≤ j21_F0_4 := i_nlt c_89
            refine lv_aload_n hx hb dX2_step_92 rfl (lv_at hl 0 rfl) ?_
            refine lv_sipush (v := 256) hx hb dX2_step_93 (by decide +kernel) ?_
            refine k_put (D := (dC, dI)) (ci := 2) (v := .int 256) (C := RX2) (T := TX2) (N := 11) (ws' := [(a0, .inr (2, [.ref a0_0, .ref a0_1, .ref b0_2, .int v0_3, .int j21_F0_4, .int j21_F0_4, .int 256, .int v0_7, .int 5, .int v0_9, .int v0_10])), (a0_0, .inl (cI, 1600, .inl f0_0)), (a0_1, .inl (cJ, 25, .inr (.inl g0_1)))]) hx hb hts hinX2 tyX2 tyX2_ok nmX2 hown hK hP hD hS 0 rfl rfl 6 (by decide) w_2 rfl rfl rfl rfl (Nat.le_of_ble_eq_true rfl) rfl dX2_step_96 (fun H locs hP hD hS => ?_)
            refine lv_goto (tgt := 169) hx hb dX2_step_99 (by decide) ?_
            exact J_169 j21_F0_4 256 v0_7 v0_9 v0_10 hj21_F0_4 (iR_c (n := 256) (a := 0) (b := 324) (by decide +kernel) (by decide +kernel)) (iR_w f_8_1 (by decide +kernel)) (fun h => h) (Or.inl c_4) H locs ls hP hD hS (lv_sub hl [0, 1, 2] rfl)
        refine lv_icmp_ge (tgt := 73) hx hb dX2_step_29 (by decide) (fun c_29 => ?_) (fun c_29 => ?_)
        · have c_29 : v0_3 ≤ j21_F0_4 := c_29
          exact J_73   H locs ls hP hD hS (lv_sub hl [0, 1, 2] rfl)
        · have c_29 : j21_F0_4 < v0_3 := i_nle c_29
          have f_32_1 : iR j21_F0_4 0 1599 := iR_ltL c_29 hj21_F0_4 hv0_3 (by decide +kernel)
          have f_32_2 : iR v0_3 1 1600 := iR_ltR c_29 hj21_F0_4 hv0_3 (by decide +kernel)
          refine lv_aload_n hx hb dX2_step_32 rfl (lv_at hl 0 rfl) ?_
          refine k_get (D := (dC, dI)) (ci := 2) (v := .ref a0_0) (C := RX2) (T := TX2) (N := 11) hx hb hts hinX2 hown hK hP 0 rfl rfl 0 (by decide) w_5 rfl rfl dX2_step_33 ?_
          refine lv_aload_n hx hb dX2_step_36 rfl (lv_at hl 0 rfl) ?_
          refine k_get (D := (dC, dI)) (ci := 2) (v := .int j21_F0_4) (C := RX2) (T := TX2) (N := 11) hx hb hts hinX2 hown hK hP 0 rfl rfl 4 (by decide) w_1 rfl rfl dX2_step_37 ?_
          refine va_iald hx hb hK hP 1 0 rfl rfl (iR_vp f_32_1 (by decide +kernel)) dX2_step_40 ?_
          have f_40_3 : iR (f0_0 j21_F0_4.toNatClampNeg) 0 255 := hf0_0 _
          refine lv_bipush (v := 32) hx hb dX2_step_41 (by decide +kernel) ?_
          have J_60 : ∀  (k60_0 : iR (f0_0 j21_F0_4.toNatClampNeg) 10 32) (H : Heap) (locs : List Loc) (ls : Array Slot), va_P (dC, dI) vwCl [(a0, .inr (2, [.ref a0_0, .ref a0_1, .ref b0_2, .int v0_3, .int j21_F0_4, .int v0_5, .int v0_6, .int v0_7, .int 5, .int v0_9, .int v0_10])), (a0_0, .inl (cI, 1600, .inl f0_0)), (a0_1, .inl (cJ, 25, .inr (.inl g0_1)))] H → va_D A [(a0, .inr (2, [.ref a0_0, .ref a0_1, .ref b0_2, .int v0_3, .int j21_F0_4, .int v0_5, .int v0_6, .int v0_7, .int 5, .int v0_9, .int v0_10])), (a0_0, .inl (cI, 1600, .inl f0_0)), (a0_1, .inl (cJ, 25, .inr (.inl g0_1)))] → va_S A s.heap H locs → lv_has ls 3 [(0, .ref a0), (1, .int v0_4), (2, .int r_17)] → W p l e ({ frames := 3, cells := 0, slots := 0, locals := 89 }) s m args below meth c H locs 0 0 (MQ below (va_Qv (fun (u9 : SU) => (iR (u9.1 0) 0 1600) ∧ (iR (u9.1 1) 0 1600) ∧ (iR (u9.1 2) 0 324) ∧ (iR (u9.1 4) 0 6) ∧ ((0 : Int32) < v0_9 → (0 : Int32) < (u9.1 4)) ∧ (((u9.1 4) = 0) ∨ (((u9.1 2) = 259)))) (fun u => k_B (dC, dI) vwCl (tyy cI cJ cZ cM) A ((fun (u9 : SU) => [(a0, .inr (2, [.ref a0_0, .ref a0_1, .ref b0_2, .int v0_3, .int (u9.1 0), .int (u9.1 1), .int (u9.1 2), .int (u9.1 3), .int 5, .int (u9.1 4), .int (u9.1 5)])), (a0_0, .inl (cI, 1600, .inl f0_0)), (a0_1, .inl (cJ, 25, .inr (.inl g0_1)))]) u)) A) args s 0 0 A) (F0 m 60 ls []) := by
            intro  k60_0 H locs ls hP hD hS hl
            refine lv_aload_n hx hb dX2_step_60 rfl (lv_at hl 0 rfl) ?_
            refine lv_dup hx hb dX2_step_61 rfl ?_
            refine k_get (D := (dC, dI)) (ci := 2) (v := .int j21_F0_4) (C := RX2) (T := TX2) (N := 11) hx hb hts hinX2 hown hK hP 0 rfl rfl 4 (by decide) w_1 rfl rfl dX2_step_62 ?_
            refine lv_iconst (v := 1) hx hb dX2_step_65 (by decide +kernel) ?_
            refine lv_iadd hx hb dX2_step_66 ?_
            refine lv_topi (fun y_66 ey_66 => ?_)
            have f_66_1 : iR y_66 1 1600 := iR_add ey_66 f_32_1 (iR_c (n := 1) (a := 1) (b := 1) (by decide +kernel) (by decide +kernel)) (by decide +kernel)
            refine k_put (D := (dC, dI)) (ci := 2) (v := .int y_66) (C := RX2) (T := TX2) (N := 11) (ws' := [(a0, .inr (2, [.ref a0_0, .ref a0_1, .ref b0_2, .int v0_3, .int y_66, .int v0_5, .int v0_6, .int v0_7, .int 5, .int v0_9, .int v0_10])), (a0_0, .inl (cI, 1600, .inl f0_0)), (a0_1, .inl (cJ, 25, .inr (.inl g0_1)))]) hx hb hts hinX2 tyX2 tyX2_ok nmX2 hown hK hP hD hS 0 rfl rfl 4 (by decide) w_1 rfl rfl rfl rfl (Nat.le_of_ble_eq_true rfl) rfl dX2_step_67 (fun H locs hP hD hS => ?_)
            refine lv_goto (tgt := 21) hx hb dX2_step_70 (by decide) ?_
            exact ih_21 y_66 (iR_w f_66_1 (by decide +kernel)) (m_up (B := 1600) hm_21 ey_66 f_32_1 (by decide +kernel)) H locs ls hP hD hS (lv_sub hl [0, 1, 2] rfl)
          refine lv_icmp_eq (tgt := 60) hx hb dX2_step_43 (by decide) (fun c_43 => ?_) (fun c_43 => ?_)
          · have c_43 : (f0_0 j21_F0_4.toNatClampNeg) = 32 := c_43
            have f_60_4 : iR (f0_0 j21_F0_4.toNatClampNeg) 32 32 := iR_eqL c_43 f_40_3 (iR_c (n := 32) (a := 32) (b := 32) (by decide +kernel) (by decide +kernel)) (by decide +kernel)
            exact J_60  (iR_w f_60_4 (by decide +kernel)) H locs ls hP hD hS (lv_sub hl [0, 1, 2] rfl)
          · have c_43 : ¬ (f0_0 j21_F0_4.toNatClampNeg) = 32 := c_43
            refine lv_aload_n hx hb dX2_step_46 rfl (lv_at hl 0 rfl) ?_
            refine k_get (D := (dC, dI)) (ci := 2) (v := .ref a0_0) (C := RX2) (T := TX2) (N := 11) hx hb hts hinX2 hown hK hP 0 rfl rfl 0 (by decide) w_5 rfl rfl dX2_step_47 ?_
            refine lv_aload_n hx hb dX2_step_50 rfl (lv_at hl 0 rfl) ?_
            refine k_get (D := (dC, dI)) (ci := 2) (v := .int j21_F0_4) (C := RX2) (T := TX2) (N := 11) hx hb hts hinX2 hown hK hP 0 rfl rfl 4 (by decide) w_1 rfl rfl dX2_step_51 ?_
            refine va_iald hx hb hK hP 1 0 rfl rfl (iR_vp f_32_1 (by decide +kernel)) dX2_step_54 ?_
            refine lv_bipush (v := 10) hx hb dX2_step_55 (by decide +kernel) ?_
            refine lv_icmp_ne (tgt := 73) hx hb dX2_step_57 (by decide) (fun c_57 => ?_) (fun c_57 => ?_)
            · have c_57 : ¬ (f0_0 j21_F0_4.toNatClampNeg) = 10 := c_57
              exact J_73   H locs ls hP hD hS (lv_sub hl [0, 1, 2] rfl)
            · have c_57 : (f0_0 j21_F0_4.toNatClampNeg) = 10 := c_57
              have f_60_4 : iR (f0_0 j21_F0_4.toNatClampNeg) 10 10 := iR_eqL c_57 f_40_3 (iR_c (n := 10) (a := 10) (b := 10) (by decide +kernel) (by decide +kernel)) (by decide +kernel)
              exact J_60  (iR_w f_60_4 (by decide +kernel)) H locs ls hP hD hS (lv_sub hl [0, 1, 2] rfl)
    refine lv_istore_n (lv' := [(2, .int r_17), (1, .int v0_4), (0, .ref a0)]) hx hb dX2_step_20 rfl hl (by decide) rfl (fun ls hl => ?_)
    exact J_21 _ v0_4 hv0_4 (Nat.lt_succ_self _) H locs ls hP hD hS (lv_sub hl [2, 1, 0] rfl)
  · have c_4 : ¬ v0_9 = 0 := c_4
    have f_7_1 : iR v0_9 1 6 := iR_neL c_4 hv0_9 (iR_c (n := 0) (a := 0) (b := 0) (by decide +kernel) (by decide +kernel)) (by decide +kernel)
    obtain d_4_1_0 := hpg0.resolve_left c_4
    have f_7_2 : iR v0_6 259 259 := iR_eqL d_4_1_0 hv0_6 (iR_c (n := 259) (a := 259) (b := 259) (by decide +kernel) (by decide +kernel)) (by decide +kernel)
    exact k_rv B hP hD hS dX2_step_7 ((fun k9 => match k9 with | 0 => v0_4 | 1 => v0_5 | 2 => v0_6 | 3 => v0_7 | 4 => v0_9 | 5 => v0_10 | _ => 0), (fun _ => 0), (fun _ => (fun _ => 0)), (fun _ => (fun _ => 0)), (fun _ => 0)) [0, 1, 2] rfl rfl (Nat.le_of_ble_eq_true rfl) (Nat.le_of_ble_eq_true rfl) ⟨(show iR v0_4 0 1600 from hv0_4), (show iR v0_5 0 1600 from hv0_5), (show iR v0_6 0 324 from (iR_w f_7_2 (by decide +kernel))), (show iR v0_9 0 6 from (iR_w f_7_1 (by decide +kernel))), (show (0 : Int32) < v0_9 → (0 : Int32) < v0_9 from (fun h => h)), (show (v0_9 = 0) ∨ ((v0_6 = 259)) from (Or.inr d_4_1_0))⟩
set_option maxHeartbeats 8000000 in
set_option maxRecDepth 100000 in
theorem s_X2_open_v4 (l : Launch) (dC : Nat → ClassId) (dI : Nat → Nat → Nat) (cI cJ cZ cM : ClassId) (a0 : Nat) (a0_0 : Nat) (f0_0 : Nat → Int32) (a0_1 : Nat) (g0_1 : Nat → Int64) (a0_2 : Nat) (v0_3 : Int32) (v0_4 : Int32) (v0_5 : Int32) (v0_6 : Int32) (v0_7 : Int32) (v0_9 : Int32) (v0_10 : Int32) (hv0_3 : iR v0_3 0 1600) (hv0_4 : iR v0_4 0 1600) (hv0_5 : iR v0_5 0 1600) (hv0_6 : iR v0_6 0 324) (hv0_9 : iR v0_9 0 6) (hf0_0 : aR f0_0 0 255) (hpg0 : (v0_9 = 0) ∨ ((v0_6 = 259))) : k_Mv l yX2_open wsX2_open ({ frames := 4, cells := 0, slots := 0, locals := 111 }) (dC, dI) vwCl (tyy cI cJ cZ cM) [(a0, .inr (2, [.ref a0_0, .ref a0_1, .ref a0_2, .int v0_3, .int v0_4, .int v0_5, .int v0_6, .int v0_7, .int 4, .int v0_9, .int v0_10])), (a0_0, .inl (cI, 1600, .inl f0_0)), (a0_1, .inl (cJ, 25, .inr (.inl g0_1)))] [.ref a0] 0 0 (fun (u9 : SU) => [(a0, .inr (2, [.ref a0_0, .ref a0_1, .ref a0_2, .int v0_3, .int (u9.1 0), .int (u9.1 1), .int (u9.1 2), .int (u9.1 3), .int 5, .int (u9.1 4), .int (u9.1 5)])), (a0_0, .inl (cI, 1600, .inl f0_0)), (a0_1, .inl (cJ, 25, .inr (.inl g0_1)))]) (fun (u9 : SU) => (iR (u9.1 0) 0 1600) ∧ (iR (u9.1 1) 0 1600) ∧ (iR (u9.1 2) 0 324) ∧ (iR (u9.1 4) 0 6) ∧ ((0 : Int32) < v0_9 → (0 : Int32) < (u9.1 4)) ∧ (((u9.1 4) = 0) ∨ (((u9.1 2) = 259)))) := by
  refine fun sz => k_enter (cc := cX2_open) (maxL := 1) (ret := none) (Qc := fun A => va_Qv (fun (u9 : SU) => (iR (u9.1 0) 0 1600) ∧ (iR (u9.1 1) 0 1600) ∧ (iR (u9.1 2) 0 324) ∧ (iR (u9.1 4) 0 6) ∧ ((0 : Int32) < v0_9 → (0 : Int32) < (u9.1 4)) ∧ (((u9.1 4) = 0) ∨ (((u9.1 2) = 259)))) (fun u => k_B (dC, dI) vwCl (tyy cI cJ cZ cM) A ((fun (u9 : SU) => [(a0, .inr (2, [.ref a0_0, .ref a0_1, .ref a0_2, .int v0_3, .int (u9.1 0), .int (u9.1 1), .int (u9.1 2), .int (u9.1 3), .int 5, .int (u9.1 4), .int (u9.1 5)])), (a0_0, .inl (cI, 1600, .inl f0_0)), (a0_1, .inl (cJ, 25, .inr (.inl g0_1)))]) u)) A) sz (by decide +kernel) rfl (Nat.le_of_ble_eq_true rfl) (fun p e s m args below meth c A ls H locs B hP hD hS hl => ?_)
  obtain ⟨hx, hb, hml, hown, hts, hr, hlk, hnm, hK, hA, hN, hC⟩ := id B
  have hown : s.vm.findClass RX2 = some m.cls := hown
  have hl : lv_has ls 1 [(0, .ref a0)] := hl
  have w_0 : (Cond.fieldLink RX2 60 "WishSea$Reader" "opened" "I").before args s = true := hts _ (List.mem_of_getElem? (i := 1) rfl)
  have hinX2 : ∀ w ∈ u_ws RX2 TX2 11, w ∈ wsX2_open := fun _ h => List.mem_cons_of_mem _ (List.mem_append_right _ h)
  refine lv_aload_n hx hb dX2_open_0 rfl (lv_at hl 0 rfl) ?_
  refine k_get (D := (dC, dI)) (ci := 2) (v := .int 4) (C := RX2) (T := TX2) (N := 11) hx hb hts hinX2 hown hK hP 0 rfl rfl 8 (by decide) w_0 rfl rfl dX2_open_1 ?_
  refine lv_bipush (v := 7) hx hb dX2_open_4 (by decide +kernel) ?_
  have J_18 : ∀   (H : Heap) (locs : List Loc) (ls : Array Slot), va_P (dC, dI) vwCl [(a0, .inr (2, [.ref a0_0, .ref a0_1, .ref a0_2, .int v0_3, .int v0_4, .int v0_5, .int v0_6, .int v0_7, .int 4, .int v0_9, .int v0_10])), (a0_0, .inl (cI, 1600, .inl f0_0)), (a0_1, .inl (cJ, 25, .inr (.inl g0_1)))] H → va_D A [(a0, .inr (2, [.ref a0_0, .ref a0_1, .ref a0_2, .int v0_3, .int v0_4, .int v0_5, .int v0_6, .int v0_7, .int 4, .int v0_9, .int v0_10])), (a0_0, .inl (cI, 1600, .inl f0_0)), (a0_1, .inl (cJ, 25, .inr (.inl g0_1)))] → va_S A s.heap H locs → lv_has ls 1 [(0, .ref a0)] → W p l e ({ frames := 4, cells := 0, slots := 0, locals := 111 }) s m args below meth c H locs 0 0 (MQ below (va_Qv (fun (u9 : SU) => (iR (u9.1 0) 0 1600) ∧ (iR (u9.1 1) 0 1600) ∧ (iR (u9.1 2) 0 324) ∧ (iR (u9.1 4) 0 6) ∧ ((0 : Int32) < v0_9 → (0 : Int32) < (u9.1 4)) ∧ (((u9.1 4) = 0) ∨ (((u9.1 2) = 259)))) (fun u => k_B (dC, dI) vwCl (tyy cI cJ cZ cM) A ((fun (u9 : SU) => [(a0, .inr (2, [.ref a0_0, .ref a0_1, .ref a0_2, .int v0_3, .int (u9.1 0), .int (u9.1 1), .int (u9.1 2), .int (u9.1 3), .int 5, .int (u9.1 4), .int (u9.1 5)])), (a0_0, .inl (cI, 1600, .inl f0_0)), (a0_1, .inl (cJ, 25, .inr (.inl g0_1)))]) u)) A) args s 0 0 A) (F0 m 18 ls []) := by
    intro   H locs ls hP hD hS hl
    refine lv_aload_n hx hb dX2_open_18 rfl (lv_at hl 0 rfl) ?_
    refine lv_dup hx hb dX2_open_19 rfl ?_
    refine k_get (D := (dC, dI)) (ci := 2) (v := .int 4) (C := RX2) (T := TX2) (N := 11) hx hb hts hinX2 hown hK hP 0 rfl rfl 8 (by decide) w_0 rfl rfl dX2_open_20 ?_
    refine lv_iconst (v := 1) hx hb dX2_open_23 (by decide +kernel) ?_
    refine lv_iadd hx hb dX2_open_24 ?_
    refine k_int (v := 5) (by decide +kernel) ?_
    refine k_put (D := (dC, dI)) (ci := 2) (v := .int 5) (C := RX2) (T := TX2) (N := 11) (ws' := [(a0, .inr (2, [.ref a0_0, .ref a0_1, .ref a0_2, .int v0_3, .int v0_4, .int v0_5, .int v0_6, .int v0_7, .int 5, .int v0_9, .int v0_10])), (a0_0, .inl (cI, 1600, .inl f0_0)), (a0_1, .inl (cJ, 25, .inr (.inl g0_1)))]) hx hb hts hinX2 tyX2 tyX2_ok nmX2 hown hK hP hD hS 0 rfl rfl 8 (by decide) w_0 rfl rfl rfl rfl (Nat.le_of_ble_eq_true rfl) rfl dX2_open_25 (fun H locs hP hD hS => ?_)
    refine lv_aload_n hx hb dX2_open_28 rfl (lv_at hl 0 rfl) ?_
    refine k_cv (wc := [(a0, .inr (2, [.ref a0_0, .ref a0_1, .ref a0_2, .int v0_3, .int v0_4, .int v0_5, .int v0_6, .int v0_7, .int 5, .int v0_9, .int v0_10])), (a0_0, .inl (cI, 1600, .inl f0_0)), (a0_1, .inl (cJ, 25, .inr (.inl g0_1)))]) (wr := []) (fun hPc hDc hFc => va_runV (As := []) (rest := []) ⟨hx, hb, hml, hown, hts⟩ (s_X2_step_v11 l dC dI cI cJ cZ cM a0 a0_0 f0_0 a0_1 g0_1 a0_2 v0_3 v0_4 v0_5 v0_6 v0_7 v0_9 v0_10 hv0_3 hv0_4 hv0_5 hv0_6 hv0_9 hf0_0 hpg0 H.size) (cwV 0 hts gX2_open_X2_step rfl rfl rfl (by decide +kernel) ⟨(Nat.le_of_ble_eq_true rfl), (Nat.le_of_ble_eq_true rfl)⟩) (k_pV hPc hDc hK hN hC hS hFc hP (q0 := 0) (ci := 2) rfl rfl) rfl rfl hl.1 rfl (lv_room (Nat.le_of_ble_eq_true rfl)) dX2_open_29 ⟨(Nat.le_of_ble_eq_true rfl), (Nat.le_of_ble_eq_true rfl)⟩) hP hD hS hA [0, 1, 2] [] rfl rfl rfl rfl (by decide) (fun _ => rfl) 0 0 rfl rfl (fun u_29 H locs hw hP hD hS => ?_)
    obtain ⟨g_29_0, g_29_1, g_29_2, g_29_3, g_29_4, g_29_5⟩ := hw
    have hP : va_P (dC, dI) vwCl [(a0, .inr (2, [.ref a0_0, .ref a0_1, .ref a0_2, .int v0_3, .int (u_29.1 0), .int (u_29.1 1), .int (u_29.1 2), .int (u_29.1 3), .int 5, .int (u_29.1 4), .int (u_29.1 5)])), (a0_0, .inl (cI, 1600, .inl f0_0)), (a0_1, .inl (cJ, 25, .inr (.inl g0_1)))] H := hP
    have hD : va_D A [(a0, .inr (2, [.ref a0_0, .ref a0_1, .ref a0_2, .int v0_3, .int (u_29.1 0), .int (u_29.1 1), .int (u_29.1 2), .int (u_29.1 3), .int 5, .int (u_29.1 4), .int (u_29.1 5)])), (a0_0, .inl (cI, 1600, .inl f0_0)), (a0_1, .inl (cJ, 25, .inr (.inl g0_1)))] := hD
    have g_29_4 : (0 : Int32) < v0_9 → (0 : Int32) < (u_29.1 4) := g_29_4
    have g_29_5 : ((u_29.1 4) = 0) ∨ (((u_29.1 2) = 259)) := g_29_5
    exact k_rv B hP hD hS dX2_open_32 ((fun k9 => match k9 with | 0 => (u_29.1 0) | 1 => (u_29.1 1) | 2 => (u_29.1 2) | 3 => (u_29.1 3) | 4 => (u_29.1 4) | 5 => (u_29.1 5) | _ => 0), (fun _ => 0), (fun _ => (fun _ => 0)), (fun _ => (fun _ => 0)), (fun _ => 0)) [0, 1, 2] rfl rfl (Nat.le_of_ble_eq_true rfl) (Nat.le_of_ble_eq_true rfl) ⟨(show iR (u_29.1 0) 0 1600 from g_29_0), (show iR (u_29.1 1) 0 1600 from g_29_1), (show iR (u_29.1 2) 0 324 from g_29_2), (show iR (u_29.1 4) 0 6 from g_29_3), (show (0 : Int32) < v0_9 → (0 : Int32) < (u_29.1 4) from (fun h => g_29_4 ((fun h => h) h))), (show ((u_29.1 4) = 0) ∨ (((u_29.1 2) = 259)) from g_29_5)⟩
  refine lv_icmp_lt (tgt := 18) hx hb dX2_open_6 (by decide) (fun _ => ?_) (fun q9 => absurd q9 (by decide +kernel))
  exact J_18   H locs ls hP hD hS (lv_sub hl [0] rfl)
set_option maxHeartbeats 8000000 in
set_option maxRecDepth 100000 in
theorem s_X2_blame_v18 (l : Launch) (dC : Nat → ClassId) (dI : Nat → Nat → Nat) (cI cJ cZ cM : ClassId) (a0 : Nat) (x1 : Int32) (x2 : Int32) (a0_0 : Nat) (a0_1 : Nat) (a0_2 : Nat) (v0_3 : Int32) (v0_4 : Int32) (v0_5 : Int32) (v0_6 : Int32) (v0_7 : Int32) (v0_9 : Int32) (v0_10 : Int32) (hx1 : iR x1 1 6) (hv0_3 : iR v0_3 0 1600) (hv0_4 : iR v0_4 0 1600) (hv0_5 : iR v0_5 0 1600) (hv0_6 : iR v0_6 0 324) (hv0_9 : iR v0_9 0 6) (hpg0 : (v0_9 = 0) ∨ ((v0_6 = 259))) : k_Mv l yX2_blame wsX2_blame ({ frames := 1, cells := 0, slots := 0, locals := 40 }) (dC, dI) vwCl (tyy cI cJ cZ cM) [(a0, .inr (2, [.ref a0_0, .ref a0_1, .ref a0_2, .int v0_3, .int v0_4, .int v0_5, .int v0_6, .int v0_7, .int 6, .int v0_9, .int v0_10]))] [.ref a0, .int x1, .int x2] 0 0 (fun (u9 : SU) => [(a0, .inr (2, [.ref a0_0, .ref a0_1, .ref a0_2, .int v0_3, .int v0_4, .int v0_5, .int (u9.1 0), .int v0_7, .int 6, .int (u9.1 1), .int (u9.1 2)]))]) (fun (u9 : SU) => (iR (u9.1 0) 259 259) ∧ (iR (u9.1 1) 1 6) ∧ ((0 : Int32) < v0_9 → (0 : Int32) < (u9.1 1)) ∧ (((u9.1 1) = 0) ∨ (((u9.1 0) = 259)))) := by
  refine fun sz => k_enter (cc := cX2_blame) (maxL := 3) (ret := none) (Qc := fun A => va_Qv (fun (u9 : SU) => (iR (u9.1 0) 259 259) ∧ (iR (u9.1 1) 1 6) ∧ ((0 : Int32) < v0_9 → (0 : Int32) < (u9.1 1)) ∧ (((u9.1 1) = 0) ∨ (((u9.1 0) = 259)))) (fun u => k_B (dC, dI) vwCl (tyy cI cJ cZ cM) A ((fun (u9 : SU) => [(a0, .inr (2, [.ref a0_0, .ref a0_1, .ref a0_2, .int v0_3, .int v0_4, .int v0_5, .int (u9.1 0), .int v0_7, .int 6, .int (u9.1 1), .int (u9.1 2)]))]) u)) A) sz (by decide +kernel) rfl (Nat.le_of_ble_eq_true rfl) (fun p e s m args below meth c A ls H locs B hP hD hS hl => ?_)
  obtain ⟨hx, hb, hml, hown, hts, hr, hlk, hnm, hK, hA, hN, hC⟩ := id B
  have hown : s.vm.findClass RX2 = some m.cls := hown
  have hl : lv_has ls 3 [(0, .ref a0), (1, .int x1), (2, .int x2)] := hl
  have w_0 : (Cond.fieldLink RX2 63 "WishSea$Reader" "fault" "I").before args s = true := hts _ (List.mem_of_getElem? (i := 1) rfl)
  have w_1 : (Cond.fieldLink RX2 19 "WishSea$Reader" "place" "I").before args s = true := hts _ (List.mem_of_getElem? (i := 2) rfl)
  have w_2 : (Cond.fieldLink RX2 15 "WishSea$Reader" "token" "I").before args s = true := hts _ (List.mem_of_getElem? (i := 3) rfl)
  have hinX2 : ∀ w ∈ u_ws RX2 TX2 11, w ∈ wsX2_blame := fun _ h => List.mem_cons_of_mem _ (List.mem_append_right _ h)
  refine lv_aload_n hx hb dX2_blame_0 rfl (lv_at hl 0 rfl) ?_
  refine k_get (D := (dC, dI)) (ci := 2) (v := .int v0_9) (C := RX2) (T := TX2) (N := 11) hx hb hts hinX2 hown hK hP 0 rfl rfl 9 (by decide) w_0 rfl rfl dX2_blame_1 ?_
  refine lv_if_ne (tgt := 24) hx hb dX2_blame_4 (by decide) (fun c_4 => ?_) (fun c_4 => ?_)
  · have c_4 : ¬ v0_9 = 0 := c_4
    have f_24_1 : iR v0_9 1 6 := iR_neL c_4 hv0_9 (iR_c (n := 0) (a := 0) (b := 0) (by decide +kernel) (by decide +kernel)) (by decide +kernel)
    obtain d_4_1_0 := hpg0.resolve_left c_4
    have f_24_2 : iR v0_6 259 259 := iR_eqL d_4_1_0 hv0_6 (iR_c (n := 259) (a := 259) (b := 259) (by decide +kernel) (by decide +kernel)) (by decide +kernel)
    exact k_rv B hP hD hS dX2_blame_24 ((fun k9 => match k9 with | 0 => v0_6 | 1 => v0_9 | 2 => v0_10 | _ => 0), (fun _ => 0), (fun _ => (fun _ => 0)), (fun _ => (fun _ => 0)), (fun _ => 0)) [0] rfl rfl (Nat.le_of_ble_eq_true rfl) (Nat.le_of_ble_eq_true rfl) ⟨(show iR v0_6 259 259 from f_24_2), (show iR v0_9 1 6 from f_24_1), (show (0 : Int32) < v0_9 → (0 : Int32) < v0_9 from (fun h => h)), (show (v0_9 = 0) ∨ ((v0_6 = 259)) from (Or.inr d_4_1_0))⟩
  · have c_4 : v0_9 = 0 := c_4
    have f_7_1 : iR v0_9 0 0 := iR_eqL c_4 hv0_9 (iR_c (n := 0) (a := 0) (b := 0) (by decide +kernel) (by decide +kernel)) (by decide +kernel)
    refine lv_aload_n hx hb dX2_blame_7 rfl (lv_at hl 0 rfl) ?_
    refine lv_iload_n hx hb dX2_blame_8 rfl (lv_at hl 1 rfl) ?_
    refine k_put (D := (dC, dI)) (ci := 2) (v := .int x1) (C := RX2) (T := TX2) (N := 11) (ws' := [(a0, .inr (2, [.ref a0_0, .ref a0_1, .ref a0_2, .int v0_3, .int v0_4, .int v0_5, .int v0_6, .int v0_7, .int 6, .int x1, .int v0_10]))]) hx hb hts hinX2 tyX2 tyX2_ok nmX2 hown hK hP hD hS 0 rfl rfl 9 (by decide) w_0 rfl rfl rfl rfl (Nat.le_of_ble_eq_true rfl) rfl dX2_blame_9 (fun H locs hP hD hS => ?_)
    refine lv_aload_n hx hb dX2_blame_12 rfl (lv_at hl 0 rfl) ?_
    refine lv_iload_n hx hb dX2_blame_13 rfl (lv_at hl 2 rfl) ?_
    refine k_put (D := (dC, dI)) (ci := 2) (v := .int x2) (C := RX2) (T := TX2) (N := 11) (ws' := [(a0, .inr (2, [.ref a0_0, .ref a0_1, .ref a0_2, .int v0_3, .int v0_4, .int v0_5, .int v0_6, .int v0_7, .int 6, .int x1, .int x2]))]) hx hb hts hinX2 tyX2 tyX2_ok nmX2 hown hK hP hD hS 0 rfl rfl 10 (by decide) w_1 rfl rfl rfl rfl (Nat.le_of_ble_eq_true rfl) rfl dX2_blame_14 (fun H locs hP hD hS => ?_)
    refine lv_aload_n hx hb dX2_blame_17 rfl (lv_at hl 0 rfl) ?_
    refine lv_sipush (v := 259) hx hb dX2_blame_18 (by decide +kernel) ?_
    refine k_put (D := (dC, dI)) (ci := 2) (v := .int 259) (C := RX2) (T := TX2) (N := 11) (ws' := [(a0, .inr (2, [.ref a0_0, .ref a0_1, .ref a0_2, .int v0_3, .int v0_4, .int v0_5, .int 259, .int v0_7, .int 6, .int x1, .int x2]))]) hx hb hts hinX2 tyX2 tyX2_ok nmX2 hown hK hP hD hS 0 rfl rfl 6 (by decide) w_2 rfl rfl rfl rfl (Nat.le_of_ble_eq_true rfl) rfl dX2_blame_21 (fun H locs hP hD hS => ?_)
    exact k_rv B hP hD hS dX2_blame_24 ((fun k9 => match k9 with | 0 => 259 | 1 => x1 | 2 => x2 | _ => 0), (fun _ => 0), (fun _ => (fun _ => 0)), (fun _ => (fun _ => 0)), (fun _ => 0)) [0] rfl rfl (Nat.le_of_ble_eq_true rfl) (Nat.le_of_ble_eq_true rfl) ⟨(show iR 259 259 259 from (iR_c (n := 259) (a := 259) (b := 259) (by decide +kernel) (by decide +kernel))), (show iR x1 1 6 from hx1), (show (0 : Int32) < v0_9 → (0 : Int32) < x1 from (fun _ => (i_ltf (iR_c (n := 0) (a := 0) (b := 0) (by decide +kernel) (by decide +kernel)) hx1 (by decide +kernel)))), (show (x1 = 0) ∨ ((259 = 259)) from (Or.inr rfl))⟩
set_option maxHeartbeats 8000000 in
set_option maxRecDepth 100000 in
theorem s_X2_blame_v19 (l : Launch) (dC : Nat → ClassId) (dI : Nat → Nat → Nat) (cI cJ cZ cM : ClassId) (a0 : Nat) (x1 : Int32) (x2 : Int32) (a0_0 : Nat) (b0_1 : Nat) (b0_2 : Nat) (v0_3 : Int32) (v0_4 : Int32) (v0_5 : Int32) (v0_6 : Int32) (v0_7 : Int32) (v0_9 : Int32) (v0_10 : Int32) (hx1 : iR x1 1 6) (hv0_3 : iR v0_3 0 1600) (hv0_4 : iR v0_4 0 1600) (hv0_5 : iR v0_5 0 1600) (hv0_6 : iR v0_6 0 324) (hv0_9 : iR v0_9 0 6) (hpg0 : (v0_9 = 0) ∨ ((v0_6 = 259))) : k_Mv l yX2_blame wsX2_blame ({ frames := 1, cells := 0, slots := 0, locals := 40 }) (dC, dI) vwCl (tyy cI cJ cZ cM) [(a0, .inr (2, [.ref a0_0, .ref b0_1, .ref b0_2, .int v0_3, .int v0_4, .int v0_5, .int v0_6, .int v0_7, .int 6, .int v0_9, .int v0_10]))] [.ref a0, .int x1, .int x2] 0 0 (fun (u9 : SU) => [(a0, .inr (2, [.ref a0_0, .ref b0_1, .ref b0_2, .int v0_3, .int v0_4, .int v0_5, .int (u9.1 0), .int v0_7, .int 6, .int (u9.1 1), .int (u9.1 2)]))]) (fun (u9 : SU) => (iR (u9.1 0) 259 259) ∧ (iR (u9.1 1) 1 6) ∧ ((0 : Int32) < v0_9 → (0 : Int32) < (u9.1 1)) ∧ (((u9.1 1) = 0) ∨ (((u9.1 0) = 259)))) := by
  refine fun sz => k_enter (cc := cX2_blame) (maxL := 3) (ret := none) (Qc := fun A => va_Qv (fun (u9 : SU) => (iR (u9.1 0) 259 259) ∧ (iR (u9.1 1) 1 6) ∧ ((0 : Int32) < v0_9 → (0 : Int32) < (u9.1 1)) ∧ (((u9.1 1) = 0) ∨ (((u9.1 0) = 259)))) (fun u => k_B (dC, dI) vwCl (tyy cI cJ cZ cM) A ((fun (u9 : SU) => [(a0, .inr (2, [.ref a0_0, .ref b0_1, .ref b0_2, .int v0_3, .int v0_4, .int v0_5, .int (u9.1 0), .int v0_7, .int 6, .int (u9.1 1), .int (u9.1 2)]))]) u)) A) sz (by decide +kernel) rfl (Nat.le_of_ble_eq_true rfl) (fun p e s m args below meth c A ls H locs B hP hD hS hl => ?_)
  obtain ⟨hx, hb, hml, hown, hts, hr, hlk, hnm, hK, hA, hN, hC⟩ := id B
  have hown : s.vm.findClass RX2 = some m.cls := hown
  have hl : lv_has ls 3 [(0, .ref a0), (1, .int x1), (2, .int x2)] := hl
  have w_0 : (Cond.fieldLink RX2 63 "WishSea$Reader" "fault" "I").before args s = true := hts _ (List.mem_of_getElem? (i := 1) rfl)
  have w_1 : (Cond.fieldLink RX2 19 "WishSea$Reader" "place" "I").before args s = true := hts _ (List.mem_of_getElem? (i := 2) rfl)
  have w_2 : (Cond.fieldLink RX2 15 "WishSea$Reader" "token" "I").before args s = true := hts _ (List.mem_of_getElem? (i := 3) rfl)
  have hinX2 : ∀ w ∈ u_ws RX2 TX2 11, w ∈ wsX2_blame := fun _ h => List.mem_cons_of_mem _ (List.mem_append_right _ h)
  refine lv_aload_n hx hb dX2_blame_0 rfl (lv_at hl 0 rfl) ?_
  refine k_get (D := (dC, dI)) (ci := 2) (v := .int v0_9) (C := RX2) (T := TX2) (N := 11) hx hb hts hinX2 hown hK hP 0 rfl rfl 9 (by decide) w_0 rfl rfl dX2_blame_1 ?_
  refine lv_if_ne (tgt := 24) hx hb dX2_blame_4 (by decide) (fun c_4 => ?_) (fun c_4 => ?_)
  · have c_4 : ¬ v0_9 = 0 := c_4
    have f_24_1 : iR v0_9 1 6 := iR_neL c_4 hv0_9 (iR_c (n := 0) (a := 0) (b := 0) (by decide +kernel) (by decide +kernel)) (by decide +kernel)
    obtain d_4_1_0 := hpg0.resolve_left c_4
    have f_24_2 : iR v0_6 259 259 := iR_eqL d_4_1_0 hv0_6 (iR_c (n := 259) (a := 259) (b := 259) (by decide +kernel) (by decide +kernel)) (by decide +kernel)
    exact k_rv B hP hD hS dX2_blame_24 ((fun k9 => match k9 with | 0 => v0_6 | 1 => v0_9 | 2 => v0_10 | _ => 0), (fun _ => 0), (fun _ => (fun _ => 0)), (fun _ => (fun _ => 0)), (fun _ => 0)) [0] rfl rfl (Nat.le_of_ble_eq_true rfl) (Nat.le_of_ble_eq_true rfl) ⟨(show iR v0_6 259 259 from f_24_2), (show iR v0_9 1 6 from f_24_1), (show (0 : Int32) < v0_9 → (0 : Int32) < v0_9 from (fun h => h)), (show (v0_9 = 0) ∨ ((v0_6 = 259)) from (Or.inr d_4_1_0))⟩
  · have c_4 : v0_9 = 0 := c_4
    have f_7_1 : iR v0_9 0 0 := iR_eqL c_4 hv0_9 (iR_c (n := 0) (a := 0) (b := 0) (by decide +kernel) (by decide +kernel)) (by decide +kernel)
    refine lv_aload_n hx hb dX2_blame_7 rfl (lv_at hl 0 rfl) ?_
    refine lv_iload_n hx hb dX2_blame_8 rfl (lv_at hl 1 rfl) ?_
    refine k_put (D := (dC, dI)) (ci := 2) (v := .int x1) (C := RX2) (T := TX2) (N := 11) (ws' := [(a0, .inr (2, [.ref a0_0, .ref b0_1, .ref b0_2, .int v0_3, .int v0_4, .int v0_5, .int v0_6, .int v0_7, .int 6, .int x1, .int v0_10]))]) hx hb hts hinX2 tyX2 tyX2_ok nmX2 hown hK hP hD hS 0 rfl rfl 9 (by decide) w_0 rfl rfl rfl rfl (Nat.le_of_ble_eq_true rfl) rfl dX2_blame_9 (fun H locs hP hD hS => ?_)
    refine lv_aload_n hx hb dX2_blame_12 rfl (lv_at hl 0 rfl) ?_
    refine lv_iload_n hx hb dX2_blame_13 rfl (lv_at hl 2 rfl) ?_
    refine k_put (D := (dC, dI)) (ci := 2) (v := .int x2) (C := RX2) (T := TX2) (N := 11) (ws' := [(a0, .inr (2, [.ref a0_0, .ref b0_1, .ref b0_2, .int v0_3, .int v0_4, .int v0_5, .int v0_6, .int v0_7, .int 6, .int x1, .int x2]))]) hx hb hts hinX2 tyX2 tyX2_ok nmX2 hown hK hP hD hS 0 rfl rfl 10 (by decide) w_1 rfl rfl rfl rfl (Nat.le_of_ble_eq_true rfl) rfl dX2_blame_14 (fun H locs hP hD hS => ?_)
    refine lv_aload_n hx hb dX2_blame_17 rfl (lv_at hl 0 rfl) ?_
    refine lv_sipush (v := 259) hx hb dX2_blame_18 (by decide +kernel) ?_
    refine k_put (D := (dC, dI)) (ci := 2) (v := .int 259) (C := RX2) (T := TX2) (N := 11) (ws' := [(a0, .inr (2, [.ref a0_0, .ref b0_1, .ref b0_2, .int v0_3, .int v0_4, .int v0_5, .int 259, .int v0_7, .int 6, .int x1, .int x2]))]) hx hb hts hinX2 tyX2 tyX2_ok nmX2 hown hK hP hD hS 0 rfl rfl 6 (by decide) w_2 rfl rfl rfl rfl (Nat.le_of_ble_eq_true rfl) rfl dX2_blame_21 (fun H locs hP hD hS => ?_)
    exact k_rv B hP hD hS dX2_blame_24 ((fun k9 => match k9 with | 0 => 259 | 1 => x1 | 2 => x2 | _ => 0), (fun _ => 0), (fun _ => (fun _ => 0)), (fun _ => (fun _ => 0)), (fun _ => 0)) [0] rfl rfl (Nat.le_of_ble_eq_true rfl) (Nat.le_of_ble_eq_true rfl) ⟨(show iR 259 259 259 from (iR_c (n := 259) (a := 259) (b := 259) (by decide +kernel) (by decide +kernel))), (show iR x1 1 6 from hx1), (show (0 : Int32) < v0_9 → (0 : Int32) < x1 from (fun _ => (i_ltf (iR_c (n := 0) (a := 0) (b := 0) (by decide +kernel) (by decide +kernel)) hx1 (by decide +kernel)))), (show (x1 = 0) ∨ ((259 = 259)) from (Or.inr rfl))⟩
set_option maxHeartbeats 8000000 in
set_option maxRecDepth 100000 in
theorem s_X2_ownIndex_v13 (l : Launch) (dC : Nat → ClassId) (dI : Nat → Nat → Nat) (cI cJ cZ cM : ClassId) (a0 : Nat) (x1 : Int64) (a0_0 : Nat) (a0_1 : Nat) (g0_1 : Nat → Int64) (b0_2 : Nat) (v0_3 : Int32) (v0_4 : Int32) (v0_5 : Int32) (v0_6 : Int32) (v0_7 : Int32) (v0_9 : Int32) (v0_10 : Int32) (hv0_3 : iR v0_3 0 1600) (hv0_4 : iR v0_4 0 1600) (hv0_5 : iR v0_5 0 1600) (hv0_6 : iR v0_6 0 324) (hv0_9 : iR v0_9 0 6) : k_Mi l yX2_ownIndex wsX2_ownIndex ({ frames := 1, cells := 0, slots := 0, locals := 40 }) (dC, dI) vwCl (tyy cI cJ cZ cM) [(a0, .inr (2, [.ref a0_0, .ref a0_1, .ref b0_2, .int v0_3, .int v0_4, .int v0_5, .int v0_6, .int v0_7, .int 6, .int v0_9, .int v0_10])), (a0_1, .inl (cJ, 25, .inr (.inl g0_1)))] [.ref a0, .long x1] 0 0 (fun (u9 : Unit) => [(a0, .inr (2, [.ref a0_0, .ref a0_1, .ref b0_2, .int v0_3, .int v0_4, .int v0_5, .int v0_6, .int v0_7, .int 6, .int v0_9, .int v0_10])), (a0_1, .inl (cJ, 25, .inr (.inl g0_1)))]) (fun (r9 : Int32) (u9 : Unit) => (iR r9 (-1) 24)) := by
  refine fun sz => k_enter (cc := cX2_ownIndex) (maxL := 4) (ret := some (.int)) (Qc := fun A => va_Qi (fun (r9 : Int32) (u9 : Unit) => (iR r9 (-1) 24)) (fun u => k_B (dC, dI) vwCl (tyy cI cJ cZ cM) A ((fun (u9 : Unit) => [(a0, .inr (2, [.ref a0_0, .ref a0_1, .ref b0_2, .int v0_3, .int v0_4, .int v0_5, .int v0_6, .int v0_7, .int 6, .int v0_9, .int v0_10])), (a0_1, .inl (cJ, 25, .inr (.inl g0_1)))]) u)) A) sz (by decide +kernel) rfl (Nat.le_of_ble_eq_true rfl) (fun p e s m args below meth c A ls H locs B hP hD hS hl => ?_)
  obtain ⟨hx, hb, hml, hown, hts, hr, hlk, hnm, hK, hA, hN, hC⟩ := id B
  have hown : s.vm.findClass RX2 = some m.cls := hown
  have hl : lv_has ls 4 [(0, .ref a0), (1, .long x1)] := hl
  have w_0 : (Cond.fieldLink RX2 9 "WishSea$Reader" "ownKeys" "[J").before args s = true := hts _ (List.mem_of_getElem? (i := 1) rfl)
  have hinX2 : ∀ w ∈ u_ws RX2 TX2 11, w ∈ wsX2_ownIndex := fun _ h => List.mem_cons_of_mem _ (List.mem_append_right _ h)
  refine lv_iconst (v := 0) hx hb dX2_ownIndex_0 (by decide +kernel) ?_
  have J_2 : ∀ (n_2 : Nat) (j2_L3 : Int32) (hj2_L3 : iR j2_L3 0 26) (hm_2 : (26 - j2_L3.toInt).toNat < n_2) (H : Heap) (locs : List Loc) (ls : Array Slot), va_P (dC, dI) vwCl [(a0, .inr (2, [.ref a0_0, .ref a0_1, .ref b0_2, .int v0_3, .int v0_4, .int v0_5, .int v0_6, .int v0_7, .int 6, .int v0_9, .int v0_10])), (a0_1, .inl (cJ, 25, .inr (.inl g0_1)))] H → va_D A [(a0, .inr (2, [.ref a0_0, .ref a0_1, .ref b0_2, .int v0_3, .int v0_4, .int v0_5, .int v0_6, .int v0_7, .int 6, .int v0_9, .int v0_10])), (a0_1, .inl (cJ, 25, .inr (.inl g0_1)))] → va_S A s.heap H locs → lv_has ls 4 [(0, .ref a0), (1, .long x1), (3, .int j2_L3)] → W p l e ({ frames := 1, cells := 0, slots := 0, locals := 40 }) s m args below meth c H locs 0 0 (MQ below (va_Qi (fun (r9 : Int32) (u9 : Unit) => (iR r9 (-1) 24)) (fun u => k_B (dC, dI) vwCl (tyy cI cJ cZ cM) A ((fun (u9 : Unit) => [(a0, .inr (2, [.ref a0_0, .ref a0_1, .ref b0_2, .int v0_3, .int v0_4, .int v0_5, .int v0_6, .int v0_7, .int 6, .int v0_9, .int v0_10])), (a0_1, .inl (cJ, 25, .inr (.inl g0_1)))]) u)) A) args s 0 0 A) (F0 m 2 ls []) := by
    intro n_2
    induction n_2 with
    | zero => intro j2_L3 hj2_L3 hm_2; exact absurd hm_2 (Nat.not_lt_zero _)
    | succ n_2 ih_2 =>
      intro j2_L3 hj2_L3 hm_2 H locs ls hP hD hS hl
      refine lv_iload_n hx hb dX2_ownIndex_2 rfl (lv_at hl 2 rfl) ?_
      refine lv_aload_n hx hb dX2_ownIndex_3 rfl (lv_at hl 0 rfl) ?_
      refine k_get (D := (dC, dI)) (ci := 2) (v := .ref a0_1) (C := RX2) (T := TX2) (N := 11) hx hb hts hinX2 hown hK hP 0 rfl rfl 1 (by decide) w_0 rfl rfl dX2_ownIndex_4 ?_
      refine va_alen (v := 25) hx hb hK hP 1 1 rfl rfl rfl dX2_ownIndex_7 ?_
      refine lv_icmp_ge (tgt := 30) hx hb dX2_ownIndex_8 (by decide) (fun c_8 => ?_) (fun c_8 => ?_)
      · have c_8 : 25 ≤ j2_L3 := c_8
        have f_30_1 : iR j2_L3 25 26 := iR_leR c_8 (iR_c (n := 25) (a := 25) (b := 25) (by decide +kernel) (by decide +kernel)) hj2_L3 (by decide +kernel)
        refine lv_iconst (v := (-1)) hx hb dX2_ownIndex_30 (by decide +kernel) ?_
        exact k_ri B hP hD hS dX2_ownIndex_31 () [0, 1] rfl rfl rfl (Nat.le_of_ble_eq_true rfl) (Nat.le_of_ble_eq_true rfl) (show iR (-1) (-1) 24 from (iR_c (n := (-1)) (a := (-1)) (b := 24) (by decide +kernel) (by decide +kernel)))
      · have c_8 : j2_L3 < 25 := i_nle c_8
        have f_11_1 : iR j2_L3 0 24 := iR_ltL c_8 hj2_L3 (iR_c (n := 25) (a := 25) (b := 25) (by decide +kernel) (by decide +kernel)) (by decide +kernel)
        refine lv_aload_n hx hb dX2_ownIndex_11 rfl (lv_at hl 0 rfl) ?_
        refine k_get (D := (dC, dI)) (ci := 2) (v := .ref a0_1) (C := RX2) (T := TX2) (N := 11) hx hb hts hinX2 hown hK hP 0 rfl rfl 1 (by decide) w_0 rfl rfl dX2_ownIndex_12 ?_
        refine lv_iload_n hx hb dX2_ownIndex_15 rfl (lv_at hl 2 rfl) ?_
        refine va_lald hx hb hK hP 1 1 rfl rfl (iR_vp f_11_1 (by decide +kernel)) dX2_ownIndex_16 ?_
        refine lv_lload_n hx hb dX2_ownIndex_17 rfl (lv_at hl 1 rfl) ?_
        refine W.lcmp hx hb dX2_ownIndex_18 ?_
        refine lv_topi (fun y_18 ey_18 => ?_)
        refine lv_if_ne (tgt := 24) hx hb dX2_ownIndex_19 (by decide) (fun c_19 => ?_) (fun c_19 => ?_)
        · have c_19 : ¬ y_18 = 0 := c_19
          have lc_19 : ¬ (g0_1 j2_L3.toNatClampNeg) = x1 := l_cmpne ey_18 c_19
          obtain ⟨y_24, ey_24⟩ : ∃ y : Int32, y = j2_L3 + 1 := ⟨_, rfl⟩
          refine lv_iinc (v := y_24) (lv' := [(3, .int y_24), (0, .ref a0), (1, .long x1)]) hx hb dX2_ownIndex_24 hl (k := 2) rfl ey_24.symm (by decide) rfl (fun ls hl => ?_)
          have f_24_2 : iR y_24 1 25 := iR_add ey_24 f_11_1 (iR_c (n := 1) (a := 1) (b := 1) (by decide +kernel) (by decide +kernel)) (by decide +kernel)
          refine lv_goto (tgt := 2) hx hb dX2_ownIndex_27 (by decide) ?_
          exact ih_2 y_24 (iR_w f_24_2 (by decide +kernel)) (m_up (B := 26) hm_2 ey_24 f_11_1 (by decide +kernel)) H locs ls hP hD hS (lv_sub hl [1, 2, 0] rfl)
        · have c_19 : y_18 = 0 := c_19
          have f_22_2 : iR y_18 0 0 := iR_eqL c_19 (iR_top _) (iR_c (n := 0) (a := 0) (b := 0) (by decide +kernel) (by decide +kernel)) (by decide +kernel)
          have lc_19 : (g0_1 j2_L3.toNatClampNeg) = x1 := l_cmpe ey_18 c_19
          refine lv_iload_n hx hb dX2_ownIndex_22 rfl (lv_at hl 2 rfl) ?_
          exact k_ri B hP hD hS dX2_ownIndex_23 () [0, 1] rfl rfl rfl (Nat.le_of_ble_eq_true rfl) (Nat.le_of_ble_eq_true rfl) (show iR j2_L3 (-1) 24 from (iR_w f_11_1 (by decide +kernel)))
  refine lv_istore_n (lv' := [(3, .int 0), (0, .ref a0), (1, .long x1)]) hx hb dX2_ownIndex_1 rfl hl (by decide) rfl (fun ls hl => ?_)
  exact J_2 _ 0 (iR_c (n := 0) (a := 0) (b := 26) (by decide +kernel) (by decide +kernel)) (Nat.lt_succ_self _) H locs ls hP hD hS (lv_sub hl [1, 2, 0] rfl)
set_option maxHeartbeats 8000000 in
set_option maxRecDepth 100000 in
theorem s_X2_blame_v20 (l : Launch) (dC : Nat → ClassId) (dI : Nat → Nat → Nat) (cI cJ cZ cM : ClassId) (a0 : Nat) (x1 : Int32) (x2 : Int32) (a0_0 : Nat) (a0_1 : Nat) (b0_2 : Nat) (v0_3 : Int32) (v0_4 : Int32) (v0_5 : Int32) (v0_6 : Int32) (v0_7 : Int32) (v0_9 : Int32) (v0_10 : Int32) (hx1 : iR x1 1 6) (hv0_3 : iR v0_3 0 1600) (hv0_4 : iR v0_4 0 1600) (hv0_5 : iR v0_5 0 1600) (hv0_6 : iR v0_6 0 324) (hv0_9 : iR v0_9 0 6) (hpg0 : (v0_9 = 0) ∨ ((v0_6 = 259))) : k_Mv l yX2_blame wsX2_blame ({ frames := 1, cells := 0, slots := 0, locals := 40 }) (dC, dI) vwCl (tyy cI cJ cZ cM) [(a0, .inr (2, [.ref a0_0, .ref a0_1, .ref b0_2, .int v0_3, .int v0_4, .int v0_5, .int v0_6, .int v0_7, .int 6, .int v0_9, .int v0_10]))] [.ref a0, .int x1, .int x2] 0 0 (fun (u9 : SU) => [(a0, .inr (2, [.ref a0_0, .ref a0_1, .ref b0_2, .int v0_3, .int v0_4, .int v0_5, .int (u9.1 0), .int v0_7, .int 6, .int (u9.1 1), .int (u9.1 2)]))]) (fun (u9 : SU) => (iR (u9.1 0) 259 259) ∧ (iR (u9.1 1) 1 6) ∧ ((0 : Int32) < v0_9 → (0 : Int32) < (u9.1 1)) ∧ (((u9.1 1) = 0) ∨ (((u9.1 0) = 259)))) := by
  refine fun sz => k_enter (cc := cX2_blame) (maxL := 3) (ret := none) (Qc := fun A => va_Qv (fun (u9 : SU) => (iR (u9.1 0) 259 259) ∧ (iR (u9.1 1) 1 6) ∧ ((0 : Int32) < v0_9 → (0 : Int32) < (u9.1 1)) ∧ (((u9.1 1) = 0) ∨ (((u9.1 0) = 259)))) (fun u => k_B (dC, dI) vwCl (tyy cI cJ cZ cM) A ((fun (u9 : SU) => [(a0, .inr (2, [.ref a0_0, .ref a0_1, .ref b0_2, .int v0_3, .int v0_4, .int v0_5, .int (u9.1 0), .int v0_7, .int 6, .int (u9.1 1), .int (u9.1 2)]))]) u)) A) sz (by decide +kernel) rfl (Nat.le_of_ble_eq_true rfl) (fun p e s m args below meth c A ls H locs B hP hD hS hl => ?_)
  obtain ⟨hx, hb, hml, hown, hts, hr, hlk, hnm, hK, hA, hN, hC⟩ := id B
  have hown : s.vm.findClass RX2 = some m.cls := hown
  have hl : lv_has ls 3 [(0, .ref a0), (1, .int x1), (2, .int x2)] := hl
  have w_0 : (Cond.fieldLink RX2 63 "WishSea$Reader" "fault" "I").before args s = true := hts _ (List.mem_of_getElem? (i := 1) rfl)
  have w_1 : (Cond.fieldLink RX2 19 "WishSea$Reader" "place" "I").before args s = true := hts _ (List.mem_of_getElem? (i := 2) rfl)
  have w_2 : (Cond.fieldLink RX2 15 "WishSea$Reader" "token" "I").before args s = true := hts _ (List.mem_of_getElem? (i := 3) rfl)
  have hinX2 : ∀ w ∈ u_ws RX2 TX2 11, w ∈ wsX2_blame := fun _ h => List.mem_cons_of_mem _ (List.mem_append_right _ h)
  refine lv_aload_n hx hb dX2_blame_0 rfl (lv_at hl 0 rfl) ?_
  refine k_get (D := (dC, dI)) (ci := 2) (v := .int v0_9) (C := RX2) (T := TX2) (N := 11) hx hb hts hinX2 hown hK hP 0 rfl rfl 9 (by decide) w_0 rfl rfl dX2_blame_1 ?_
  refine lv_if_ne (tgt := 24) hx hb dX2_blame_4 (by decide) (fun c_4 => ?_) (fun c_4 => ?_)
  · have c_4 : ¬ v0_9 = 0 := c_4
    have f_24_1 : iR v0_9 1 6 := iR_neL c_4 hv0_9 (iR_c (n := 0) (a := 0) (b := 0) (by decide +kernel) (by decide +kernel)) (by decide +kernel)
    obtain d_4_1_0 := hpg0.resolve_left c_4
    have f_24_2 : iR v0_6 259 259 := iR_eqL d_4_1_0 hv0_6 (iR_c (n := 259) (a := 259) (b := 259) (by decide +kernel) (by decide +kernel)) (by decide +kernel)
    exact k_rv B hP hD hS dX2_blame_24 ((fun k9 => match k9 with | 0 => v0_6 | 1 => v0_9 | 2 => v0_10 | _ => 0), (fun _ => 0), (fun _ => (fun _ => 0)), (fun _ => (fun _ => 0)), (fun _ => 0)) [0] rfl rfl (Nat.le_of_ble_eq_true rfl) (Nat.le_of_ble_eq_true rfl) ⟨(show iR v0_6 259 259 from f_24_2), (show iR v0_9 1 6 from f_24_1), (show (0 : Int32) < v0_9 → (0 : Int32) < v0_9 from (fun h => h)), (show (v0_9 = 0) ∨ ((v0_6 = 259)) from (Or.inr d_4_1_0))⟩
  · have c_4 : v0_9 = 0 := c_4
    have f_7_1 : iR v0_9 0 0 := iR_eqL c_4 hv0_9 (iR_c (n := 0) (a := 0) (b := 0) (by decide +kernel) (by decide +kernel)) (by decide +kernel)
    refine lv_aload_n hx hb dX2_blame_7 rfl (lv_at hl 0 rfl) ?_
    refine lv_iload_n hx hb dX2_blame_8 rfl (lv_at hl 1 rfl) ?_
    refine k_put (D := (dC, dI)) (ci := 2) (v := .int x1) (C := RX2) (T := TX2) (N := 11) (ws' := [(a0, .inr (2, [.ref a0_0, .ref a0_1, .ref b0_2, .int v0_3, .int v0_4, .int v0_5, .int v0_6, .int v0_7, .int 6, .int x1, .int v0_10]))]) hx hb hts hinX2 tyX2 tyX2_ok nmX2 hown hK hP hD hS 0 rfl rfl 9 (by decide) w_0 rfl rfl rfl rfl (Nat.le_of_ble_eq_true rfl) rfl dX2_blame_9 (fun H locs hP hD hS => ?_)
    refine lv_aload_n hx hb dX2_blame_12 rfl (lv_at hl 0 rfl) ?_
    refine lv_iload_n hx hb dX2_blame_13 rfl (lv_at hl 2 rfl) ?_
    refine k_put (D := (dC, dI)) (ci := 2) (v := .int x2) (C := RX2) (T := TX2) (N := 11) (ws' := [(a0, .inr (2, [.ref a0_0, .ref a0_1, .ref b0_2, .int v0_3, .int v0_4, .int v0_5, .int v0_6, .int v0_7, .int 6, .int x1, .int x2]))]) hx hb hts hinX2 tyX2 tyX2_ok nmX2 hown hK hP hD hS 0 rfl rfl 10 (by decide) w_1 rfl rfl rfl rfl (Nat.le_of_ble_eq_true rfl) rfl dX2_blame_14 (fun H locs hP hD hS => ?_)
    refine lv_aload_n hx hb dX2_blame_17 rfl (lv_at hl 0 rfl) ?_
    refine lv_sipush (v := 259) hx hb dX2_blame_18 (by decide +kernel) ?_
    refine k_put (D := (dC, dI)) (ci := 2) (v := .int 259) (C := RX2) (T := TX2) (N := 11) (ws' := [(a0, .inr (2, [.ref a0_0, .ref a0_1, .ref b0_2, .int v0_3, .int v0_4, .int v0_5, .int 259, .int v0_7, .int 6, .int x1, .int x2]))]) hx hb hts hinX2 tyX2 tyX2_ok nmX2 hown hK hP hD hS 0 rfl rfl 6 (by decide) w_2 rfl rfl rfl rfl (Nat.le_of_ble_eq_true rfl) rfl dX2_blame_21 (fun H locs hP hD hS => ?_)
    exact k_rv B hP hD hS dX2_blame_24 ((fun k9 => match k9 with | 0 => 259 | 1 => x1 | 2 => x2 | _ => 0), (fun _ => 0), (fun _ => (fun _ => 0)), (fun _ => (fun _ => 0)), (fun _ => 0)) [0] rfl rfl (Nat.le_of_ble_eq_true rfl) (Nat.le_of_ble_eq_true rfl) ⟨(show iR 259 259 259 from (iR_c (n := 259) (a := 259) (b := 259) (by decide +kernel) (by decide +kernel))), (show iR x1 1 6 from hx1), (show (0 : Int32) < v0_9 → (0 : Int32) < x1 from (fun _ => (i_ltf (iR_c (n := 0) (a := 0) (b := 0) (by decide +kernel) (by decide +kernel)) hx1 (by decide +kernel)))), (show (x1 = 0) ∨ ((259 = 259)) from (Or.inr rfl))⟩
set_option maxHeartbeats 8000000 in
set_option maxRecDepth 100000 in
theorem s_X2_readNumber_v13 (l : Launch) (dC : Nat → ClassId) (dI : Nat → Nat → Nat) (cI cJ cZ cM : ClassId) (a0 : Nat) (a0_0 : Nat) (f0_0 : Nat → Int32) (a0_1 : Nat) (b0_2 : Nat) (v0_3 : Int32) (v0_4 : Int32) (v0_5 : Int32) (v0_6 : Int32) (v0_7 : Int32) (v0_9 : Int32) (v0_10 : Int32) (hxv0_9 : iR v0_9 0 0) (hv0_3 : iR v0_3 0 1600) (hv0_4 : iR v0_4 0 1600) (hv0_5 : iR v0_5 0 1600) (hv0_6 : iR v0_6 0 324) (hv0_9 : iR v0_9 0 6) (hf0_0 : aR f0_0 0 255) (hpg0 : (v0_9 = 0) ∨ ((v0_6 = 259))) : k_Mv l yX2_readNumber wsX2_readNumber ({ frames := 2, cells := 0, slots := 0, locals := 62 }) (dC, dI) vwCl (tyy cI cJ cZ cM) [(a0, .inr (2, [.ref a0_0, .ref a0_1, .ref b0_2, .int v0_3, .int v0_4, .int v0_5, .int v0_6, .int v0_7, .int 6, .int v0_9, .int v0_10])), (a0_0, .inl (cI, 1600, .inl f0_0))] [.ref a0] 0 0 (fun (u9 : SU) => [(a0, .inr (2, [.ref a0_0, .ref a0_1, .ref b0_2, .int v0_3, .int (u9.1 0), .int v0_5, .int (u9.1 1), .int (u9.1 2), .int 6, .int (u9.1 3), .int (u9.1 4)])), (a0_0, .inl (cI, 1600, .inl f0_0))]) (fun (u9 : SU) => (iR (u9.1 0) 0 1600) ∧ (iR (u9.1 1) 257 259) ∧ (iR (u9.1 3) 0 6) ∧ ((0 : Int32) < v0_9 → (0 : Int32) < (u9.1 3)) ∧ (((u9.1 3) = 0) ∨ (((u9.1 1) = 259)))) := by
  refine fun sz => k_enter (cc := cX2_readNumber) (maxL := 2) (ret := none) (Qc := fun A => va_Qv (fun (u9 : SU) => (iR (u9.1 0) 0 1600) ∧ (iR (u9.1 1) 257 259) ∧ (iR (u9.1 3) 0 6) ∧ ((0 : Int32) < v0_9 → (0 : Int32) < (u9.1 3)) ∧ (((u9.1 3) = 0) ∨ (((u9.1 1) = 259)))) (fun u => k_B (dC, dI) vwCl (tyy cI cJ cZ cM) A ((fun (u9 : SU) => [(a0, .inr (2, [.ref a0_0, .ref a0_1, .ref b0_2, .int v0_3, .int (u9.1 0), .int v0_5, .int (u9.1 1), .int (u9.1 2), .int 6, .int (u9.1 3), .int (u9.1 4)])), (a0_0, .inl (cI, 1600, .inl f0_0))]) u)) A) sz (by decide +kernel) rfl (Nat.le_of_ble_eq_true rfl) (fun p e s m args below meth c A ls H locs B hP hD hS hl => ?_)
  obtain ⟨hx, hb, hml, hown, hts, hr, hlk, hnm, hK, hA, hN, hC⟩ := id B
  have hown : s.vm.findClass RX2 = some m.cls := hown
  have hl : lv_has ls 2 [(0, .ref a0)] := hl
  have w_0 : (Cond.fieldLink RX2 57 "WishSea$Reader" "position" "I").before args s = true := hts _ (List.mem_of_getElem? (i := 1) rfl)
  have w_1 : (Cond.fieldLink RX2 55 "WishSea$Reader" "length" "I").before args s = true := hts _ (List.mem_of_getElem? (i := 2) rfl)
  have w_2 : (Cond.fieldLink RX2 73 "WishSea$Reader" "start" "I").before args s = true := hts _ (List.mem_of_getElem? (i := 4) rfl)
  have w_3 : (Cond.fieldLink RX2 15 "WishSea$Reader" "token" "I").before args s = true := hts _ (List.mem_of_getElem? (i := 5) rfl)
  have w_4 : (Cond.fieldLink RX2 172 "WishSea$Reader" "value" "I").before args s = true := hts _ (List.mem_of_getElem? (i := 6) rfl)
  have w_5 : (Cond.fieldLink RX2 22 "WishSea$Reader" "text" "[I").before args s = true := hts _ (List.mem_of_getElem? (i := 3) rfl)
  have hinX2 : ∀ w ∈ u_ws RX2 TX2 11, w ∈ wsX2_readNumber := fun _ h => List.mem_cons_of_mem _ (List.mem_append_right _ h)
  refine lv_iconst (v := 0) hx hb dX2_readNumber_0 (by decide +kernel) ?_
  have J_2 : ∀ (n_2 : Nat) (j2_F0_4 : Int32) (j2_L1 : Int32) (hj2_F0_4 : iR j2_F0_4 0 1600) (hm_2 : (1600 - j2_F0_4.toInt).toNat < n_2) (H : Heap) (locs : List Loc) (ls : Array Slot), va_P (dC, dI) vwCl [(a0, .inr (2, [.ref a0_0, .ref a0_1, .ref b0_2, .int v0_3, .int j2_F0_4, .int v0_5, .int v0_6, .int v0_7, .int 6, .int v0_9, .int v0_10])), (a0_0, .inl (cI, 1600, .inl f0_0))] H → va_D A [(a0, .inr (2, [.ref a0_0, .ref a0_1, .ref b0_2, .int v0_3, .int j2_F0_4, .int v0_5, .int v0_6, .int v0_7, .int 6, .int v0_9, .int v0_10])), (a0_0, .inl (cI, 1600, .inl f0_0))] → va_S A s.heap H locs → lv_has ls 2 [(0, .ref a0), (1, .int j2_L1)] → W p l e ({ frames := 2, cells := 0, slots := 0, locals := 62 }) s m args below meth c H locs 0 0 (MQ below (va_Qv (fun (u9 : SU) => (iR (u9.1 0) 0 1600) ∧ (iR (u9.1 1) 257 259) ∧ (iR (u9.1 3) 0 6) ∧ ((0 : Int32) < v0_9 → (0 : Int32) < (u9.1 3)) ∧ (((u9.1 3) = 0) ∨ (((u9.1 1) = 259)))) (fun u => k_B (dC, dI) vwCl (tyy cI cJ cZ cM) A ((fun (u9 : SU) => [(a0, .inr (2, [.ref a0_0, .ref a0_1, .ref b0_2, .int v0_3, .int (u9.1 0), .int v0_5, .int (u9.1 1), .int (u9.1 2), .int 6, .int (u9.1 3), .int (u9.1 4)])), (a0_0, .inl (cI, 1600, .inl f0_0))]) u)) A) args s 0 0 A) (F0 m 2 ls []) := by
    intro n_2
    induction n_2 with
    | zero => intro j2_F0_4 j2_L1 hj2_F0_4 hm_2; exact absurd hm_2 (Nat.not_lt_zero _)
    | succ n_2 ih_2 =>
      intro j2_F0_4 j2_L1 hj2_F0_4 hm_2 H locs ls hP hD hS hl
      refine lv_aload_n hx hb dX2_readNumber_2 rfl (lv_at hl 0 rfl) ?_
      refine k_get (D := (dC, dI)) (ci := 2) (v := .int j2_F0_4) (C := RX2) (T := TX2) (N := 11) hx hb hts hinX2 hown hK hP 0 rfl rfl 4 (by decide) w_0 rfl rfl dX2_readNumber_3 ?_
      refine lv_aload_n hx hb dX2_readNumber_6 rfl (lv_at hl 0 rfl) ?_
      refine k_get (D := (dC, dI)) (ci := 2) (v := .int v0_3) (C := RX2) (T := TX2) (N := 11) hx hb hts hinX2 hown hK hP 0 rfl rfl 3 (by decide) w_1 rfl rfl dX2_readNumber_7 ?_
      have J_72 : ∀   (H : Heap) (locs : List Loc) (ls : Array Slot), va_P (dC, dI) vwCl [(a0, .inr (2, [.ref a0_0, .ref a0_1, .ref b0_2, .int v0_3, .int j2_F0_4, .int v0_5, .int v0_6, .int v0_7, .int 6, .int v0_9, .int v0_10])), (a0_0, .inl (cI, 1600, .inl f0_0))] H → va_D A [(a0, .inr (2, [.ref a0_0, .ref a0_1, .ref b0_2, .int v0_3, .int j2_F0_4, .int v0_5, .int v0_6, .int v0_7, .int 6, .int v0_9, .int v0_10])), (a0_0, .inl (cI, 1600, .inl f0_0))] → va_S A s.heap H locs → lv_has ls 2 [(0, .ref a0), (1, .int j2_L1)] → W p l e ({ frames := 2, cells := 0, slots := 0, locals := 62 }) s m args below meth c H locs 0 0 (MQ below (va_Qv (fun (u9 : SU) => (iR (u9.1 0) 0 1600) ∧ (iR (u9.1 1) 257 259) ∧ (iR (u9.1 3) 0 6) ∧ ((0 : Int32) < v0_9 → (0 : Int32) < (u9.1 3)) ∧ (((u9.1 3) = 0) ∨ (((u9.1 1) = 259)))) (fun u => k_B (dC, dI) vwCl (tyy cI cJ cZ cM) A ((fun (u9 : SU) => [(a0, .inr (2, [.ref a0_0, .ref a0_1, .ref b0_2, .int v0_3, .int (u9.1 0), .int v0_5, .int (u9.1 1), .int (u9.1 2), .int 6, .int (u9.1 3), .int (u9.1 4)])), (a0_0, .inl (cI, 1600, .inl f0_0))]) u)) A) args s 0 0 A) (F0 m 72 ls []) := by
        intro   H locs ls hP hD hS hl
        refine lv_aload_n hx hb dX2_readNumber_72 rfl (lv_at hl 0 rfl) ?_
        refine k_get (D := (dC, dI)) (ci := 2) (v := .int j2_F0_4) (C := RX2) (T := TX2) (N := 11) hx hb hts hinX2 hown hK hP 0 rfl rfl 4 (by decide) w_0 rfl rfl dX2_readNumber_73 ?_
        refine lv_aload_n hx hb dX2_readNumber_76 rfl (lv_at hl 0 rfl) ?_
        refine k_get (D := (dC, dI)) (ci := 2) (v := .int v0_5) (C := RX2) (T := TX2) (N := 11) hx hb hts hinX2 hown hK hP 0 rfl rfl 5 (by decide) w_2 rfl rfl dX2_readNumber_77 ?_
        refine lv_isub hx hb dX2_readNumber_80 ?_
        refine lv_topi (fun y_80 ey_80 => ?_)
        have f_80_1 : iR y_80 (-1600) 1600 := iR_sub ey_80 hj2_F0_4 hv0_5 (by decide +kernel)
        refine lv_iconst (v := 4) hx hb dX2_readNumber_81 (by decide +kernel) ?_
        refine lv_icmp_le (tgt := 99) hx hb dX2_readNumber_82 (by decide) (fun c_82 => ?_) (fun c_82 => ?_)
        · have c_82 : y_80 ≤ 4 := c_82
          have f_99_2 : iR y_80 (-1600) 4 := iR_leL c_82 f_80_1 (iR_c (n := 4) (a := 4) (b := 4) (by decide +kernel) (by decide +kernel)) (by decide +kernel)
          refine lv_aload_n hx hb dX2_readNumber_99 rfl (lv_at hl 0 rfl) ?_
          refine lv_sipush (v := 257) hx hb dX2_readNumber_100 (by decide +kernel) ?_
          refine k_put (D := (dC, dI)) (ci := 2) (v := .int 257) (C := RX2) (T := TX2) (N := 11) (ws' := [(a0, .inr (2, [.ref a0_0, .ref a0_1, .ref b0_2, .int v0_3, .int j2_F0_4, .int v0_5, .int 257, .int v0_7, .int 6, .int v0_9, .int v0_10])), (a0_0, .inl (cI, 1600, .inl f0_0))]) hx hb hts hinX2 tyX2 tyX2_ok nmX2 hown hK hP hD hS 0 rfl rfl 6 (by decide) w_3 rfl rfl rfl rfl (Nat.le_of_ble_eq_true rfl) rfl dX2_readNumber_103 (fun H locs hP hD hS => ?_)
          refine lv_aload_n hx hb dX2_readNumber_106 rfl (lv_at hl 0 rfl) ?_
          refine lv_iload_n hx hb dX2_readNumber_107 rfl (lv_at hl 1 rfl) ?_
          refine k_put (D := (dC, dI)) (ci := 2) (v := .int j2_L1) (C := RX2) (T := TX2) (N := 11) (ws' := [(a0, .inr (2, [.ref a0_0, .ref a0_1, .ref b0_2, .int v0_3, .int j2_F0_4, .int v0_5, .int 257, .int j2_L1, .int 6, .int v0_9, .int v0_10])), (a0_0, .inl (cI, 1600, .inl f0_0))]) hx hb hts hinX2 tyX2 tyX2_ok nmX2 hown hK hP hD hS 0 rfl rfl 7 (by decide) w_4 rfl rfl rfl rfl (Nat.le_of_ble_eq_true rfl) rfl dX2_readNumber_108 (fun H locs hP hD hS => ?_)
          exact k_rv B hP hD hS dX2_readNumber_111 ((fun k9 => match k9 with | 0 => j2_F0_4 | 1 => 257 | 2 => j2_L1 | 3 => v0_9 | 4 => v0_10 | _ => 0), (fun _ => 0), (fun _ => (fun _ => 0)), (fun _ => (fun _ => 0)), (fun _ => 0)) [0, 1] rfl rfl (Nat.le_of_ble_eq_true rfl) (Nat.le_of_ble_eq_true rfl) ⟨(show iR j2_F0_4 0 1600 from hj2_F0_4), (show iR 257 257 259 from (iR_c (n := 257) (a := 257) (b := 259) (by decide +kernel) (by decide +kernel))), (show iR v0_9 0 6 from (iR_w hxv0_9 (by decide +kernel))), (show (0 : Int32) < v0_9 → (0 : Int32) < v0_9 from (fun h => h)), (show (v0_9 = 0) ∨ ((257 = 259)) from (Or.inl (i_eqc hxv0_9 (iR_c (n := 0) (a := 0) (b := 0) (by decide +kernel) (by decide +kernel)))))⟩
        · have c_82 : 4 < y_80 := i_nle c_82
          have f_85_2 : iR y_80 5 1600 := iR_ltR c_82 (iR_c (n := 4) (a := 4) (b := 4) (by decide +kernel) (by decide +kernel)) f_80_1 (by decide +kernel)
          refine lv_aload_n hx hb dX2_readNumber_85 rfl (lv_at hl 0 rfl) ?_
          refine lv_iconst (v := 1) hx hb dX2_readNumber_86 (by decide +kernel) ?_
          refine lv_aload_n hx hb dX2_readNumber_87 rfl (lv_at hl 0 rfl) ?_
          refine k_get (D := (dC, dI)) (ci := 2) (v := .int v0_5) (C := RX2) (T := TX2) (N := 11) hx hb hts hinX2 hown hK hP 0 rfl rfl 5 (by decide) w_2 rfl rfl dX2_readNumber_88 ?_
          refine lv_iconst (v := 4) hx hb dX2_readNumber_91 (by decide +kernel) ?_
          refine lv_iadd hx hb dX2_readNumber_92 ?_
          refine lv_topi (fun y_92 ey_92 => ?_)
          have f_92_3 : iR y_92 4 1604 := iR_add ey_92 hv0_5 (iR_c (n := 4) (a := 4) (b := 4) (by decide +kernel) (by decide +kernel)) (by decide +kernel)
          refine k_cv (wc := [(a0, .inr (2, [.ref a0_0, .ref a0_1, .ref b0_2, .int v0_3, .int j2_F0_4, .int v0_5, .int v0_6, .int v0_7, .int 6, .int v0_9, .int v0_10]))]) (wr := [(a0_0, .inl (cI, 1600, .inl f0_0))]) (fun hPc hDc hFc => va_runV (As := [.int 1, .int y_92]) (rest := []) ⟨hx, hb, hml, hown, hts⟩ (s_X2_blame_v19 l dC dI cI cJ cZ cM a0 1 y_92 a0_0 a0_1 b0_2 v0_3 j2_F0_4 v0_5 v0_6 v0_7 v0_9 v0_10 (iR_c (n := 1) (a := 1) (b := 6) (by decide +kernel) (by decide +kernel)) hv0_3 hj2_F0_4 hv0_5 hv0_6 (iR_w hxv0_9 (by decide +kernel)) hpg0 H.size) (cwV 2 hts gX2_readNumber_X2_blame rfl rfl rfl (by decide +kernel) ⟨(Nat.le_of_ble_eq_true rfl), (Nat.le_of_ble_eq_true rfl)⟩) (k_pV hPc hDc hK hN hC hS hFc hP (q0 := 0) (ci := 2) rfl rfl) rfl rfl hl.1 rfl (lv_room (Nat.le_of_ble_eq_true rfl)) dX2_readNumber_93 ⟨(Nat.le_of_ble_eq_true rfl), (Nat.le_of_ble_eq_true rfl)⟩) hP hD hS hA [0] [1] rfl rfl rfl rfl (by decide) (fun _ => rfl) 0 0 rfl rfl (fun u_93 H locs hw hP hD hS => ?_)
          obtain ⟨g_93_0, g_93_1, g_93_2, g_93_3⟩ := hw
          have hP : va_P (dC, dI) vwCl [(a0_0, .inl (cI, 1600, .inl f0_0)), (a0, .inr (2, [.ref a0_0, .ref a0_1, .ref b0_2, .int v0_3, .int j2_F0_4, .int v0_5, .int (u_93.1 0), .int v0_7, .int 6, .int (u_93.1 1), .int (u_93.1 2)]))] H := hP
          have hD : va_D A [(a0_0, .inl (cI, 1600, .inl f0_0)), (a0, .inr (2, [.ref a0_0, .ref a0_1, .ref b0_2, .int v0_3, .int j2_F0_4, .int v0_5, .int (u_93.1 0), .int v0_7, .int 6, .int (u_93.1 1), .int (u_93.1 2)]))] := hD
          have g_93_2 : (0 : Int32) < v0_9 → (0 : Int32) < (u_93.1 1) := g_93_2
          have g_93_3 : ((u_93.1 1) = 0) ∨ (((u_93.1 0) = 259)) := g_93_3
          obtain d93_1_0 := g_93_3.resolve_left (i_nef g_93_1 (iR_c (n := 0) (a := 0) (b := 0) (by decide +kernel) (by decide +kernel)) (by decide +kernel))
          refine lv_goto (tgt := 111) hx hb dX2_readNumber_96 (by decide) ?_
          exact k_rv B hP hD hS dX2_readNumber_111 ((fun k9 => match k9 with | 0 => j2_F0_4 | 1 => (u_93.1 0) | 2 => v0_7 | 3 => (u_93.1 1) | 4 => (u_93.1 2) | _ => 0), (fun _ => 0), (fun _ => (fun _ => 0)), (fun _ => (fun _ => 0)), (fun _ => 0)) [1, 0] rfl rfl (Nat.le_of_ble_eq_true rfl) (Nat.le_of_ble_eq_true rfl) ⟨(show iR j2_F0_4 0 1600 from hj2_F0_4), (show iR (u_93.1 0) 257 259 from (iR_w g_93_0 (by decide +kernel))), (show iR (u_93.1 1) 0 6 from (iR_w g_93_1 (by decide +kernel))), (show (0 : Int32) < v0_9 → (0 : Int32) < (u_93.1 1) from (fun h => g_93_2 ((fun h => h) h))), (show ((u_93.1 1) = 0) ∨ (((u_93.1 0) = 259)) from (Or.inr d93_1_0))⟩
      refine lv_icmp_ge (tgt := 72) hx hb dX2_readNumber_10 (by decide) (fun c_10 => ?_) (fun c_10 => ?_)
      · have c_10 : v0_3 ≤ j2_F0_4 := c_10
        exact J_72   H locs ls hP hD hS (lv_sub hl [0, 1] rfl)
      · have c_10 : j2_F0_4 < v0_3 := i_nle c_10
        have f_13_1 : iR j2_F0_4 0 1599 := iR_ltL c_10 hj2_F0_4 hv0_3 (by decide +kernel)
        have f_13_2 : iR v0_3 1 1600 := iR_ltR c_10 hj2_F0_4 hv0_3 (by decide +kernel)
        refine lv_aload_n hx hb dX2_readNumber_13 rfl (lv_at hl 0 rfl) ?_
        refine k_get (D := (dC, dI)) (ci := 2) (v := .ref a0_0) (C := RX2) (T := TX2) (N := 11) hx hb hts hinX2 hown hK hP 0 rfl rfl 0 (by decide) w_5 rfl rfl dX2_readNumber_14 ?_
        refine lv_aload_n hx hb dX2_readNumber_17 rfl (lv_at hl 0 rfl) ?_
        refine k_get (D := (dC, dI)) (ci := 2) (v := .int j2_F0_4) (C := RX2) (T := TX2) (N := 11) hx hb hts hinX2 hown hK hP 0 rfl rfl 4 (by decide) w_0 rfl rfl dX2_readNumber_18 ?_
        refine va_iald hx hb hK hP 1 0 rfl rfl (iR_vp f_13_1 (by decide +kernel)) dX2_readNumber_21 ?_
        have f_21_3 : iR (f0_0 j2_F0_4.toNatClampNeg) 0 255 := hf0_0 _
        refine k_ci (wc := []) (wr := [(a0, .inr (2, [.ref a0_0, .ref a0_1, .ref b0_2, .int v0_3, .int j2_F0_4, .int v0_5, .int v0_6, .int v0_7, .int 6, .int v0_9, .int v0_10])), (a0_0, .inl (cI, 1600, .inl f0_0))]) (fun hPc hDc hFc => va_runS (As := [.int (f0_0 j2_F0_4.toNatClampNeg)]) (rest := []) ⟨hx, hb, hml, hown, hts⟩ (s_X2_isDigit_v0 l dC dI cI cJ cZ cM (f0_0 j2_F0_4.toNatClampNeg) H.size) (va_cwS 1 hts gX2_readNumber_X2_isDigit rfl rfl rfl (by decide +kernel) ⟨(Nat.le_of_ble_eq_true rfl), (Nat.le_of_ble_eq_true rfl)⟩) (k_pS hPc hDc hK hN hC hS hFc) rfl rfl hl.1 rfl (lv_room (Nat.le_of_ble_eq_true rfl)) dX2_readNumber_22 ⟨(Nat.le_of_ble_eq_true rfl), (Nat.le_of_ble_eq_true rfl)⟩) hP hD hS hA [] [0, 1] rfl rfl rfl rfl (by decide) (fun _ => rfl) 0 0 rfl rfl (fun r_22 u_22 H locs hw hP hD hS => ?_)
        have g_22_0 := hw
        have hP : va_P (dC, dI) vwCl [(a0, .inr (2, [.ref a0_0, .ref a0_1, .ref b0_2, .int v0_3, .int j2_F0_4, .int v0_5, .int v0_6, .int v0_7, .int 6, .int v0_9, .int v0_10])), (a0_0, .inl (cI, 1600, .inl f0_0))] H := hP
        have hD : va_D A [(a0, .inr (2, [.ref a0_0, .ref a0_1, .ref b0_2, .int v0_3, .int j2_F0_4, .int v0_5, .int v0_6, .int v0_7, .int 6, .int v0_9, .int v0_10])), (a0_0, .inl (cI, 1600, .inl f0_0))] := hD
        refine lv_if_eq (tgt := 72) hx hb dX2_readNumber_25 (by decide) (fun c_25 => ?_) (fun c_25 => ?_)
        · have c_25 : r_22 = 0 := c_25
          have f_72_4 : iR r_22 0 0 := iR_eqL c_25 g_22_0 (iR_c (n := 0) (a := 0) (b := 0) (by decide +kernel) (by decide +kernel)) (by decide +kernel)
          exact J_72   H locs ls hP hD hS (lv_sub hl [0, 1] rfl)
        · have c_25 : ¬ r_22 = 0 := c_25
          have f_28_4 : iR r_22 1 1 := iR_neL c_25 g_22_0 (iR_c (n := 0) (a := 0) (b := 0) (by decide +kernel) (by decide +kernel)) (by decide +kernel)
          refine lv_aload_n hx hb dX2_readNumber_28 rfl (lv_at hl 0 rfl) ?_
          refine k_get (D := (dC, dI)) (ci := 2) (v := .int j2_F0_4) (C := RX2) (T := TX2) (N := 11) hx hb hts hinX2 hown hK hP 0 rfl rfl 4 (by decide) w_0 rfl rfl dX2_readNumber_29 ?_
          refine lv_aload_n hx hb dX2_readNumber_32 rfl (lv_at hl 0 rfl) ?_
          refine k_get (D := (dC, dI)) (ci := 2) (v := .int v0_5) (C := RX2) (T := TX2) (N := 11) hx hb hts hinX2 hown hK hP 0 rfl rfl 5 (by decide) w_2 rfl rfl dX2_readNumber_33 ?_
          refine lv_isub hx hb dX2_readNumber_36 ?_
          refine lv_topi (fun y_36 ey_36 => ?_)
          have f_36_5 : iR y_36 (-1600) 1599 := iR_sub ey_36 f_13_1 hv0_5 (by decide +kernel)
          refine lv_iconst (v := 4) hx hb dX2_readNumber_37 (by decide +kernel) ?_
          have J_59 : ∀ (j59_L1 : Int32)  (H : Heap) (locs : List Loc) (ls : Array Slot), va_P (dC, dI) vwCl [(a0, .inr (2, [.ref a0_0, .ref a0_1, .ref b0_2, .int v0_3, .int j2_F0_4, .int v0_5, .int v0_6, .int v0_7, .int 6, .int v0_9, .int v0_10])), (a0_0, .inl (cI, 1600, .inl f0_0))] H → va_D A [(a0, .inr (2, [.ref a0_0, .ref a0_1, .ref b0_2, .int v0_3, .int j2_F0_4, .int v0_5, .int v0_6, .int v0_7, .int 6, .int v0_9, .int v0_10])), (a0_0, .inl (cI, 1600, .inl f0_0))] → va_S A s.heap H locs → lv_has ls 2 [(0, .ref a0), (1, .int j59_L1)] → W p l e ({ frames := 2, cells := 0, slots := 0, locals := 62 }) s m args below meth c H locs 0 0 (MQ below (va_Qv (fun (u9 : SU) => (iR (u9.1 0) 0 1600) ∧ (iR (u9.1 1) 257 259) ∧ (iR (u9.1 3) 0 6) ∧ ((0 : Int32) < v0_9 → (0 : Int32) < (u9.1 3)) ∧ (((u9.1 3) = 0) ∨ (((u9.1 1) = 259)))) (fun u => k_B (dC, dI) vwCl (tyy cI cJ cZ cM) A ((fun (u9 : SU) => [(a0, .inr (2, [.ref a0_0, .ref a0_1, .ref b0_2, .int v0_3, .int (u9.1 0), .int v0_5, .int (u9.1 1), .int (u9.1 2), .int 6, .int (u9.1 3), .int (u9.1 4)])), (a0_0, .inl (cI, 1600, .inl f0_0))]) u)) A) args s 0 0 A) (F0 m 59 ls []) := by
            intro j59_L1  H locs ls hP hD hS hl
            refine lv_aload_n hx hb dX2_readNumber_59 rfl (lv_at hl 0 rfl) ?_
            refine lv_dup hx hb dX2_readNumber_60 rfl ?_
            refine k_get (D := (dC, dI)) (ci := 2) (v := .int j2_F0_4) (C := RX2) (T := TX2) (N := 11) hx hb hts hinX2 hown hK hP 0 rfl rfl 4 (by decide) w_0 rfl rfl dX2_readNumber_61 ?_
            refine lv_iconst (v := 1) hx hb dX2_readNumber_64 (by decide +kernel) ?_
            refine lv_iadd hx hb dX2_readNumber_65 ?_
            refine lv_topi (fun y_65 ey_65 => ?_)
            have f_65_1 : iR y_65 1 1600 := iR_add ey_65 f_13_1 (iR_c (n := 1) (a := 1) (b := 1) (by decide +kernel) (by decide +kernel)) (by decide +kernel)
            refine k_put (D := (dC, dI)) (ci := 2) (v := .int y_65) (C := RX2) (T := TX2) (N := 11) (ws' := [(a0, .inr (2, [.ref a0_0, .ref a0_1, .ref b0_2, .int v0_3, .int y_65, .int v0_5, .int v0_6, .int v0_7, .int 6, .int v0_9, .int v0_10])), (a0_0, .inl (cI, 1600, .inl f0_0))]) hx hb hts hinX2 tyX2 tyX2_ok nmX2 hown hK hP hD hS 0 rfl rfl 4 (by decide) w_0 rfl rfl rfl rfl (Nat.le_of_ble_eq_true rfl) rfl dX2_readNumber_66 (fun H locs hP hD hS => ?_)
            refine lv_goto (tgt := 2) hx hb dX2_readNumber_69 (by decide) ?_
            exact ih_2 y_65 j59_L1 (iR_w f_65_1 (by decide +kernel)) (m_up (B := 1600) hm_2 ey_65 f_13_1 (by decide +kernel)) H locs ls hP hD hS (lv_sub hl [0, 1] rfl)
          refine lv_icmp_ge (tgt := 59) hx hb dX2_readNumber_38 (by decide) (fun c_38 => ?_) (fun c_38 => ?_)
          · have c_38 : 4 ≤ y_36 := c_38
            have f_59_6 : iR y_36 4 1599 := iR_leR c_38 (iR_c (n := 4) (a := 4) (b := 4) (by decide +kernel) (by decide +kernel)) f_36_5 (by decide +kernel)
            exact J_59 j2_L1  H locs ls hP hD hS (lv_sub hl [0, 1] rfl)
          · have c_38 : y_36 < 4 := i_nle c_38
            have f_41_6 : iR y_36 (-1600) 3 := iR_ltL c_38 f_36_5 (iR_c (n := 4) (a := 4) (b := 4) (by decide +kernel) (by decide +kernel)) (by decide +kernel)
            refine lv_iload_n hx hb dX2_readNumber_41 rfl (lv_at hl 1 rfl) ?_
            refine lv_bipush (v := 10) hx hb dX2_readNumber_42 (by decide +kernel) ?_
            refine lv_imul hx hb dX2_readNumber_44 ?_
            refine lv_topi (fun y_44 ey_44 => ?_)
            refine lv_aload_n hx hb dX2_readNumber_45 rfl (lv_at hl 0 rfl) ?_
            refine k_get (D := (dC, dI)) (ci := 2) (v := .ref a0_0) (C := RX2) (T := TX2) (N := 11) hx hb hts hinX2 hown hK hP 0 rfl rfl 0 (by decide) w_5 rfl rfl dX2_readNumber_46 ?_
            refine lv_aload_n hx hb dX2_readNumber_49 rfl (lv_at hl 0 rfl) ?_
            refine k_get (D := (dC, dI)) (ci := 2) (v := .int j2_F0_4) (C := RX2) (T := TX2) (N := 11) hx hb hts hinX2 hown hK hP 0 rfl rfl 4 (by decide) w_0 rfl rfl dX2_readNumber_50 ?_
            refine va_iald hx hb hK hP 1 0 rfl rfl (iR_vp f_13_1 (by decide +kernel)) dX2_readNumber_53 ?_
            refine lv_iadd hx hb dX2_readNumber_54 ?_
            refine lv_topi (fun y_54 ey_54 => ?_)
            refine lv_bipush (v := 48) hx hb dX2_readNumber_55 (by decide +kernel) ?_
            refine lv_isub hx hb dX2_readNumber_57 ?_
            refine lv_topi (fun y_57 ey_57 => ?_)
            refine lv_istore_n (lv' := [(1, .int y_57), (0, .ref a0)]) hx hb dX2_readNumber_58 rfl hl (by decide) rfl (fun ls hl => ?_)
            exact J_59 y_57  H locs ls hP hD hS (lv_sub hl [1, 0] rfl)
  refine lv_istore_n (lv' := [(1, .int 0), (0, .ref a0)]) hx hb dX2_readNumber_1 rfl hl (by decide) rfl (fun ls hl => ?_)
  exact J_2 _ v0_4 0 hv0_4 (Nat.lt_succ_self _) H locs ls hP hD hS (lv_sub hl [1, 0] rfl)
set_option maxHeartbeats 8000000 in
set_option maxRecDepth 100000 in
theorem s_X2_readWord_v13 (l : Launch) (dC : Nat → ClassId) (dI : Nat → Nat → Nat) (cI cJ cZ cM : ClassId) (a0 : Nat) (a0_0 : Nat) (f0_0 : Nat → Int32) (a0_1 : Nat) (g0_1 : Nat → Int64) (b0_2 : Nat) (v0_3 : Int32) (v0_4 : Int32) (v0_5 : Int32) (v0_6 : Int32) (v0_7 : Int32) (v0_9 : Int32) (v0_10 : Int32) (hxv0_9 : iR v0_9 0 0) (hv0_3 : iR v0_3 0 1600) (hv0_4 : iR v0_4 0 1600) (hv0_5 : iR v0_5 0 1600) (hv0_6 : iR v0_6 0 324) (hv0_9 : iR v0_9 0 6) (hf0_0 : aR f0_0 0 255) (hpg0 : (v0_9 = 0) ∨ ((v0_6 = 259))) : k_Mv l yX2_readWord wsX2_readWord ({ frames := 2, cells := 0, slots := 0, locals := 63 }) (dC, dI) vwCl (tyy cI cJ cZ cM) [(a0, .inr (2, [.ref a0_0, .ref a0_1, .ref b0_2, .int v0_3, .int v0_4, .int v0_5, .int v0_6, .int v0_7, .int 6, .int v0_9, .int v0_10])), (a0_0, .inl (cI, 1600, .inl f0_0)), (a0_1, .inl (cJ, 25, .inr (.inl g0_1)))] [.ref a0] 0 0 (fun (u9 : SU) => [(a0, .inr (2, [.ref a0_0, .ref a0_1, .ref b0_2, .int v0_3, .int (u9.1 0), .int v0_5, .int (u9.1 1), .int (u9.1 2), .int 6, .int (u9.1 3), .int (u9.1 4)])), (a0_0, .inl (cI, 1600, .inl f0_0)), (a0_1, .inl (cJ, 25, .inr (.inl g0_1)))]) (fun (u9 : SU) => (iR (u9.1 0) 0 1600) ∧ (iR (u9.1 1) 258 324) ∧ (iR (u9.1 3) 0 6) ∧ ((0 : Int32) < v0_9 → (0 : Int32) < (u9.1 3)) ∧ (((u9.1 3) = 0) ∨ (((u9.1 1) = 259)))) := by
  refine fun sz => k_enter (cc := cX2_readWord) (maxL := 7) (ret := none) (Qc := fun A => va_Qv (fun (u9 : SU) => (iR (u9.1 0) 0 1600) ∧ (iR (u9.1 1) 258 324) ∧ (iR (u9.1 3) 0 6) ∧ ((0 : Int32) < v0_9 → (0 : Int32) < (u9.1 3)) ∧ (((u9.1 3) = 0) ∨ (((u9.1 1) = 259)))) (fun u => k_B (dC, dI) vwCl (tyy cI cJ cZ cM) A ((fun (u9 : SU) => [(a0, .inr (2, [.ref a0_0, .ref a0_1, .ref b0_2, .int v0_3, .int (u9.1 0), .int v0_5, .int (u9.1 1), .int (u9.1 2), .int 6, .int (u9.1 3), .int (u9.1 4)])), (a0_0, .inl (cI, 1600, .inl f0_0)), (a0_1, .inl (cJ, 25, .inr (.inl g0_1)))]) u)) A) sz (by decide +kernel) rfl (Nat.le_of_ble_eq_true rfl) (fun p e s m args below meth c A ls H locs B hP hD hS hl => ?_)
  obtain ⟨hx, hb, hml, hown, hts, hr, hlk, hnm, hK, hA, hN, hC⟩ := id B
  have hown : s.vm.findClass RX2 = some m.cls := hown
  have hl : lv_has ls 7 [(0, .ref a0)] := hl
  have w_0 : (Cond.fieldLink RX2 57 "WishSea$Reader" "position" "I").before args s = true := hts _ (List.mem_of_getElem? (i := 1) rfl)
  have w_1 : (Cond.fieldLink RX2 55 "WishSea$Reader" "length" "I").before args s = true := hts _ (List.mem_of_getElem? (i := 2) rfl)
  have w_2 : (Cond.fieldLink RX2 73 "WishSea$Reader" "start" "I").before args s = true := hts _ (List.mem_of_getElem? (i := 4) rfl)
  have w_3 : (Cond.fieldLink RX2 15 "WishSea$Reader" "token" "I").before args s = true := hts _ (List.mem_of_getElem? (i := 6) rfl)
  have w_4 : (Cond.fieldLink RX2 172 "WishSea$Reader" "value" "I").before args s = true := hts _ (List.mem_of_getElem? (i := 7) rfl)
  have w_5 : (Cond.fieldLink RX2 22 "WishSea$Reader" "text" "[I").before args s = true := hts _ (List.mem_of_getElem? (i := 3) rfl)
  have w_6 : (Cond.constantLong RX2 42 (27)).before args s = true := hts _ (List.mem_of_getElem? (i := 5) rfl)
  have hinX2 : ∀ w ∈ u_ws RX2 TX2 11, w ∈ wsX2_readWord := fun _ h => List.mem_cons_of_mem _ (List.mem_append_right _ h)
  refine lv_lconst (v := 0) hx hb dX2_readWord_0 (by decide +kernel) ?_
  refine lv_lstore_n (lv' := [(1, .long 0), (0, .ref a0)]) hx hb dX2_readWord_1 rfl hl (by decide) rfl (fun ls hl => ?_)
  refine lv_lconst (v := 1) hx hb dX2_readWord_2 (by decide +kernel) ?_
  have J_4 : ∀ (n_4 : Nat) (j4_F0_4 : Int32) (j4_L1 : Int64) (j4_L3 : Int64) (hj4_F0_4 : iR j4_F0_4 0 1600) (hm_4 : (1600 - j4_F0_4.toInt).toNat < n_4) (H : Heap) (locs : List Loc) (ls : Array Slot), va_P (dC, dI) vwCl [(a0, .inr (2, [.ref a0_0, .ref a0_1, .ref b0_2, .int v0_3, .int j4_F0_4, .int v0_5, .int v0_6, .int v0_7, .int 6, .int v0_9, .int v0_10])), (a0_0, .inl (cI, 1600, .inl f0_0)), (a0_1, .inl (cJ, 25, .inr (.inl g0_1)))] H → va_D A [(a0, .inr (2, [.ref a0_0, .ref a0_1, .ref b0_2, .int v0_3, .int j4_F0_4, .int v0_5, .int v0_6, .int v0_7, .int 6, .int v0_9, .int v0_10])), (a0_0, .inl (cI, 1600, .inl f0_0)), (a0_1, .inl (cJ, 25, .inr (.inl g0_1)))] → va_S A s.heap H locs → lv_has ls 7 [(0, .ref a0), (1, .long j4_L1), (3, .long j4_L3)] → W p l e ({ frames := 2, cells := 0, slots := 0, locals := 63 }) s m args below meth c H locs 0 0 (MQ below (va_Qv (fun (u9 : SU) => (iR (u9.1 0) 0 1600) ∧ (iR (u9.1 1) 258 324) ∧ (iR (u9.1 3) 0 6) ∧ ((0 : Int32) < v0_9 → (0 : Int32) < (u9.1 3)) ∧ (((u9.1 3) = 0) ∨ (((u9.1 1) = 259)))) (fun u => k_B (dC, dI) vwCl (tyy cI cJ cZ cM) A ((fun (u9 : SU) => [(a0, .inr (2, [.ref a0_0, .ref a0_1, .ref b0_2, .int v0_3, .int (u9.1 0), .int v0_5, .int (u9.1 1), .int (u9.1 2), .int 6, .int (u9.1 3), .int (u9.1 4)])), (a0_0, .inl (cI, 1600, .inl f0_0)), (a0_1, .inl (cJ, 25, .inr (.inl g0_1)))]) u)) A) args s 0 0 A) (F0 m 4 ls []) := by
    intro n_4
    induction n_4 with
    | zero => intro j4_F0_4 j4_L1 j4_L3 hj4_F0_4 hm_4; exact absurd hm_4 (Nat.not_lt_zero _)
    | succ n_4 ih_4 =>
      intro j4_F0_4 j4_L1 j4_L3 hj4_F0_4 hm_4 H locs ls hP hD hS hl
      refine lv_aload_n hx hb dX2_readWord_4 rfl (lv_at hl 0 rfl) ?_
      refine k_get (D := (dC, dI)) (ci := 2) (v := .int j4_F0_4) (C := RX2) (T := TX2) (N := 11) hx hb hts hinX2 hown hK hP 0 rfl rfl 4 (by decide) w_0 rfl rfl dX2_readWord_5 ?_
      refine lv_aload_n hx hb dX2_readWord_8 rfl (lv_at hl 0 rfl) ?_
      refine k_get (D := (dC, dI)) (ci := 2) (v := .int v0_3) (C := RX2) (T := TX2) (N := 11) hx hb hts hinX2 hown hK hP 0 rfl rfl 3 (by decide) w_1 rfl rfl dX2_readWord_9 ?_
      have J_83 : ∀   (H : Heap) (locs : List Loc) (ls : Array Slot), va_P (dC, dI) vwCl [(a0, .inr (2, [.ref a0_0, .ref a0_1, .ref b0_2, .int v0_3, .int j4_F0_4, .int v0_5, .int v0_6, .int v0_7, .int 6, .int v0_9, .int v0_10])), (a0_0, .inl (cI, 1600, .inl f0_0)), (a0_1, .inl (cJ, 25, .inr (.inl g0_1)))] H → va_D A [(a0, .inr (2, [.ref a0_0, .ref a0_1, .ref b0_2, .int v0_3, .int j4_F0_4, .int v0_5, .int v0_6, .int v0_7, .int 6, .int v0_9, .int v0_10])), (a0_0, .inl (cI, 1600, .inl f0_0)), (a0_1, .inl (cJ, 25, .inr (.inl g0_1)))] → va_S A s.heap H locs → lv_has ls 7 [(0, .ref a0), (1, .long j4_L1)] → W p l e ({ frames := 2, cells := 0, slots := 0, locals := 63 }) s m args below meth c H locs 0 0 (MQ below (va_Qv (fun (u9 : SU) => (iR (u9.1 0) 0 1600) ∧ (iR (u9.1 1) 258 324) ∧ (iR (u9.1 3) 0 6) ∧ ((0 : Int32) < v0_9 → (0 : Int32) < (u9.1 3)) ∧ (((u9.1 3) = 0) ∨ (((u9.1 1) = 259)))) (fun u => k_B (dC, dI) vwCl (tyy cI cJ cZ cM) A ((fun (u9 : SU) => [(a0, .inr (2, [.ref a0_0, .ref a0_1, .ref b0_2, .int v0_3, .int (u9.1 0), .int v0_5, .int (u9.1 1), .int (u9.1 2), .int 6, .int (u9.1 3), .int (u9.1 4)])), (a0_0, .inl (cI, 1600, .inl f0_0)), (a0_1, .inl (cJ, 25, .inr (.inl g0_1)))]) u)) A) args s 0 0 A) (F0 m 83 ls []) := by
        intro   H locs ls hP hD hS hl
        refine lv_aload_n hx hb dX2_readWord_83 rfl (lv_at hl 0 rfl) ?_
        refine k_get (D := (dC, dI)) (ci := 2) (v := .int j4_F0_4) (C := RX2) (T := TX2) (N := 11) hx hb hts hinX2 hown hK hP 0 rfl rfl 4 (by decide) w_0 rfl rfl dX2_readWord_84 ?_
        refine lv_aload_n hx hb dX2_readWord_87 rfl (lv_at hl 0 rfl) ?_
        refine k_get (D := (dC, dI)) (ci := 2) (v := .int v0_5) (C := RX2) (T := TX2) (N := 11) hx hb hts hinX2 hown hK hP 0 rfl rfl 5 (by decide) w_2 rfl rfl dX2_readWord_88 ?_
        refine lv_isub hx hb dX2_readWord_91 ?_
        refine lv_topi (fun y_91 ey_91 => ?_)
        have f_91_1 : iR y_91 (-1600) 1600 := iR_sub ey_91 hj4_F0_4 hv0_5 (by decide +kernel)
        refine lv_istore (lv' := [(5, .int y_91), (0, .ref a0), (1, .long j4_L1)]) hx hb dX2_readWord_92 hl (by decide) rfl (fun ls hl => ?_)
        refine lv_iload hx hb dX2_readWord_94 (lv_at hl 0 rfl) ?_
        refine lv_bipush (v := 7) hx hb dX2_readWord_96 (by decide +kernel) ?_
        have J_110 : ∀ (j110_S0 : Int32) (hj110_S0 : iR j110_S0 (-1) 24) (H : Heap) (locs : List Loc) (ls : Array Slot), va_P (dC, dI) vwCl [(a0, .inr (2, [.ref a0_0, .ref a0_1, .ref b0_2, .int v0_3, .int j4_F0_4, .int v0_5, .int v0_6, .int v0_7, .int 6, .int v0_9, .int v0_10])), (a0_0, .inl (cI, 1600, .inl f0_0)), (a0_1, .inl (cJ, 25, .inr (.inl g0_1)))] H → va_D A [(a0, .inr (2, [.ref a0_0, .ref a0_1, .ref b0_2, .int v0_3, .int j4_F0_4, .int v0_5, .int v0_6, .int v0_7, .int 6, .int v0_9, .int v0_10])), (a0_0, .inl (cI, 1600, .inl f0_0)), (a0_1, .inl (cJ, 25, .inr (.inl g0_1)))] → va_S A s.heap H locs → lv_has ls 7 [(0, .ref a0), (1, .long j4_L1), (5, .int y_91)] → W p l e ({ frames := 2, cells := 0, slots := 0, locals := 63 }) s m args below meth c H locs 0 0 (MQ below (va_Qv (fun (u9 : SU) => (iR (u9.1 0) 0 1600) ∧ (iR (u9.1 1) 258 324) ∧ (iR (u9.1 3) 0 6) ∧ ((0 : Int32) < v0_9 → (0 : Int32) < (u9.1 3)) ∧ (((u9.1 3) = 0) ∨ (((u9.1 1) = 259)))) (fun u => k_B (dC, dI) vwCl (tyy cI cJ cZ cM) A ((fun (u9 : SU) => [(a0, .inr (2, [.ref a0_0, .ref a0_1, .ref b0_2, .int v0_3, .int (u9.1 0), .int v0_5, .int (u9.1 1), .int (u9.1 2), .int 6, .int (u9.1 3), .int (u9.1 4)])), (a0_0, .inl (cI, 1600, .inl f0_0)), (a0_1, .inl (cJ, 25, .inr (.inl g0_1)))]) u)) A) args s 0 0 A) (F0 m 110 ls [.int j110_S0]) := by
          intro j110_S0 hj110_S0 H locs ls hP hD hS hl
          refine lv_istore (lv' := [(6, .int j110_S0), (0, .ref a0), (1, .long j4_L1), (5, .int y_91)]) hx hb dX2_readWord_110 hl (by decide) rfl (fun ls hl => ?_)
          refine lv_iload hx hb dX2_readWord_112 (lv_at hl 0 rfl) ?_
          refine lv_if_lt (tgt := 130) hx hb dX2_readWord_114 (by decide) (fun c_114 => ?_) (fun c_114 => ?_)
          · have c_114 : j110_S0 < 0 := c_114
            have f_130_1 : iR j110_S0 (-1) (-1) := iR_ltL c_114 hj110_S0 (iR_c (n := 0) (a := 0) (b := 0) (by decide +kernel) (by decide +kernel)) (by decide +kernel)
            refine lv_iload hx hb dX2_readWord_130 (lv_at hl 3 rfl) ?_
            refine lv_bipush (v := 6) hx hb dX2_readWord_132 (by decide +kernel) ?_
            refine lv_icmp_le (tgt := 152) hx hb dX2_readWord_134 (by decide) (fun c_134 => ?_) (fun c_134 => ?_)
            · have c_134 : y_91 ≤ 6 := c_134
              have f_152_2 : iR y_91 (-1600) 6 := iR_leL c_134 f_91_1 (iR_c (n := 6) (a := 6) (b := 6) (by decide +kernel) (by decide +kernel)) (by decide +kernel)
              refine lv_aload_n hx hb dX2_readWord_152 rfl (lv_at hl 1 rfl) ?_
              refine lv_sipush (v := 258) hx hb dX2_readWord_153 (by decide +kernel) ?_
              refine k_put (D := (dC, dI)) (ci := 2) (v := .int 258) (C := RX2) (T := TX2) (N := 11) (ws' := [(a0, .inr (2, [.ref a0_0, .ref a0_1, .ref b0_2, .int v0_3, .int j4_F0_4, .int v0_5, .int 258, .int v0_7, .int 6, .int v0_9, .int v0_10])), (a0_0, .inl (cI, 1600, .inl f0_0)), (a0_1, .inl (cJ, 25, .inr (.inl g0_1)))]) hx hb hts hinX2 tyX2 tyX2_ok nmX2 hown hK hP hD hS 0 rfl rfl 6 (by decide) w_3 rfl rfl rfl rfl (Nat.le_of_ble_eq_true rfl) rfl dX2_readWord_156 (fun H locs hP hD hS => ?_)
              refine lv_aload_n hx hb dX2_readWord_159 rfl (lv_at hl 1 rfl) ?_
              refine lv_lload_n hx hb dX2_readWord_160 rfl (lv_at hl 2 rfl) ?_
              refine lv_l2i (v := j4_L1.toInt32) hx hb dX2_readWord_161 rfl ?_
              refine lv_topi (fun y_161 ey_161 => ?_)
              refine k_put (D := (dC, dI)) (ci := 2) (v := .int y_161) (C := RX2) (T := TX2) (N := 11) (ws' := [(a0, .inr (2, [.ref a0_0, .ref a0_1, .ref b0_2, .int v0_3, .int j4_F0_4, .int v0_5, .int 258, .int y_161, .int 6, .int v0_9, .int v0_10])), (a0_0, .inl (cI, 1600, .inl f0_0)), (a0_1, .inl (cJ, 25, .inr (.inl g0_1)))]) hx hb hts hinX2 tyX2 tyX2_ok nmX2 hown hK hP hD hS 0 rfl rfl 7 (by decide) w_4 rfl rfl rfl rfl (Nat.le_of_ble_eq_true rfl) rfl dX2_readWord_162 (fun H locs hP hD hS => ?_)
              exact k_rv B hP hD hS dX2_readWord_165 ((fun k9 => match k9 with | 0 => j4_F0_4 | 1 => 258 | 2 => y_161 | 3 => v0_9 | 4 => v0_10 | _ => 0), (fun _ => 0), (fun _ => (fun _ => 0)), (fun _ => (fun _ => 0)), (fun _ => 0)) [0, 1, 2] rfl rfl (Nat.le_of_ble_eq_true rfl) (Nat.le_of_ble_eq_true rfl) ⟨(show iR j4_F0_4 0 1600 from hj4_F0_4), (show iR 258 258 324 from (iR_c (n := 258) (a := 258) (b := 324) (by decide +kernel) (by decide +kernel))), (show iR v0_9 0 6 from (iR_w hxv0_9 (by decide +kernel))), (show (0 : Int32) < v0_9 → (0 : Int32) < v0_9 from (fun h => h)), (show (v0_9 = 0) ∨ ((258 = 259)) from (Or.inl (i_eqc hxv0_9 (iR_c (n := 0) (a := 0) (b := 0) (by decide +kernel) (by decide +kernel)))))⟩
            · have c_134 : 6 < y_91 := i_nle c_134
              have f_137_2 : iR y_91 7 1600 := iR_ltR c_134 (iR_c (n := 6) (a := 6) (b := 6) (by decide +kernel) (by decide +kernel)) f_91_1 (by decide +kernel)
              refine lv_aload_n hx hb dX2_readWord_137 rfl (lv_at hl 1 rfl) ?_
              refine lv_iconst (v := 1) hx hb dX2_readWord_138 (by decide +kernel) ?_
              refine lv_aload_n hx hb dX2_readWord_139 rfl (lv_at hl 1 rfl) ?_
              refine k_get (D := (dC, dI)) (ci := 2) (v := .int v0_5) (C := RX2) (T := TX2) (N := 11) hx hb hts hinX2 hown hK hP 0 rfl rfl 5 (by decide) w_2 rfl rfl dX2_readWord_140 ?_
              refine lv_bipush (v := 6) hx hb dX2_readWord_143 (by decide +kernel) ?_
              refine lv_iadd hx hb dX2_readWord_145 ?_
              refine lv_topi (fun y_145 ey_145 => ?_)
              have f_145_3 : iR y_145 6 1606 := iR_add ey_145 hv0_5 (iR_c (n := 6) (a := 6) (b := 6) (by decide +kernel) (by decide +kernel)) (by decide +kernel)
              refine k_cv (wc := [(a0, .inr (2, [.ref a0_0, .ref a0_1, .ref b0_2, .int v0_3, .int j4_F0_4, .int v0_5, .int v0_6, .int v0_7, .int 6, .int v0_9, .int v0_10]))]) (wr := [(a0_0, .inl (cI, 1600, .inl f0_0)), (a0_1, .inl (cJ, 25, .inr (.inl g0_1)))]) (fun hPc hDc hFc => va_runV (As := [.int 1, .int y_145]) (rest := []) ⟨hx, hb, hml, hown, hts⟩ (s_X2_blame_v20 l dC dI cI cJ cZ cM a0 1 y_145 a0_0 a0_1 b0_2 v0_3 j4_F0_4 v0_5 v0_6 v0_7 v0_9 v0_10 (iR_c (n := 1) (a := 1) (b := 6) (by decide +kernel) (by decide +kernel)) hv0_3 hj4_F0_4 hv0_5 hv0_6 (iR_w hxv0_9 (by decide +kernel)) hpg0 H.size) (cwV 2 hts gX2_readWord_X2_blame rfl rfl rfl (by decide +kernel) ⟨(Nat.le_of_ble_eq_true rfl), (Nat.le_of_ble_eq_true rfl)⟩) (k_pV hPc hDc hK hN hC hS hFc hP (q0 := 0) (ci := 2) rfl rfl) rfl rfl hl.1 rfl (lv_room (Nat.le_of_ble_eq_true rfl)) dX2_readWord_146 ⟨(Nat.le_of_ble_eq_true rfl), (Nat.le_of_ble_eq_true rfl)⟩) hP hD hS hA [0] [1, 2] rfl rfl rfl rfl (by decide) (fun _ => rfl) 0 0 rfl rfl (fun u_146 H locs hw hP hD hS => ?_)
              obtain ⟨g_146_0, g_146_1, g_146_2, g_146_3⟩ := hw
              have hP : va_P (dC, dI) vwCl [(a0_0, .inl (cI, 1600, .inl f0_0)), (a0_1, .inl (cJ, 25, .inr (.inl g0_1))), (a0, .inr (2, [.ref a0_0, .ref a0_1, .ref b0_2, .int v0_3, .int j4_F0_4, .int v0_5, .int (u_146.1 0), .int v0_7, .int 6, .int (u_146.1 1), .int (u_146.1 2)]))] H := hP
              have hD : va_D A [(a0_0, .inl (cI, 1600, .inl f0_0)), (a0_1, .inl (cJ, 25, .inr (.inl g0_1))), (a0, .inr (2, [.ref a0_0, .ref a0_1, .ref b0_2, .int v0_3, .int j4_F0_4, .int v0_5, .int (u_146.1 0), .int v0_7, .int 6, .int (u_146.1 1), .int (u_146.1 2)]))] := hD
              have g_146_2 : (0 : Int32) < v0_9 → (0 : Int32) < (u_146.1 1) := g_146_2
              have g_146_3 : ((u_146.1 1) = 0) ∨ (((u_146.1 0) = 259)) := g_146_3
              obtain d146_1_0 := g_146_3.resolve_left (i_nef g_146_1 (iR_c (n := 0) (a := 0) (b := 0) (by decide +kernel) (by decide +kernel)) (by decide +kernel))
              refine lv_goto (tgt := 165) hx hb dX2_readWord_149 (by decide) ?_
              exact k_rv B hP hD hS dX2_readWord_165 ((fun k9 => match k9 with | 0 => j4_F0_4 | 1 => (u_146.1 0) | 2 => v0_7 | 3 => (u_146.1 1) | 4 => (u_146.1 2) | _ => 0), (fun _ => 0), (fun _ => (fun _ => 0)), (fun _ => (fun _ => 0)), (fun _ => 0)) [2, 0, 1] rfl rfl (Nat.le_of_ble_eq_true rfl) (Nat.le_of_ble_eq_true rfl) ⟨(show iR j4_F0_4 0 1600 from hj4_F0_4), (show iR (u_146.1 0) 258 324 from (iR_w g_146_0 (by decide +kernel))), (show iR (u_146.1 1) 0 6 from (iR_w g_146_1 (by decide +kernel))), (show (0 : Int32) < v0_9 → (0 : Int32) < (u_146.1 1) from (fun h => g_146_2 ((fun h => h) h))), (show ((u_146.1 1) = 0) ∨ (((u_146.1 0) = 259)) from (Or.inr d146_1_0))⟩
          · have c_114 : 0 ≤ j110_S0 := i_nlt c_114
            have f_117_1 : iR j110_S0 0 24 := iR_leR c_114 (iR_c (n := 0) (a := 0) (b := 0) (by decide +kernel) (by decide +kernel)) hj110_S0 (by decide +kernel)
            refine lv_aload_n hx hb dX2_readWord_117 rfl (lv_at hl 1 rfl) ?_
            refine lv_sipush (v := 300) hx hb dX2_readWord_118 (by decide +kernel) ?_
            refine lv_iload hx hb dX2_readWord_121 (lv_at hl 0 rfl) ?_
            refine lv_iadd hx hb dX2_readWord_123 ?_
            refine lv_topi (fun y_123 ey_123 => ?_)
            have f_123_2 : iR y_123 300 324 := iR_add ey_123 (iR_c (n := 300) (a := 300) (b := 300) (by decide +kernel) (by decide +kernel)) f_117_1 (by decide +kernel)
            refine k_put (D := (dC, dI)) (ci := 2) (v := .int y_123) (C := RX2) (T := TX2) (N := 11) (ws' := [(a0, .inr (2, [.ref a0_0, .ref a0_1, .ref b0_2, .int v0_3, .int j4_F0_4, .int v0_5, .int y_123, .int v0_7, .int 6, .int v0_9, .int v0_10])), (a0_0, .inl (cI, 1600, .inl f0_0)), (a0_1, .inl (cJ, 25, .inr (.inl g0_1)))]) hx hb hts hinX2 tyX2 tyX2_ok nmX2 hown hK hP hD hS 0 rfl rfl 6 (by decide) w_3 rfl rfl rfl rfl (Nat.le_of_ble_eq_true rfl) rfl dX2_readWord_124 (fun H locs hP hD hS => ?_)
            refine lv_goto (tgt := 165) hx hb dX2_readWord_127 (by decide) ?_
            exact k_rv B hP hD hS dX2_readWord_165 ((fun k9 => match k9 with | 0 => j4_F0_4 | 1 => y_123 | 2 => v0_7 | 3 => v0_9 | 4 => v0_10 | _ => 0), (fun _ => 0), (fun _ => (fun _ => 0)), (fun _ => (fun _ => 0)), (fun _ => 0)) [0, 1, 2] rfl rfl (Nat.le_of_ble_eq_true rfl) (Nat.le_of_ble_eq_true rfl) ⟨(show iR j4_F0_4 0 1600 from hj4_F0_4), (show iR y_123 258 324 from (iR_w f_123_2 (by decide +kernel))), (show iR v0_9 0 6 from (iR_w hxv0_9 (by decide +kernel))), (show (0 : Int32) < v0_9 → (0 : Int32) < v0_9 from (fun h => h)), (show (v0_9 = 0) ∨ ((y_123 = 259)) from (Or.inl (i_eqc hxv0_9 (iR_c (n := 0) (a := 0) (b := 0) (by decide +kernel) (by decide +kernel)))))⟩
        refine lv_icmp_le (tgt := 105) hx hb dX2_readWord_98 (by decide) (fun c_98 => ?_) (fun c_98 => ?_)
        · have c_98 : y_91 ≤ 7 := c_98
          have f_105_2 : iR y_91 (-1600) 7 := iR_leL c_98 f_91_1 (iR_c (n := 7) (a := 7) (b := 7) (by decide +kernel) (by decide +kernel)) (by decide +kernel)
          refine lv_aload_n hx hb dX2_readWord_105 rfl (lv_at hl 1 rfl) ?_
          refine lv_lload_n hx hb dX2_readWord_106 rfl (lv_at hl 2 rfl) ?_
          refine k_ci (wc := [(a0, .inr (2, [.ref a0_0, .ref a0_1, .ref b0_2, .int v0_3, .int j4_F0_4, .int v0_5, .int v0_6, .int v0_7, .int 6, .int v0_9, .int v0_10])), (a0_1, .inl (cJ, 25, .inr (.inl g0_1)))]) (wr := [(a0_0, .inl (cI, 1600, .inl f0_0))]) (fun hPc hDc hFc => va_runV (As := [.long j4_L1]) (rest := []) ⟨hx, hb, hml, hown, hts⟩ (s_X2_ownIndex_v13 l dC dI cI cJ cZ cM a0 j4_L1 a0_0 a0_1 g0_1 b0_2 v0_3 j4_F0_4 v0_5 v0_6 v0_7 v0_9 v0_10 hv0_3 hj4_F0_4 hv0_5 hv0_6 (iR_w hxv0_9 (by decide +kernel)) H.size) (cwV 1 hts gX2_readWord_X2_ownIndex rfl rfl rfl (by decide +kernel) ⟨(Nat.le_of_ble_eq_true rfl), (Nat.le_of_ble_eq_true rfl)⟩) (k_pV hPc hDc hK hN hC hS hFc hP (q0 := 0) (ci := 2) rfl rfl) rfl rfl hl.1 rfl (lv_room (Nat.le_of_ble_eq_true rfl)) dX2_readWord_107 ⟨(Nat.le_of_ble_eq_true rfl), (Nat.le_of_ble_eq_true rfl)⟩) hP hD hS hA [0, 2] [1] rfl rfl rfl rfl (by decide) (fun _ => rfl) 0 0 rfl rfl (fun r_107 u_107 H locs hw hP hD hS => ?_)
          have g_107_0 := hw
          have hP : va_P (dC, dI) vwCl [(a0_0, .inl (cI, 1600, .inl f0_0)), (a0, .inr (2, [.ref a0_0, .ref a0_1, .ref b0_2, .int v0_3, .int j4_F0_4, .int v0_5, .int v0_6, .int v0_7, .int 6, .int v0_9, .int v0_10])), (a0_1, .inl (cJ, 25, .inr (.inl g0_1)))] H := hP
          have hD : va_D A [(a0_0, .inl (cI, 1600, .inl f0_0)), (a0, .inr (2, [.ref a0_0, .ref a0_1, .ref b0_2, .int v0_3, .int j4_F0_4, .int v0_5, .int v0_6, .int v0_7, .int 6, .int v0_9, .int v0_10])), (a0_1, .inl (cJ, 25, .inr (.inl g0_1)))] := hD
          exact J_110 r_107 g_107_0 H locs ls (hP.sub [1, 0, 2] rfl) (hD.sub [1, 0, 2] (by decide +kernel) rfl) hS (lv_sub hl [1, 2, 0] rfl)
        · have c_98 : 7 < y_91 := i_nle c_98
          have f_101_2 : iR y_91 8 1600 := iR_ltR c_98 (iR_c (n := 7) (a := 7) (b := 7) (by decide +kernel) (by decide +kernel)) f_91_1 (by decide +kernel)
          refine lv_iconst (v := (-1)) hx hb dX2_readWord_101 (by decide +kernel) ?_
          refine lv_goto (tgt := 110) hx hb dX2_readWord_102 (by decide) ?_
          exact J_110 (-1) (iR_c (n := (-1)) (a := (-1)) (b := 24) (by decide +kernel) (by decide +kernel)) H locs ls hP hD hS (lv_sub hl [1, 2, 0] rfl)
      refine lv_icmp_ge (tgt := 83) hx hb dX2_readWord_12 (by decide) (fun c_12 => ?_) (fun c_12 => ?_)
      · have c_12 : v0_3 ≤ j4_F0_4 := c_12
        exact J_83   H locs ls hP hD hS (lv_sub hl [0, 1] rfl)
      · have c_12 : j4_F0_4 < v0_3 := i_nle c_12
        have f_15_1 : iR j4_F0_4 0 1599 := iR_ltL c_12 hj4_F0_4 hv0_3 (by decide +kernel)
        have f_15_2 : iR v0_3 1 1600 := iR_ltR c_12 hj4_F0_4 hv0_3 (by decide +kernel)
        refine lv_aload_n hx hb dX2_readWord_15 rfl (lv_at hl 0 rfl) ?_
        refine k_get (D := (dC, dI)) (ci := 2) (v := .ref a0_0) (C := RX2) (T := TX2) (N := 11) hx hb hts hinX2 hown hK hP 0 rfl rfl 0 (by decide) w_5 rfl rfl dX2_readWord_16 ?_
        refine lv_aload_n hx hb dX2_readWord_19 rfl (lv_at hl 0 rfl) ?_
        refine k_get (D := (dC, dI)) (ci := 2) (v := .int j4_F0_4) (C := RX2) (T := TX2) (N := 11) hx hb hts hinX2 hown hK hP 0 rfl rfl 4 (by decide) w_0 rfl rfl dX2_readWord_20 ?_
        refine va_iald hx hb hK hP 1 0 rfl rfl (iR_vp f_15_1 (by decide +kernel)) dX2_readWord_23 ?_
        have f_23_3 : iR (f0_0 j4_F0_4.toNatClampNeg) 0 255 := hf0_0 _
        refine k_ci (wc := []) (wr := [(a0, .inr (2, [.ref a0_0, .ref a0_1, .ref b0_2, .int v0_3, .int j4_F0_4, .int v0_5, .int v0_6, .int v0_7, .int 6, .int v0_9, .int v0_10])), (a0_0, .inl (cI, 1600, .inl f0_0)), (a0_1, .inl (cJ, 25, .inr (.inl g0_1)))]) (fun hPc hDc hFc => va_runS (As := [.int (f0_0 j4_F0_4.toNatClampNeg)]) (rest := []) ⟨hx, hb, hml, hown, hts⟩ (s_X2_isLetter_v0 l dC dI cI cJ cZ cM (f0_0 j4_F0_4.toNatClampNeg) H.size) (va_cwS 1 hts gX2_readWord_X2_isLetter rfl rfl rfl (by decide +kernel) ⟨(Nat.le_of_ble_eq_true rfl), (Nat.le_of_ble_eq_true rfl)⟩) (k_pS hPc hDc hK hN hC hS hFc) rfl rfl hl.1 rfl (lv_room (Nat.le_of_ble_eq_true rfl)) dX2_readWord_24 ⟨(Nat.le_of_ble_eq_true rfl), (Nat.le_of_ble_eq_true rfl)⟩) hP hD hS hA [] [0, 1, 2] rfl rfl rfl rfl (by decide) (fun _ => rfl) 0 0 rfl rfl (fun r_24 u_24 H locs hw hP hD hS => ?_)
        have g_24_0 := hw
        have hP : va_P (dC, dI) vwCl [(a0, .inr (2, [.ref a0_0, .ref a0_1, .ref b0_2, .int v0_3, .int j4_F0_4, .int v0_5, .int v0_6, .int v0_7, .int 6, .int v0_9, .int v0_10])), (a0_0, .inl (cI, 1600, .inl f0_0)), (a0_1, .inl (cJ, 25, .inr (.inl g0_1)))] H := hP
        have hD : va_D A [(a0, .inr (2, [.ref a0_0, .ref a0_1, .ref b0_2, .int v0_3, .int j4_F0_4, .int v0_5, .int v0_6, .int v0_7, .int 6, .int v0_9, .int v0_10])), (a0_0, .inl (cI, 1600, .inl f0_0)), (a0_1, .inl (cJ, 25, .inr (.inl g0_1)))] := hD
        refine lv_if_eq (tgt := 83) hx hb dX2_readWord_27 (by decide) (fun c_27 => ?_) (fun c_27 => ?_)
        · have c_27 : r_24 = 0 := c_27
          have f_83_4 : iR r_24 0 0 := iR_eqL c_27 g_24_0 (iR_c (n := 0) (a := 0) (b := 0) (by decide +kernel) (by decide +kernel)) (by decide +kernel)
          exact J_83   H locs ls hP hD hS (lv_sub hl [0, 1] rfl)
        · have c_27 : ¬ r_24 = 0 := c_27
          have f_30_4 : iR r_24 1 1 := iR_neL c_27 g_24_0 (iR_c (n := 0) (a := 0) (b := 0) (by decide +kernel) (by decide +kernel)) (by decide +kernel)
          refine lv_aload_n hx hb dX2_readWord_30 rfl (lv_at hl 0 rfl) ?_
          refine k_get (D := (dC, dI)) (ci := 2) (v := .int j4_F0_4) (C := RX2) (T := TX2) (N := 11) hx hb hts hinX2 hown hK hP 0 rfl rfl 4 (by decide) w_0 rfl rfl dX2_readWord_31 ?_
          refine lv_aload_n hx hb dX2_readWord_34 rfl (lv_at hl 0 rfl) ?_
          refine k_get (D := (dC, dI)) (ci := 2) (v := .int v0_5) (C := RX2) (T := TX2) (N := 11) hx hb hts hinX2 hown hK hP 0 rfl rfl 5 (by decide) w_2 rfl rfl dX2_readWord_35 ?_
          refine lv_isub hx hb dX2_readWord_38 ?_
          refine lv_topi (fun y_38 ey_38 => ?_)
          have f_38_5 : iR y_38 (-1600) 1599 := iR_sub ey_38 f_15_1 hv0_5 (by decide +kernel)
          refine lv_bipush (v := 7) hx hb dX2_readWord_39 (by decide +kernel) ?_
          have J_70 : ∀ (j70_L1 : Int64) (j70_L3 : Int64)  (H : Heap) (locs : List Loc) (ls : Array Slot), va_P (dC, dI) vwCl [(a0, .inr (2, [.ref a0_0, .ref a0_1, .ref b0_2, .int v0_3, .int j4_F0_4, .int v0_5, .int v0_6, .int v0_7, .int 6, .int v0_9, .int v0_10])), (a0_0, .inl (cI, 1600, .inl f0_0)), (a0_1, .inl (cJ, 25, .inr (.inl g0_1)))] H → va_D A [(a0, .inr (2, [.ref a0_0, .ref a0_1, .ref b0_2, .int v0_3, .int j4_F0_4, .int v0_5, .int v0_6, .int v0_7, .int 6, .int v0_9, .int v0_10])), (a0_0, .inl (cI, 1600, .inl f0_0)), (a0_1, .inl (cJ, 25, .inr (.inl g0_1)))] → va_S A s.heap H locs → lv_has ls 7 [(0, .ref a0), (1, .long j70_L1), (3, .long j70_L3)] → W p l e ({ frames := 2, cells := 0, slots := 0, locals := 63 }) s m args below meth c H locs 0 0 (MQ below (va_Qv (fun (u9 : SU) => (iR (u9.1 0) 0 1600) ∧ (iR (u9.1 1) 258 324) ∧ (iR (u9.1 3) 0 6) ∧ ((0 : Int32) < v0_9 → (0 : Int32) < (u9.1 3)) ∧ (((u9.1 3) = 0) ∨ (((u9.1 1) = 259)))) (fun u => k_B (dC, dI) vwCl (tyy cI cJ cZ cM) A ((fun (u9 : SU) => [(a0, .inr (2, [.ref a0_0, .ref a0_1, .ref b0_2, .int v0_3, .int (u9.1 0), .int v0_5, .int (u9.1 1), .int (u9.1 2), .int 6, .int (u9.1 3), .int (u9.1 4)])), (a0_0, .inl (cI, 1600, .inl f0_0)), (a0_1, .inl (cJ, 25, .inr (.inl g0_1)))]) u)) A) args s 0 0 A) (F0 m 70 ls []) := by
            intro j70_L1 j70_L3  H locs ls hP hD hS hl
            refine lv_aload_n hx hb dX2_readWord_70 rfl (lv_at hl 0 rfl) ?_
            refine lv_dup hx hb dX2_readWord_71 rfl ?_
            refine k_get (D := (dC, dI)) (ci := 2) (v := .int j4_F0_4) (C := RX2) (T := TX2) (N := 11) hx hb hts hinX2 hown hK hP 0 rfl rfl 4 (by decide) w_0 rfl rfl dX2_readWord_72 ?_
            refine lv_iconst (v := 1) hx hb dX2_readWord_75 (by decide +kernel) ?_
            refine lv_iadd hx hb dX2_readWord_76 ?_
            refine lv_topi (fun y_76 ey_76 => ?_)
            have f_76_1 : iR y_76 1 1600 := iR_add ey_76 f_15_1 (iR_c (n := 1) (a := 1) (b := 1) (by decide +kernel) (by decide +kernel)) (by decide +kernel)
            refine k_put (D := (dC, dI)) (ci := 2) (v := .int y_76) (C := RX2) (T := TX2) (N := 11) (ws' := [(a0, .inr (2, [.ref a0_0, .ref a0_1, .ref b0_2, .int v0_3, .int y_76, .int v0_5, .int v0_6, .int v0_7, .int 6, .int v0_9, .int v0_10])), (a0_0, .inl (cI, 1600, .inl f0_0)), (a0_1, .inl (cJ, 25, .inr (.inl g0_1)))]) hx hb hts hinX2 tyX2 tyX2_ok nmX2 hown hK hP hD hS 0 rfl rfl 4 (by decide) w_0 rfl rfl rfl rfl (Nat.le_of_ble_eq_true rfl) rfl dX2_readWord_77 (fun H locs hP hD hS => ?_)
            refine lv_goto (tgt := 4) hx hb dX2_readWord_80 (by decide) ?_
            exact ih_4 y_76 j70_L1 j70_L3 (iR_w f_76_1 (by decide +kernel)) (m_up (B := 1600) hm_4 ey_76 f_15_1 (by decide +kernel)) H locs ls hP hD hS (lv_sub hl [0, 1, 2] rfl)
          refine lv_icmp_ge (tgt := 70) hx hb dX2_readWord_41 (by decide) (fun c_41 => ?_) (fun c_41 => ?_)
          · have c_41 : 7 ≤ y_38 := c_41
            have f_70_6 : iR y_38 7 1599 := iR_leR c_41 (iR_c (n := 7) (a := 7) (b := 7) (by decide +kernel) (by decide +kernel)) f_38_5 (by decide +kernel)
            exact J_70 j4_L1 j4_L3  H locs ls hP hD hS (lv_sub hl [0, 1, 2] rfl)
          · have c_41 : y_38 < 7 := i_nle c_41
            have f_44_6 : iR y_38 (-1600) 6 := iR_ltL c_41 f_38_5 (iR_c (n := 7) (a := 7) (b := 7) (by decide +kernel) (by decide +kernel)) (by decide +kernel)
            refine lv_lload_n hx hb dX2_readWord_44 rfl (lv_at hl 1 rfl) ?_
            refine lv_aload_n hx hb dX2_readWord_45 rfl (lv_at hl 0 rfl) ?_
            refine k_get (D := (dC, dI)) (ci := 2) (v := .ref a0_0) (C := RX2) (T := TX2) (N := 11) hx hb hts hinX2 hown hK hP 0 rfl rfl 0 (by decide) w_5 rfl rfl dX2_readWord_46 ?_
            refine lv_aload_n hx hb dX2_readWord_49 rfl (lv_at hl 0 rfl) ?_
            refine k_get (D := (dC, dI)) (ci := 2) (v := .int j4_F0_4) (C := RX2) (T := TX2) (N := 11) hx hb hts hinX2 hown hK hP 0 rfl rfl 4 (by decide) w_0 rfl rfl dX2_readWord_50 ?_
            refine va_iald hx hb hK hP 1 0 rfl rfl (iR_vp f_15_1 (by decide +kernel)) dX2_readWord_53 ?_
            refine lv_bipush (v := 97) hx hb dX2_readWord_54 (by decide +kernel) ?_
            refine lv_isub hx hb dX2_readWord_56 ?_
            refine lv_topi (fun y_56 ey_56 => ?_)
            have f_56_7 : iR y_56 (-97) 158 := iR_sub ey_56 f_23_3 (iR_c (n := 97) (a := 97) (b := 97) (by decide +kernel) (by decide +kernel)) (by decide +kernel)
            refine lv_iconst (v := 1) hx hb dX2_readWord_57 (by decide +kernel) ?_
            refine lv_iadd hx hb dX2_readWord_58 ?_
            refine lv_topi (fun y_58 ey_58 => ?_)
            have f_58_8 : iR y_58 (-96) 159 := iR_add ey_58 f_56_7 (iR_c (n := 1) (a := 1) (b := 1) (by decide +kernel) (by decide +kernel)) (by decide +kernel)
            refine lv_i2l (v := y_58.toInt64) hx hb dX2_readWord_59 rfl ?_
            refine lv_topl (fun y_59 ey_59 => ?_)
            refine lv_lload_n hx hb dX2_readWord_60 rfl (lv_at hl 2 rfl) ?_
            refine lv_lmul hx hb dX2_readWord_61 ?_
            refine lv_topl (fun y_61 ey_61 => ?_)
            refine lv_ladd hx hb dX2_readWord_62 ?_
            refine lv_topl (fun y_62 ey_62 => ?_)
            refine lv_lstore_n (lv' := [(1, .long y_62), (0, .ref a0), (3, .long j4_L3)]) hx hb dX2_readWord_63 rfl hl (by decide) rfl (fun ls hl => ?_)
            refine lv_lload_n hx hb dX2_readWord_64 rfl (lv_at hl 2 rfl) ?_
            refine lv_ldc2 (v := 27) hx hb hown w_6 dX2_readWord_65 ?_
            refine lv_lmul hx hb dX2_readWord_68 ?_
            refine lv_topl (fun y_68 ey_68 => ?_)
            refine lv_lstore_n (lv' := [(3, .long y_68), (1, .long y_62), (0, .ref a0)]) hx hb dX2_readWord_69 rfl hl (by decide) rfl (fun ls hl => ?_)
            exact J_70 y_62 y_68  H locs ls hP hD hS (lv_sub hl [2, 1, 0] rfl)
  refine lv_lstore_n (lv' := [(3, .long 1), (1, .long 0), (0, .ref a0)]) hx hb dX2_readWord_3 rfl hl (by decide) rfl (fun ls hl => ?_)
  exact J_4 _ v0_4 0 1 hv0_4 (Nat.lt_succ_self _) H locs ls hP hD hS (lv_sub hl [2, 1, 0] rfl)
set_option maxHeartbeats 8000000 in
set_option maxRecDepth 100000 in
theorem s_X2_step_v12 (l : Launch) (dC : Nat → ClassId) (dI : Nat → Nat → Nat) (cI cJ cZ cM : ClassId) (a0 : Nat) (a0_0 : Nat) (f0_0 : Nat → Int32) (a0_1 : Nat) (g0_1 : Nat → Int64) (a0_2 : Nat) (v0_3 : Int32) (v0_4 : Int32) (v0_5 : Int32) (v0_6 : Int32) (v0_7 : Int32) (v0_9 : Int32) (v0_10 : Int32) (hv0_3 : iR v0_3 0 1600) (hv0_4 : iR v0_4 0 1600) (hv0_5 : iR v0_5 0 1600) (hv0_6 : iR v0_6 0 324) (hv0_9 : iR v0_9 0 6) (hf0_0 : aR f0_0 0 255) (hpg0 : (v0_9 = 0) ∨ ((v0_6 = 259))) : k_Mv l yX2_step wsX2_step ({ frames := 3, cells := 0, slots := 0, locals := 89 }) (dC, dI) vwCl (tyy cI cJ cZ cM) [(a0, .inr (2, [.ref a0_0, .ref a0_1, .ref a0_2, .int v0_3, .int v0_4, .int v0_5, .int v0_6, .int v0_7, .int 6, .int v0_9, .int v0_10])), (a0_0, .inl (cI, 1600, .inl f0_0)), (a0_1, .inl (cJ, 25, .inr (.inl g0_1)))] [.ref a0] 0 0 (fun (u9 : SU) => [(a0, .inr (2, [.ref a0_0, .ref a0_1, .ref a0_2, .int v0_3, .int (u9.1 0), .int (u9.1 1), .int (u9.1 2), .int (u9.1 3), .int 6, .int (u9.1 4), .int (u9.1 5)])), (a0_0, .inl (cI, 1600, .inl f0_0)), (a0_1, .inl (cJ, 25, .inr (.inl g0_1)))]) (fun (u9 : SU) => (iR (u9.1 0) 0 1600) ∧ (iR (u9.1 1) 0 1600) ∧ (iR (u9.1 2) 0 324) ∧ (iR (u9.1 4) 0 6) ∧ ((0 : Int32) < v0_9 → (0 : Int32) < (u9.1 4)) ∧ (((u9.1 4) = 0) ∨ (((u9.1 2) = 259)))) := by
  refine fun sz => k_enter (cc := cX2_step) (maxL := 3) (ret := none) (Qc := fun A => va_Qv (fun (u9 : SU) => (iR (u9.1 0) 0 1600) ∧ (iR (u9.1 1) 0 1600) ∧ (iR (u9.1 2) 0 324) ∧ (iR (u9.1 4) 0 6) ∧ ((0 : Int32) < v0_9 → (0 : Int32) < (u9.1 4)) ∧ (((u9.1 4) = 0) ∨ (((u9.1 2) = 259)))) (fun u => k_B (dC, dI) vwCl (tyy cI cJ cZ cM) A ((fun (u9 : SU) => [(a0, .inr (2, [.ref a0_0, .ref a0_1, .ref a0_2, .int v0_3, .int (u9.1 0), .int (u9.1 1), .int (u9.1 2), .int (u9.1 3), .int 6, .int (u9.1 4), .int (u9.1 5)])), (a0_0, .inl (cI, 1600, .inl f0_0)), (a0_1, .inl (cJ, 25, .inr (.inl g0_1)))]) u)) A) sz (by decide +kernel) rfl (Nat.le_of_ble_eq_true rfl) (fun p e s m args below meth c A ls H locs B hP hD hS hl => ?_)
  obtain ⟨hx, hb, hml, hown, hts, hr, hlk, hnm, hK, hA, hN, hC⟩ := id B
  have hown : s.vm.findClass RX2 = some m.cls := hown
  have hl : lv_has ls 3 [(0, .ref a0)] := hl
  have w_0 : (Cond.fieldLink RX2 63 "WishSea$Reader" "fault" "I").before args s = true := hts _ (List.mem_of_getElem? (i := 1) rfl)
  have w_1 : (Cond.fieldLink RX2 57 "WishSea$Reader" "position" "I").before args s = true := hts _ (List.mem_of_getElem? (i := 2) rfl)
  have w_2 : (Cond.fieldLink RX2 15 "WishSea$Reader" "token" "I").before args s = true := hts _ (List.mem_of_getElem? (i := 3) rfl)
  have w_3 : (Cond.fieldLink RX2 55 "WishSea$Reader" "length" "I").before args s = true := hts _ (List.mem_of_getElem? (i := 4) rfl)
  have w_4 : (Cond.fieldLink RX2 73 "WishSea$Reader" "start" "I").before args s = true := hts _ (List.mem_of_getElem? (i := 6) rfl)
  have w_5 : (Cond.fieldLink RX2 22 "WishSea$Reader" "text" "[I").before args s = true := hts _ (List.mem_of_getElem? (i := 5) rfl)
  have hinX2 : ∀ w ∈ u_ws RX2 TX2 11, w ∈ wsX2_step := fun _ h => List.mem_cons_of_mem _ (List.mem_append_right _ h)
  refine lv_aload_n hx hb dX2_step_0 rfl (lv_at hl 0 rfl) ?_
  refine k_get (D := (dC, dI)) (ci := 2) (v := .int v0_9) (C := RX2) (T := TX2) (N := 11) hx hb hts hinX2 hown hK hP 0 rfl rfl 9 (by decide) w_0 rfl rfl dX2_step_1 ?_
  refine lv_if_eq (tgt := 8) hx hb dX2_step_4 (by decide) (fun c_4 => ?_) (fun c_4 => ?_)
  · have c_4 : v0_9 = 0 := c_4
    have f_8_1 : iR v0_9 0 0 := iR_eqL c_4 hv0_9 (iR_c (n := 0) (a := 0) (b := 0) (by decide +kernel) (by decide +kernel)) (by decide +kernel)
    refine lv_aload_n hx hb dX2_step_8 rfl (lv_at hl 0 rfl) ?_
    refine k_get (D := (dC, dI)) (ci := 2) (v := .int v0_4) (C := RX2) (T := TX2) (N := 11) hx hb hts hinX2 hown hK hP 0 rfl rfl 4 (by decide) w_1 rfl rfl dX2_step_9 ?_
    refine lv_istore_n (lv' := [(1, .int v0_4), (0, .ref a0)]) hx hb dX2_step_12 rfl hl (by decide) rfl (fun ls hl => ?_)
    refine lv_aload_n hx hb dX2_step_13 rfl (lv_at hl 1 rfl) ?_
    refine k_get (D := (dC, dI)) (ci := 2) (v := .int v0_6) (C := RX2) (T := TX2) (N := 11) hx hb hts hinX2 hown hK hP 0 rfl rfl 6 (by decide) w_2 rfl rfl dX2_step_14 ?_
    refine k_ci (wc := []) (wr := [(a0, .inr (2, [.ref a0_0, .ref a0_1, .ref a0_2, .int v0_3, .int v0_4, .int v0_5, .int v0_6, .int v0_7, .int 6, .int v0_9, .int v0_10])), (a0_0, .inl (cI, 1600, .inl f0_0)), (a0_1, .inl (cJ, 25, .inr (.inl g0_1)))]) (fun hPc hDc hFc => va_runS (As := [.int v0_6]) (rest := []) ⟨hx, hb, hml, hown, hts⟩ (s_X2_isWhole_v0 l dC dI cI cJ cZ cM v0_6 H.size) (va_cwS 1 hts gX2_step_X2_isWhole rfl rfl rfl (by decide +kernel) ⟨(Nat.le_of_ble_eq_true rfl), (Nat.le_of_ble_eq_true rfl)⟩) (k_pS hPc hDc hK hN hC hS hFc) rfl rfl hl.1 rfl (lv_room (Nat.le_of_ble_eq_true rfl)) dX2_step_17 ⟨(Nat.le_of_ble_eq_true rfl), (Nat.le_of_ble_eq_true rfl)⟩) hP hD hS hA [] [0, 1, 2] rfl rfl rfl rfl (by decide) (fun _ => rfl) 0 0 rfl rfl (fun r_17 u_17 H locs hw hP hD hS => ?_)
    have g_17_0 := hw
    have hP : va_P (dC, dI) vwCl [(a0, .inr (2, [.ref a0_0, .ref a0_1, .ref a0_2, .int v0_3, .int v0_4, .int v0_5, .int v0_6, .int v0_7, .int 6, .int v0_9, .int v0_10])), (a0_0, .inl (cI, 1600, .inl f0_0)), (a0_1, .inl (cJ, 25, .inr (.inl g0_1)))] H := hP
    have hD : va_D A [(a0, .inr (2, [.ref a0_0, .ref a0_1, .ref a0_2, .int v0_3, .int v0_4, .int v0_5, .int v0_6, .int v0_7, .int 6, .int v0_9, .int v0_10])), (a0_0, .inl (cI, 1600, .inl f0_0)), (a0_1, .inl (cJ, 25, .inr (.inl g0_1)))] := hD
    have J_21 : ∀ (n_21 : Nat) (j21_F0_4 : Int32) (hj21_F0_4 : iR j21_F0_4 0 1600) (hm_21 : (1600 - j21_F0_4.toInt).toNat < n_21) (H : Heap) (locs : List Loc) (ls : Array Slot), va_P (dC, dI) vwCl [(a0, .inr (2, [.ref a0_0, .ref a0_1, .ref a0_2, .int v0_3, .int j21_F0_4, .int v0_5, .int v0_6, .int v0_7, .int 6, .int v0_9, .int v0_10])), (a0_0, .inl (cI, 1600, .inl f0_0)), (a0_1, .inl (cJ, 25, .inr (.inl g0_1)))] H → va_D A [(a0, .inr (2, [.ref a0_0, .ref a0_1, .ref a0_2, .int v0_3, .int j21_F0_4, .int v0_5, .int v0_6, .int v0_7, .int 6, .int v0_9, .int v0_10])), (a0_0, .inl (cI, 1600, .inl f0_0)), (a0_1, .inl (cJ, 25, .inr (.inl g0_1)))] → va_S A s.heap H locs → lv_has ls 3 [(0, .ref a0), (1, .int v0_4), (2, .int r_17)] → W p l e ({ frames := 3, cells := 0, slots := 0, locals := 89 }) s m args below meth c H locs 0 0 (MQ below (va_Qv (fun (u9 : SU) => (iR (u9.1 0) 0 1600) ∧ (iR (u9.1 1) 0 1600) ∧ (iR (u9.1 2) 0 324) ∧ (iR (u9.1 4) 0 6) ∧ ((0 : Int32) < v0_9 → (0 : Int32) < (u9.1 4)) ∧ (((u9.1 4) = 0) ∨ (((u9.1 2) = 259)))) (fun u => k_B (dC, dI) vwCl (tyy cI cJ cZ cM) A ((fun (u9 : SU) => [(a0, .inr (2, [.ref a0_0, .ref a0_1, .ref a0_2, .int v0_3, .int (u9.1 0), .int (u9.1 1), .int (u9.1 2), .int (u9.1 3), .int 6, .int (u9.1 4), .int (u9.1 5)])), (a0_0, .inl (cI, 1600, .inl f0_0)), (a0_1, .inl (cJ, 25, .inr (.inl g0_1)))]) u)) A) args s 0 0 A) (F0 m 21 ls []) := by
      intro n_21
      induction n_21 with
      | zero => intro j21_F0_4 hj21_F0_4 hm_21; exact absurd hm_21 (Nat.not_lt_zero _)
      | succ n_21 ih_21 =>
        intro j21_F0_4 hj21_F0_4 hm_21 H locs ls hP hD hS hl
        refine lv_aload_n hx hb dX2_step_21 rfl (lv_at hl 0 rfl) ?_
        refine k_get (D := (dC, dI)) (ci := 2) (v := .int j21_F0_4) (C := RX2) (T := TX2) (N := 11) hx hb hts hinX2 hown hK hP 0 rfl rfl 4 (by decide) w_1 rfl rfl dX2_step_22 ?_
        refine lv_aload_n hx hb dX2_step_25 rfl (lv_at hl 0 rfl) ?_
        refine k_get (D := (dC, dI)) (ci := 2) (v := .int v0_3) (C := RX2) (T := TX2) (N := 11) hx hb hts hinX2 hown hK hP 0 rfl rfl 3 (by decide) w_3 rfl rfl dX2_step_26 ?_
        have J_73 : ∀   (H : Heap) (locs : List Loc) (ls : Array Slot), va_P (dC, dI) vwCl [(a0, .inr (2, [.ref a0_0, .ref a0_1, .ref a0_2, .int v0_3, .int j21_F0_4, .int v0_5, .int v0_6, .int v0_7, .int 6, .int v0_9, .int v0_10])), (a0_0, .inl (cI, 1600, .inl f0_0)), (a0_1, .inl (cJ, 25, .inr (.inl g0_1)))] H → va_D A [(a0, .inr (2, [.ref a0_0, .ref a0_1, .ref a0_2, .int v0_3, .int j21_F0_4, .int v0_5, .int v0_6, .int v0_7, .int 6, .int v0_9, .int v0_10])), (a0_0, .inl (cI, 1600, .inl f0_0)), (a0_1, .inl (cJ, 25, .inr (.inl g0_1)))] → va_S A s.heap H locs → lv_has ls 3 [(0, .ref a0), (1, .int v0_4), (2, .int r_17)] → W p l e ({ frames := 3, cells := 0, slots := 0, locals := 89 }) s m args below meth c H locs 0 0 (MQ below (va_Qv (fun (u9 : SU) => (iR (u9.1 0) 0 1600) ∧ (iR (u9.1 1) 0 1600) ∧ (iR (u9.1 2) 0 324) ∧ (iR (u9.1 4) 0 6) ∧ ((0 : Int32) < v0_9 → (0 : Int32) < (u9.1 4)) ∧ (((u9.1 4) = 0) ∨ (((u9.1 2) = 259)))) (fun u => k_B (dC, dI) vwCl (tyy cI cJ cZ cM) A ((fun (u9 : SU) => [(a0, .inr (2, [.ref a0_0, .ref a0_1, .ref a0_2, .int v0_3, .int (u9.1 0), .int (u9.1 1), .int (u9.1 2), .int (u9.1 3), .int 6, .int (u9.1 4), .int (u9.1 5)])), (a0_0, .inl (cI, 1600, .inl f0_0)), (a0_1, .inl (cJ, 25, .inr (.inl g0_1)))]) u)) A) args s 0 0 A) (F0 m 73 ls []) := by
          intro   H locs ls hP hD hS hl
          refine lv_aload_n hx hb dX2_step_73 rfl (lv_at hl 0 rfl) ?_
          refine lv_aload_n hx hb dX2_step_74 rfl (lv_at hl 0 rfl) ?_
          refine k_get (D := (dC, dI)) (ci := 2) (v := .int j21_F0_4) (C := RX2) (T := TX2) (N := 11) hx hb hts hinX2 hown hK hP 0 rfl rfl 4 (by decide) w_1 rfl rfl dX2_step_75 ?_
          refine k_put (D := (dC, dI)) (ci := 2) (v := .int j21_F0_4) (C := RX2) (T := TX2) (N := 11) (ws' := [(a0, .inr (2, [.ref a0_0, .ref a0_1, .ref a0_2, .int v0_3, .int j21_F0_4, .int j21_F0_4, .int v0_6, .int v0_7, .int 6, .int v0_9, .int v0_10])), (a0_0, .inl (cI, 1600, .inl f0_0)), (a0_1, .inl (cJ, 25, .inr (.inl g0_1)))]) hx hb hts hinX2 tyX2 tyX2_ok nmX2 hown hK hP hD hS 0 rfl rfl 5 (by decide) w_4 rfl rfl rfl rfl (Nat.le_of_ble_eq_true rfl) rfl dX2_step_78 (fun H locs hP hD hS => ?_)
          refine lv_aload_n hx hb dX2_step_81 rfl (lv_at hl 0 rfl) ?_
          refine k_get (D := (dC, dI)) (ci := 2) (v := .int j21_F0_4) (C := RX2) (T := TX2) (N := 11) hx hb hts hinX2 hown hK hP 0 rfl rfl 4 (by decide) w_1 rfl rfl dX2_step_82 ?_
          refine lv_aload_n hx hb dX2_step_85 rfl (lv_at hl 0 rfl) ?_
          refine k_get (D := (dC, dI)) (ci := 2) (v := .int v0_3) (C := RX2) (T := TX2) (N := 11) hx hb hts hinX2 hown hK hP 0 rfl rfl 3 (by decide) w_3 rfl rfl dX2_step_86 ?_
          have J_169 : ∀ (j169_F0_4 : Int32) (j169_F0_6 : Int32) (j169_F0_7 : Int32) (j169_F0_9 : Int32) (j169_F0_10 : Int32) (hj169_F0_4 : iR j169_F0_4 0 1600) (hj169_F0_6 : iR j169_F0_6 0 324) (hj169_F0_9 : iR j169_F0_9 0 6) (t169_xf : (0 : Int32) < v0_9 → (0 : Int32) < j169_F0_9) (w169_0 : (j169_F0_9 = 0) ∨ ((j169_F0_6 = 259))) (H : Heap) (locs : List Loc) (ls : Array Slot), va_P (dC, dI) vwCl [(a0, .inr (2, [.ref a0_0, .ref a0_1, .ref a0_2, .int v0_3, .int j169_F0_4, .int j21_F0_4, .int j169_F0_6, .int j169_F0_7, .int 6, .int j169_F0_9, .int j169_F0_10])), (a0_0, .inl (cI, 1600, .inl f0_0)), (a0_1, .inl (cJ, 25, .inr (.inl g0_1)))] H → va_D A [(a0, .inr (2, [.ref a0_0, .ref a0_1, .ref a0_2, .int v0_3, .int j169_F0_4, .int j21_F0_4, .int j169_F0_6, .int j169_F0_7, .int 6, .int j169_F0_9, .int j169_F0_10])), (a0_0, .inl (cI, 1600, .inl f0_0)), (a0_1, .inl (cJ, 25, .inr (.inl g0_1)))] → va_S A s.heap H locs → lv_has ls 3 [(0, .ref a0), (1, .int v0_4), (2, .int r_17)] → W p l e ({ frames := 3, cells := 0, slots := 0, locals := 89 }) s m args below meth c H locs 0 0 (MQ below (va_Qv (fun (u9 : SU) => (iR (u9.1 0) 0 1600) ∧ (iR (u9.1 1) 0 1600) ∧ (iR (u9.1 2) 0 324) ∧ (iR (u9.1 4) 0 6) ∧ ((0 : Int32) < v0_9 → (0 : Int32) < (u9.1 4)) ∧ (((u9.1 4) = 0) ∨ (((u9.1 2) = 259)))) (fun u => k_B (dC, dI) vwCl (tyy cI cJ cZ cM) A ((fun (u9 : SU) => [(a0, .inr (2, [.ref a0_0, .ref a0_1, .ref a0_2, .int v0_3, .int (u9.1 0), .int (u9.1 1), .int (u9.1 2), .int (u9.1 3), .int 6, .int (u9.1 4), .int (u9.1 5)])), (a0_0, .inl (cI, 1600, .inl f0_0)), (a0_1, .inl (cJ, 25, .inr (.inl g0_1)))]) u)) A) args s 0 0 A) (F0 m 169 ls []) := by
            intro j169_F0_4 j169_F0_6 j169_F0_7 j169_F0_9 j169_F0_10 hj169_F0_4 hj169_F0_6 hj169_F0_9 t169_xf w169_0 H locs ls hP hD hS hl
            refine lv_iload_n hx hb dX2_step_169 rfl (lv_at hl 2 rfl) ?_
            refine lv_if_eq (tgt := 200) hx hb dX2_step_170 (by decide) (fun c_170 => ?_) (fun c_170 => ?_)
            · have c_170 : r_17 = 0 := c_170
              have f_200_1 : iR r_17 0 0 := iR_eqL c_170 g_17_0 (iR_c (n := 0) (a := 0) (b := 0) (by decide +kernel) (by decide +kernel)) (by decide +kernel)
              exact k_rv B hP hD hS dX2_step_200 ((fun k9 => match k9 with | 0 => j169_F0_4 | 1 => j21_F0_4 | 2 => j169_F0_6 | 3 => j169_F0_7 | 4 => j169_F0_9 | 5 => j169_F0_10 | _ => 0), (fun _ => 0), (fun _ => (fun _ => 0)), (fun _ => (fun _ => 0)), (fun _ => 0)) [0, 1, 2] rfl rfl (Nat.le_of_ble_eq_true rfl) (Nat.le_of_ble_eq_true rfl) ⟨(show iR j169_F0_4 0 1600 from hj169_F0_4), (show iR j21_F0_4 0 1600 from hj21_F0_4), (show iR j169_F0_6 0 324 from hj169_F0_6), (show iR j169_F0_9 0 6 from hj169_F0_9), (show (0 : Int32) < v0_9 → (0 : Int32) < j169_F0_9 from t169_xf), (show (j169_F0_9 = 0) ∨ ((j169_F0_6 = 259)) from w169_0)⟩
            · have c_170 : ¬ r_17 = 0 := c_170
              have f_173_1 : iR r_17 1 1 := iR_neL c_170 g_17_0 (iR_c (n := 0) (a := 0) (b := 0) (by decide +kernel) (by decide +kernel)) (by decide +kernel)
              refine lv_aload_n hx hb dX2_step_173 rfl (lv_at hl 0 rfl) ?_
              refine k_get (D := (dC, dI)) (ci := 2) (v := .int j21_F0_4) (C := RX2) (T := TX2) (N := 11) hx hb hts hinX2 hown hK hP 0 rfl rfl 5 (by decide) w_4 rfl rfl dX2_step_174 ?_
              refine lv_iload_n hx hb dX2_step_177 rfl (lv_at hl 1 rfl) ?_
              refine lv_icmp_ne (tgt := 200) hx hb dX2_step_178 (by decide) (fun c_178 => ?_) (fun c_178 => ?_)
              · have c_178 : ¬ j21_F0_4 = v0_4 := c_178
                exact k_rv B hP hD hS dX2_step_200 ((fun k9 => match k9 with | 0 => j169_F0_4 | 1 => j21_F0_4 | 2 => j169_F0_6 | 3 => j169_F0_7 | 4 => j169_F0_9 | 5 => j169_F0_10 | _ => 0), (fun _ => 0), (fun _ => (fun _ => 0)), (fun _ => (fun _ => 0)), (fun _ => 0)) [0, 1, 2] rfl rfl (Nat.le_of_ble_eq_true rfl) (Nat.le_of_ble_eq_true rfl) ⟨(show iR j169_F0_4 0 1600 from hj169_F0_4), (show iR j21_F0_4 0 1600 from hj21_F0_4), (show iR j169_F0_6 0 324 from hj169_F0_6), (show iR j169_F0_9 0 6 from hj169_F0_9), (show (0 : Int32) < v0_9 → (0 : Int32) < j169_F0_9 from t169_xf), (show (j169_F0_9 = 0) ∨ ((j169_F0_6 = 259)) from w169_0)⟩
              · have c_178 : j21_F0_4 = v0_4 := c_178
                refine lv_aload_n hx hb dX2_step_181 rfl (lv_at hl 0 rfl) ?_
                refine k_get (D := (dC, dI)) (ci := 2) (v := .int j169_F0_6) (C := RX2) (T := TX2) (N := 11) hx hb hts hinX2 hown hK hP 0 rfl rfl 6 (by decide) w_2 rfl rfl dX2_step_182 ?_
                refine k_ci (wc := []) (wr := [(a0, .inr (2, [.ref a0_0, .ref a0_1, .ref a0_2, .int v0_3, .int j169_F0_4, .int j21_F0_4, .int j169_F0_6, .int j169_F0_7, .int 6, .int j169_F0_9, .int j169_F0_10])), (a0_0, .inl (cI, 1600, .inl f0_0)), (a0_1, .inl (cJ, 25, .inr (.inl g0_1)))]) (fun hPc hDc hFc => va_runS (As := [.int j169_F0_6]) (rest := []) ⟨hx, hb, hml, hown, hts⟩ (s_X2_isWhole_v0 l dC dI cI cJ cZ cM j169_F0_6 H.size) (va_cwS 1 hts gX2_step_X2_isWhole rfl rfl rfl (by decide +kernel) ⟨(Nat.le_of_ble_eq_true rfl), (Nat.le_of_ble_eq_true rfl)⟩) (k_pS hPc hDc hK hN hC hS hFc) rfl rfl hl.1 rfl (lv_room (Nat.le_of_ble_eq_true rfl)) dX2_step_185 ⟨(Nat.le_of_ble_eq_true rfl), (Nat.le_of_ble_eq_true rfl)⟩) hP hD hS hA [] [0, 1, 2] rfl rfl rfl rfl (by decide) (fun _ => rfl) 0 0 rfl rfl (fun r_185 u_185 H locs hw hP hD hS => ?_)
                have g_185_0 := hw
                have hP : va_P (dC, dI) vwCl [(a0, .inr (2, [.ref a0_0, .ref a0_1, .ref a0_2, .int v0_3, .int j169_F0_4, .int j21_F0_4, .int j169_F0_6, .int j169_F0_7, .int 6, .int j169_F0_9, .int j169_F0_10])), (a0_0, .inl (cI, 1600, .inl f0_0)), (a0_1, .inl (cJ, 25, .inr (.inl g0_1)))] H := hP
                have hD : va_D A [(a0, .inr (2, [.ref a0_0, .ref a0_1, .ref a0_2, .int v0_3, .int j169_F0_4, .int j21_F0_4, .int j169_F0_6, .int j169_F0_7, .int 6, .int j169_F0_9, .int j169_F0_10])), (a0_0, .inl (cI, 1600, .inl f0_0)), (a0_1, .inl (cJ, 25, .inr (.inl g0_1)))] := hD
                refine lv_if_eq (tgt := 200) hx hb dX2_step_188 (by decide) (fun c_188 => ?_) (fun c_188 => ?_)
                · have c_188 : r_185 = 0 := c_188
                  have f_200_2 : iR r_185 0 0 := iR_eqL c_188 g_185_0 (iR_c (n := 0) (a := 0) (b := 0) (by decide +kernel) (by decide +kernel)) (by decide +kernel)
                  exact k_rv B hP hD hS dX2_step_200 ((fun k9 => match k9 with | 0 => j169_F0_4 | 1 => j21_F0_4 | 2 => j169_F0_6 | 3 => j169_F0_7 | 4 => j169_F0_9 | 5 => j169_F0_10 | _ => 0), (fun _ => 0), (fun _ => (fun _ => 0)), (fun _ => (fun _ => 0)), (fun _ => 0)) [0, 1, 2] rfl rfl (Nat.le_of_ble_eq_true rfl) (Nat.le_of_ble_eq_true rfl) ⟨(show iR j169_F0_4 0 1600 from hj169_F0_4), (show iR j21_F0_4 0 1600 from hj21_F0_4), (show iR j169_F0_6 0 324 from hj169_F0_6), (show iR j169_F0_9 0 6 from hj169_F0_9), (show (0 : Int32) < v0_9 → (0 : Int32) < j169_F0_9 from t169_xf), (show (j169_F0_9 = 0) ∨ ((j169_F0_6 = 259)) from w169_0)⟩
                · have c_188 : ¬ r_185 = 0 := c_188
                  have f_191_2 : iR r_185 1 1 := iR_neL c_188 g_185_0 (iR_c (n := 0) (a := 0) (b := 0) (by decide +kernel) (by decide +kernel)) (by decide +kernel)
                  refine lv_aload_n hx hb dX2_step_191 rfl (lv_at hl 0 rfl) ?_
                  refine lv_iconst (v := 1) hx hb dX2_step_192 (by decide +kernel) ?_
                  refine lv_aload_n hx hb dX2_step_193 rfl (lv_at hl 0 rfl) ?_
                  refine k_get (D := (dC, dI)) (ci := 2) (v := .int j21_F0_4) (C := RX2) (T := TX2) (N := 11) hx hb hts hinX2 hown hK hP 0 rfl rfl 5 (by decide) w_4 rfl rfl dX2_step_194 ?_
                  refine k_cv (wc := [(a0, .inr (2, [.ref a0_0, .ref a0_1, .ref a0_2, .int v0_3, .int j169_F0_4, .int j21_F0_4, .int j169_F0_6, .int j169_F0_7, .int 6, .int j169_F0_9, .int j169_F0_10]))]) (wr := [(a0_0, .inl (cI, 1600, .inl f0_0)), (a0_1, .inl (cJ, 25, .inr (.inl g0_1)))]) (fun hPc hDc hFc => va_runV (As := [.int 1, .int j21_F0_4]) (rest := []) ⟨hx, hb, hml, hown, hts⟩ (s_X2_blame_v20 l dC dI cI cJ cZ cM a0 1 j21_F0_4 a0_0 a0_1 a0_2 v0_3 j169_F0_4 j21_F0_4 j169_F0_6 j169_F0_7 j169_F0_9 j169_F0_10 (iR_c (n := 1) (a := 1) (b := 6) (by decide +kernel) (by decide +kernel)) hv0_3 hj169_F0_4 hj21_F0_4 hj169_F0_6 hj169_F0_9 w169_0 H.size) (cwV 2 hts gX2_step_X2_blame rfl rfl rfl (by decide +kernel) ⟨(Nat.le_of_ble_eq_true rfl), (Nat.le_of_ble_eq_true rfl)⟩) (k_pV hPc hDc hK hN hC hS hFc hP (q0 := 0) (ci := 2) rfl rfl) rfl rfl hl.1 rfl (lv_room (Nat.le_of_ble_eq_true rfl)) dX2_step_197 ⟨(Nat.le_of_ble_eq_true rfl), (Nat.le_of_ble_eq_true rfl)⟩) hP hD hS hA [0] [1, 2] rfl rfl rfl rfl (by decide) (fun _ => rfl) 0 0 rfl rfl (fun u_197 H locs hw hP hD hS => ?_)
                  obtain ⟨g_197_0, g_197_1, g_197_2, g_197_3⟩ := hw
                  have hP : va_P (dC, dI) vwCl [(a0_0, .inl (cI, 1600, .inl f0_0)), (a0_1, .inl (cJ, 25, .inr (.inl g0_1))), (a0, .inr (2, [.ref a0_0, .ref a0_1, .ref a0_2, .int v0_3, .int j169_F0_4, .int j21_F0_4, .int (u_197.1 0), .int j169_F0_7, .int 6, .int (u_197.1 1), .int (u_197.1 2)]))] H := hP
                  have hD : va_D A [(a0_0, .inl (cI, 1600, .inl f0_0)), (a0_1, .inl (cJ, 25, .inr (.inl g0_1))), (a0, .inr (2, [.ref a0_0, .ref a0_1, .ref a0_2, .int v0_3, .int j169_F0_4, .int j21_F0_4, .int (u_197.1 0), .int j169_F0_7, .int 6, .int (u_197.1 1), .int (u_197.1 2)]))] := hD
                  have g_197_2 : (0 : Int32) < j169_F0_9 → (0 : Int32) < (u_197.1 1) := g_197_2
                  have g_197_3 : ((u_197.1 1) = 0) ∨ (((u_197.1 0) = 259)) := g_197_3
                  obtain d197_1_0 := g_197_3.resolve_left (i_nef g_197_1 (iR_c (n := 0) (a := 0) (b := 0) (by decide +kernel) (by decide +kernel)) (by decide +kernel))
                  exact k_rv B hP hD hS dX2_step_200 ((fun k9 => match k9 with | 0 => j169_F0_4 | 1 => j21_F0_4 | 2 => (u_197.1 0) | 3 => j169_F0_7 | 4 => (u_197.1 1) | 5 => (u_197.1 2) | _ => 0), (fun _ => 0), (fun _ => (fun _ => 0)), (fun _ => (fun _ => 0)), (fun _ => 0)) [2, 0, 1] rfl rfl (Nat.le_of_ble_eq_true rfl) (Nat.le_of_ble_eq_true rfl) ⟨(show iR j169_F0_4 0 1600 from hj169_F0_4), (show iR j21_F0_4 0 1600 from hj21_F0_4), (show iR (u_197.1 0) 0 324 from (iR_w g_197_0 (by decide +kernel))), (show iR (u_197.1 1) 0 6 from (iR_w g_197_1 (by decide +kernel))), (show (0 : Int32) < v0_9 → (0 : Int32) < (u_197.1 1) from (fun h => g_197_2 (t169_xf h))), (show ((u_197.1 1) = 0) ∨ (((u_197.1 0) = 259)) from (Or.inr d197_1_0))⟩
          refine lv_icmp_lt (tgt := 102) hx hb dX2_step_89 (by decide) (fun c_89 => ?_) (fun c_89 => ?_)
          · have c_89 : j21_F0_4 < v0_3 := c_89
            have f_102_1 : iR j21_F0_4 0 1599 := iR_ltL c_89 hj21_F0_4 hv0_3 (by decide +kernel)
            have f_102_2 : iR v0_3 1 1600 := iR_ltR c_89 hj21_F0_4 hv0_3 (by decide +kernel)
            refine lv_aload_n hx hb dX2_step_102 rfl (lv_at hl 0 rfl) ?_
            refine k_get (D := (dC, dI)) (ci := 2) (v := .ref a0_0) (C := RX2) (T := TX2) (N := 11) hx hb hts hinX2 hown hK hP 0 rfl rfl 0 (by decide) w_5 rfl rfl dX2_step_103 ?_
            refine lv_aload_n hx hb dX2_step_106 rfl (lv_at hl 0 rfl) ?_
            refine k_get (D := (dC, dI)) (ci := 2) (v := .int j21_F0_4) (C := RX2) (T := TX2) (N := 11) hx hb hts hinX2 hown hK hP 0 rfl rfl 4 (by decide) w_1 rfl rfl dX2_step_107 ?_
            refine va_iald hx hb hK hP 1 0 rfl rfl (iR_vp f_102_1 (by decide +kernel)) dX2_step_110 ?_
            have f_110_3 : iR (f0_0 j21_F0_4.toNatClampNeg) 0 255 := hf0_0 _
            refine k_ci (wc := []) (wr := [(a0, .inr (2, [.ref a0_0, .ref a0_1, .ref a0_2, .int v0_3, .int j21_F0_4, .int j21_F0_4, .int v0_6, .int v0_7, .int 6, .int v0_9, .int v0_10])), (a0_0, .inl (cI, 1600, .inl f0_0)), (a0_1, .inl (cJ, 25, .inr (.inl g0_1)))]) (fun hPc hDc hFc => va_runS (As := [.int (f0_0 j21_F0_4.toNatClampNeg)]) (rest := []) ⟨hx, hb, hml, hown, hts⟩ (s_X2_isLetter_v0 l dC dI cI cJ cZ cM (f0_0 j21_F0_4.toNatClampNeg) H.size) (va_cwS 1 hts gX2_step_X2_isLetter rfl rfl rfl (by decide +kernel) ⟨(Nat.le_of_ble_eq_true rfl), (Nat.le_of_ble_eq_true rfl)⟩) (k_pS hPc hDc hK hN hC hS hFc) rfl rfl hl.1 rfl (lv_room (Nat.le_of_ble_eq_true rfl)) dX2_step_111 ⟨(Nat.le_of_ble_eq_true rfl), (Nat.le_of_ble_eq_true rfl)⟩) hP hD hS hA [] [0, 1, 2] rfl rfl rfl rfl (by decide) (fun _ => rfl) 0 0 rfl rfl (fun r_111 u_111 H locs hw hP hD hS => ?_)
            have g_111_0 := hw
            have hP : va_P (dC, dI) vwCl [(a0, .inr (2, [.ref a0_0, .ref a0_1, .ref a0_2, .int v0_3, .int j21_F0_4, .int j21_F0_4, .int v0_6, .int v0_7, .int 6, .int v0_9, .int v0_10])), (a0_0, .inl (cI, 1600, .inl f0_0)), (a0_1, .inl (cJ, 25, .inr (.inl g0_1)))] H := hP
            have hD : va_D A [(a0, .inr (2, [.ref a0_0, .ref a0_1, .ref a0_2, .int v0_3, .int j21_F0_4, .int j21_F0_4, .int v0_6, .int v0_7, .int 6, .int v0_9, .int v0_10])), (a0_0, .inl (cI, 1600, .inl f0_0)), (a0_1, .inl (cJ, 25, .inr (.inl g0_1)))] := hD
            refine lv_if_eq (tgt := 124) hx hb dX2_step_114 (by decide) (fun c_114 => ?_) (fun c_114 => ?_)
            · have c_114 : r_111 = 0 := c_114
              have f_124_4 : iR r_111 0 0 := iR_eqL c_114 g_111_0 (iR_c (n := 0) (a := 0) (b := 0) (by decide +kernel) (by decide +kernel)) (by decide +kernel)
              refine lv_aload_n hx hb dX2_step_124 rfl (lv_at hl 0 rfl) ?_
              refine k_get (D := (dC, dI)) (ci := 2) (v := .ref a0_0) (C := RX2) (T := TX2) (N := 11) hx hb hts hinX2 hown hK hP 0 rfl rfl 0 (by decide) w_5 rfl rfl dX2_step_125 ?_
              refine lv_aload_n hx hb dX2_step_128 rfl (lv_at hl 0 rfl) ?_
              refine k_get (D := (dC, dI)) (ci := 2) (v := .int j21_F0_4) (C := RX2) (T := TX2) (N := 11) hx hb hts hinX2 hown hK hP 0 rfl rfl 4 (by decide) w_1 rfl rfl dX2_step_129 ?_
              refine va_iald hx hb hK hP 1 0 rfl rfl (iR_vp f_102_1 (by decide +kernel)) dX2_step_132 ?_
              refine k_ci (wc := []) (wr := [(a0, .inr (2, [.ref a0_0, .ref a0_1, .ref a0_2, .int v0_3, .int j21_F0_4, .int j21_F0_4, .int v0_6, .int v0_7, .int 6, .int v0_9, .int v0_10])), (a0_0, .inl (cI, 1600, .inl f0_0)), (a0_1, .inl (cJ, 25, .inr (.inl g0_1)))]) (fun hPc hDc hFc => va_runS (As := [.int (f0_0 j21_F0_4.toNatClampNeg)]) (rest := []) ⟨hx, hb, hml, hown, hts⟩ (s_X2_isDigit_v0 l dC dI cI cJ cZ cM (f0_0 j21_F0_4.toNatClampNeg) H.size) (va_cwS 1 hts gX2_step_X2_isDigit rfl rfl rfl (by decide +kernel) ⟨(Nat.le_of_ble_eq_true rfl), (Nat.le_of_ble_eq_true rfl)⟩) (k_pS hPc hDc hK hN hC hS hFc) rfl rfl hl.1 rfl (lv_room (Nat.le_of_ble_eq_true rfl)) dX2_step_133 ⟨(Nat.le_of_ble_eq_true rfl), (Nat.le_of_ble_eq_true rfl)⟩) hP hD hS hA [] [0, 1, 2] rfl rfl rfl rfl (by decide) (fun _ => rfl) 0 0 rfl rfl (fun r_133 u_133 H locs hw hP hD hS => ?_)
              have g_133_0 := hw
              have hP : va_P (dC, dI) vwCl [(a0, .inr (2, [.ref a0_0, .ref a0_1, .ref a0_2, .int v0_3, .int j21_F0_4, .int j21_F0_4, .int v0_6, .int v0_7, .int 6, .int v0_9, .int v0_10])), (a0_0, .inl (cI, 1600, .inl f0_0)), (a0_1, .inl (cJ, 25, .inr (.inl g0_1)))] H := hP
              have hD : va_D A [(a0, .inr (2, [.ref a0_0, .ref a0_1, .ref a0_2, .int v0_3, .int j21_F0_4, .int j21_F0_4, .int v0_6, .int v0_7, .int 6, .int v0_9, .int v0_10])), (a0_0, .inl (cI, 1600, .inl f0_0)), (a0_1, .inl (cJ, 25, .inr (.inl g0_1)))] := hD
              refine lv_if_eq (tgt := 146) hx hb dX2_step_136 (by decide) (fun c_136 => ?_) (fun c_136 => ?_)
              · have c_136 : r_133 = 0 := c_136
                have f_146_5 : iR r_133 0 0 := iR_eqL c_136 g_133_0 (iR_c (n := 0) (a := 0) (b := 0) (by decide +kernel) (by decide +kernel)) (by decide +kernel)
                refine lv_aload_n hx hb dX2_step_146 rfl (lv_at hl 0 rfl) ?_
                refine lv_aload_n hx hb dX2_step_147 rfl (lv_at hl 0 rfl) ?_
                refine k_get (D := (dC, dI)) (ci := 2) (v := .ref a0_0) (C := RX2) (T := TX2) (N := 11) hx hb hts hinX2 hown hK hP 0 rfl rfl 0 (by decide) w_5 rfl rfl dX2_step_148 ?_
                refine lv_aload_n hx hb dX2_step_151 rfl (lv_at hl 0 rfl) ?_
                refine k_get (D := (dC, dI)) (ci := 2) (v := .int j21_F0_4) (C := RX2) (T := TX2) (N := 11) hx hb hts hinX2 hown hK hP 0 rfl rfl 4 (by decide) w_1 rfl rfl dX2_step_152 ?_
                refine va_iald hx hb hK hP 1 0 rfl rfl (iR_vp f_102_1 (by decide +kernel)) dX2_step_155 ?_
                refine k_put (D := (dC, dI)) (ci := 2) (v := .int (f0_0 j21_F0_4.toNatClampNeg)) (C := RX2) (T := TX2) (N := 11) (ws' := [(a0, .inr (2, [.ref a0_0, .ref a0_1, .ref a0_2, .int v0_3, .int j21_F0_4, .int j21_F0_4, .int (f0_0 j21_F0_4.toNatClampNeg), .int v0_7, .int 6, .int v0_9, .int v0_10])), (a0_0, .inl (cI, 1600, .inl f0_0)), (a0_1, .inl (cJ, 25, .inr (.inl g0_1)))]) hx hb hts hinX2 tyX2 tyX2_ok nmX2 hown hK hP hD hS 0 rfl rfl 6 (by decide) w_2 rfl rfl rfl rfl (Nat.le_of_ble_eq_true rfl) rfl dX2_step_156 (fun H locs hP hD hS => ?_)
                refine lv_aload_n hx hb dX2_step_159 rfl (lv_at hl 0 rfl) ?_
                refine lv_dup hx hb dX2_step_160 rfl ?_
                refine k_get (D := (dC, dI)) (ci := 2) (v := .int j21_F0_4) (C := RX2) (T := TX2) (N := 11) hx hb hts hinX2 hown hK hP 0 rfl rfl 4 (by decide) w_1 rfl rfl dX2_step_161 ?_
                refine lv_iconst (v := 1) hx hb dX2_step_164 (by decide +kernel) ?_
                refine lv_iadd hx hb dX2_step_165 ?_
                refine lv_topi (fun y_165 ey_165 => ?_)
                have f_165_6 : iR y_165 1 1600 := iR_add ey_165 f_102_1 (iR_c (n := 1) (a := 1) (b := 1) (by decide +kernel) (by decide +kernel)) (by decide +kernel)
                refine k_put (D := (dC, dI)) (ci := 2) (v := .int y_165) (C := RX2) (T := TX2) (N := 11) (ws' := [(a0, .inr (2, [.ref a0_0, .ref a0_1, .ref a0_2, .int v0_3, .int y_165, .int j21_F0_4, .int (f0_0 j21_F0_4.toNatClampNeg), .int v0_7, .int 6, .int v0_9, .int v0_10])), (a0_0, .inl (cI, 1600, .inl f0_0)), (a0_1, .inl (cJ, 25, .inr (.inl g0_1)))]) hx hb hts hinX2 tyX2 tyX2_ok nmX2 hown hK hP hD hS 0 rfl rfl 4 (by decide) w_1 rfl rfl rfl rfl (Nat.le_of_ble_eq_true rfl) rfl dX2_step_166 (fun H locs hP hD hS => ?_)
                exact J_169 y_165 (f0_0 j21_F0_4.toNatClampNeg) v0_7 v0_9 v0_10 (iR_w f_165_6 (by decide +kernel)) (iR_w f_110_3 (by decide +kernel)) (iR_w f_8_1 (by decide +kernel)) (fun h => h) (Or.inl c_4) H locs ls hP hD hS (lv_sub hl [0, 1, 2] rfl)
              · have c_136 : ¬ r_133 = 0 := c_136
                have f_139_5 : iR r_133 1 1 := iR_neL c_136 g_133_0 (iR_c (n := 0) (a := 0) (b := 0) (by decide +kernel) (by decide +kernel)) (by decide +kernel)
                refine lv_aload_n hx hb dX2_step_139 rfl (lv_at hl 0 rfl) ?_
                refine k_cv (wc := [(a0, .inr (2, [.ref a0_0, .ref a0_1, .ref a0_2, .int v0_3, .int j21_F0_4, .int j21_F0_4, .int v0_6, .int v0_7, .int 6, .int v0_9, .int v0_10])), (a0_0, .inl (cI, 1600, .inl f0_0))]) (wr := [(a0_1, .inl (cJ, 25, .inr (.inl g0_1)))]) (fun hPc hDc hFc => va_runV (As := []) (rest := []) ⟨hx, hb, hml, hown, hts⟩ (s_X2_readNumber_v13 l dC dI cI cJ cZ cM a0 a0_0 f0_0 a0_1 a0_2 v0_3 j21_F0_4 j21_F0_4 v0_6 v0_7 v0_9 v0_10 (show iR v0_9 0 0 from f_8_1) (iR_w f_102_2 (by decide +kernel)) (iR_w f_102_1 (by decide +kernel)) (iR_w f_102_1 (by decide +kernel)) hv0_6 (iR_w f_8_1 (by decide +kernel)) hf0_0 hpg0 H.size) (cwV 0 hts gX2_step_X2_readNumber rfl rfl rfl (by decide +kernel) ⟨(Nat.le_of_ble_eq_true rfl), (Nat.le_of_ble_eq_true rfl)⟩) (k_pV hPc hDc hK hN hC hS hFc hP (q0 := 0) (ci := 2) rfl rfl) rfl rfl hl.1 rfl (lv_room (Nat.le_of_ble_eq_true rfl)) dX2_step_140 ⟨(Nat.le_of_ble_eq_true rfl), (Nat.le_of_ble_eq_true rfl)⟩) hP hD hS hA [0, 1] [2] rfl rfl rfl rfl (by decide) (fun _ => rfl) 0 0 rfl rfl (fun u_140 H locs hw hP hD hS => ?_)
                obtain ⟨g_140_0, g_140_1, g_140_2, g_140_3, g_140_4⟩ := hw
                have hP : va_P (dC, dI) vwCl [(a0_1, .inl (cJ, 25, .inr (.inl g0_1))), (a0, .inr (2, [.ref a0_0, .ref a0_1, .ref a0_2, .int v0_3, .int (u_140.1 0), .int j21_F0_4, .int (u_140.1 1), .int (u_140.1 2), .int 6, .int (u_140.1 3), .int (u_140.1 4)])), (a0_0, .inl (cI, 1600, .inl f0_0))] H := hP
                have hD : va_D A [(a0_1, .inl (cJ, 25, .inr (.inl g0_1))), (a0, .inr (2, [.ref a0_0, .ref a0_1, .ref a0_2, .int v0_3, .int (u_140.1 0), .int j21_F0_4, .int (u_140.1 1), .int (u_140.1 2), .int 6, .int (u_140.1 3), .int (u_140.1 4)])), (a0_0, .inl (cI, 1600, .inl f0_0))] := hD
                have g_140_3 : (0 : Int32) < v0_9 → (0 : Int32) < (u_140.1 3) := g_140_3
                have g_140_4 : ((u_140.1 3) = 0) ∨ (((u_140.1 1) = 259)) := g_140_4
                refine lv_goto (tgt := 169) hx hb dX2_step_143 (by decide) ?_
                exact J_169 (u_140.1 0) (u_140.1 1) (u_140.1 2) (u_140.1 3) (u_140.1 4) g_140_0 (iR_w g_140_1 (by decide +kernel)) g_140_2 (fun h => g_140_3 ((fun h => h) h)) g_140_4 H locs ls (hP.sub [1, 2, 0] rfl) (hD.sub [1, 2, 0] (by decide +kernel) rfl) hS (lv_sub hl [0, 1, 2] rfl)
            · have c_114 : ¬ r_111 = 0 := c_114
              have f_117_4 : iR r_111 1 1 := iR_neL c_114 g_111_0 (iR_c (n := 0) (a := 0) (b := 0) (by decide +kernel) (by decide +kernel)) (by decide +kernel)
              refine lv_aload_n hx hb dX2_step_117 rfl (lv_at hl 0 rfl) ?_
              refine k_cv (wc := [(a0, .inr (2, [.ref a0_0, .ref a0_1, .ref a0_2, .int v0_3, .int j21_F0_4, .int j21_F0_4, .int v0_6, .int v0_7, .int 6, .int v0_9, .int v0_10])), (a0_0, .inl (cI, 1600, .inl f0_0)), (a0_1, .inl (cJ, 25, .inr (.inl g0_1)))]) (wr := []) (fun hPc hDc hFc => va_runV (As := []) (rest := []) ⟨hx, hb, hml, hown, hts⟩ (s_X2_readWord_v13 l dC dI cI cJ cZ cM a0 a0_0 f0_0 a0_1 g0_1 a0_2 v0_3 j21_F0_4 j21_F0_4 v0_6 v0_7 v0_9 v0_10 (show iR v0_9 0 0 from f_8_1) (iR_w f_102_2 (by decide +kernel)) (iR_w f_102_1 (by decide +kernel)) (iR_w f_102_1 (by decide +kernel)) hv0_6 (iR_w f_8_1 (by decide +kernel)) hf0_0 hpg0 H.size) (cwV 0 hts gX2_step_X2_readWord rfl rfl rfl (by decide +kernel) ⟨(Nat.le_of_ble_eq_true rfl), (Nat.le_of_ble_eq_true rfl)⟩) (k_pV hPc hDc hK hN hC hS hFc hP (q0 := 0) (ci := 2) rfl rfl) rfl rfl hl.1 rfl (lv_room (Nat.le_of_ble_eq_true rfl)) dX2_step_118 ⟨(Nat.le_of_ble_eq_true rfl), (Nat.le_of_ble_eq_true rfl)⟩) hP hD hS hA [0, 1, 2] [] rfl rfl rfl rfl (by decide) (fun _ => rfl) 0 0 rfl rfl (fun u_118 H locs hw hP hD hS => ?_)
              obtain ⟨g_118_0, g_118_1, g_118_2, g_118_3, g_118_4⟩ := hw
              have hP : va_P (dC, dI) vwCl [(a0, .inr (2, [.ref a0_0, .ref a0_1, .ref a0_2, .int v0_3, .int (u_118.1 0), .int j21_F0_4, .int (u_118.1 1), .int (u_118.1 2), .int 6, .int (u_118.1 3), .int (u_118.1 4)])), (a0_0, .inl (cI, 1600, .inl f0_0)), (a0_1, .inl (cJ, 25, .inr (.inl g0_1)))] H := hP
              have hD : va_D A [(a0, .inr (2, [.ref a0_0, .ref a0_1, .ref a0_2, .int v0_3, .int (u_118.1 0), .int j21_F0_4, .int (u_118.1 1), .int (u_118.1 2), .int 6, .int (u_118.1 3), .int (u_118.1 4)])), (a0_0, .inl (cI, 1600, .inl f0_0)), (a0_1, .inl (cJ, 25, .inr (.inl g0_1)))] := hD
              have g_118_3 : (0 : Int32) < v0_9 → (0 : Int32) < (u_118.1 3) := g_118_3
              have g_118_4 : ((u_118.1 3) = 0) ∨ (((u_118.1 1) = 259)) := g_118_4
              refine lv_goto (tgt := 169) hx hb dX2_step_121 (by decide) ?_
              exact J_169 (u_118.1 0) (u_118.1 1) (u_118.1 2) (u_118.1 3) (u_118.1 4) g_118_0 (iR_w g_118_1 (by decide +kernel)) g_118_2 (fun h => g_118_3 ((fun h => h) h)) g_118_4 H locs ls hP hD hS (lv_sub hl [0, 1, 2] rfl)
          · have c_89 : v0_3 ≤ j21_F0_4 := i_nlt c_89
            refine lv_aload_n hx hb dX2_step_92 rfl (lv_at hl 0 rfl) ?_
            refine lv_sipush (v := 256) hx hb dX2_step_93 (by decide +kernel) ?_
            refine k_put (D := (dC, dI)) (ci := 2) (v := .int 256) (C := RX2) (T := TX2) (N := 11) (ws' := [(a0, .inr (2, [.ref a0_0, .ref a0_1, .ref a0_2, .int v0_3, .int j21_F0_4, .int j21_F0_4, .int 256, .int v0_7, .int 6, .int v0_9, .int v0_10])), (a0_0, .inl (cI, 1600, .inl f0_0)), (a0_1, .inl (cJ, 25, .inr (.inl g0_1)))]) hx hb hts hinX2 tyX2 tyX2_ok nmX2 hown hK hP hD hS 0 rfl rfl 6 (by decide) w_2 rfl rfl rfl rfl (Nat.le_of_ble_eq_true rfl) rfl dX2_step_96 (fun H locs hP hD hS => ?_)
            refine lv_goto (tgt := 169) hx hb dX2_step_99 (by decide) ?_
            exact J_169 j21_F0_4 256 v0_7 v0_9 v0_10 hj21_F0_4 (iR_c (n := 256) (a := 0) (b := 324) (by decide +kernel) (by decide +kernel)) (iR_w f_8_1 (by decide +kernel)) (fun h => h) (Or.inl c_4) H locs ls hP hD hS (lv_sub hl [0, 1, 2] rfl)
        refine lv_icmp_ge (tgt := 73) hx hb dX2_step_29 (by decide) (fun c_29 => ?_) (fun c_29 => ?_)
        · have c_29 : v0_3 ≤ j21_F0_4 := c_29
          exact J_73   H locs ls hP hD hS (lv_sub hl [0, 1, 2] rfl)
        · have c_29 : j21_F0_4 < v0_3 := i_nle c_29
          have f_32_1 : iR j21_F0_4 0 1599 := iR_ltL c_29 hj21_F0_4 hv0_3 (by decide +kernel)
          have f_32_2 : iR v0_3 1 1600 := iR_ltR c_29 hj21_F0_4 hv0_3 (by decide +kernel)
          refine lv_aload_n hx hb dX2_step_32 rfl (lv_at hl 0 rfl) ?_
          refine k_get (D := (dC, dI)) (ci := 2) (v := .ref a0_0) (C := RX2) (T := TX2) (N := 11) hx hb hts hinX2 hown hK hP 0 rfl rfl 0 (by decide) w_5 rfl rfl dX2_step_33 ?_
          refine lv_aload_n hx hb dX2_step_36 rfl (lv_at hl 0 rfl) ?_
          refine k_get (D := (dC, dI)) (ci := 2) (v := .int j21_F0_4) (C := RX2) (T := TX2) (N := 11) hx hb hts hinX2 hown hK hP 0 rfl rfl 4 (by decide) w_1 rfl rfl dX2_step_37 ?_
          refine va_iald hx hb hK hP 1 0 rfl rfl (iR_vp f_32_1 (by decide +kernel)) dX2_step_40 ?_
          have f_40_3 : iR (f0_0 j21_F0_4.toNatClampNeg) 0 255 := hf0_0 _
          refine lv_bipush (v := 32) hx hb dX2_step_41 (by decide +kernel) ?_
          have J_60 : ∀  (k60_0 : iR (f0_0 j21_F0_4.toNatClampNeg) 10 32) (H : Heap) (locs : List Loc) (ls : Array Slot), va_P (dC, dI) vwCl [(a0, .inr (2, [.ref a0_0, .ref a0_1, .ref a0_2, .int v0_3, .int j21_F0_4, .int v0_5, .int v0_6, .int v0_7, .int 6, .int v0_9, .int v0_10])), (a0_0, .inl (cI, 1600, .inl f0_0)), (a0_1, .inl (cJ, 25, .inr (.inl g0_1)))] H → va_D A [(a0, .inr (2, [.ref a0_0, .ref a0_1, .ref a0_2, .int v0_3, .int j21_F0_4, .int v0_5, .int v0_6, .int v0_7, .int 6, .int v0_9, .int v0_10])), (a0_0, .inl (cI, 1600, .inl f0_0)), (a0_1, .inl (cJ, 25, .inr (.inl g0_1)))] → va_S A s.heap H locs → lv_has ls 3 [(0, .ref a0), (1, .int v0_4), (2, .int r_17)] → W p l e ({ frames := 3, cells := 0, slots := 0, locals := 89 }) s m args below meth c H locs 0 0 (MQ below (va_Qv (fun (u9 : SU) => (iR (u9.1 0) 0 1600) ∧ (iR (u9.1 1) 0 1600) ∧ (iR (u9.1 2) 0 324) ∧ (iR (u9.1 4) 0 6) ∧ ((0 : Int32) < v0_9 → (0 : Int32) < (u9.1 4)) ∧ (((u9.1 4) = 0) ∨ (((u9.1 2) = 259)))) (fun u => k_B (dC, dI) vwCl (tyy cI cJ cZ cM) A ((fun (u9 : SU) => [(a0, .inr (2, [.ref a0_0, .ref a0_1, .ref a0_2, .int v0_3, .int (u9.1 0), .int (u9.1 1), .int (u9.1 2), .int (u9.1 3), .int 6, .int (u9.1 4), .int (u9.1 5)])), (a0_0, .inl (cI, 1600, .inl f0_0)), (a0_1, .inl (cJ, 25, .inr (.inl g0_1)))]) u)) A) args s 0 0 A) (F0 m 60 ls []) := by
            intro  k60_0 H locs ls hP hD hS hl
            refine lv_aload_n hx hb dX2_step_60 rfl (lv_at hl 0 rfl) ?_
            refine lv_dup hx hb dX2_step_61 rfl ?_
            refine k_get (D := (dC, dI)) (ci := 2) (v := .int j21_F0_4) (C := RX2) (T := TX2) (N := 11) hx hb hts hinX2 hown hK hP 0 rfl rfl 4 (by decide) w_1 rfl rfl dX2_step_62 ?_
            refine lv_iconst (v := 1) hx hb dX2_step_65 (by decide +kernel) ?_
            refine lv_iadd hx hb dX2_step_66 ?_
            refine lv_topi (fun y_66 ey_66 => ?_)
            have f_66_1 : iR y_66 1 1600 := iR_add ey_66 f_32_1 (iR_c (n := 1) (a := 1) (b := 1) (by decide +kernel) (by decide +kernel)) (by decide +kernel)
            refine k_put (D := (dC, dI)) (ci := 2) (v := .int y_66) (C := RX2) (T := TX2) (N := 11) (ws' := [(a0, .inr (2, [.ref a0_0, .ref a0_1, .ref a0_2, .int v0_3, .int y_66, .int v0_5, .int v0_6, .int v0_7, .int 6, .int v0_9, .int v0_10])), (a0_0, .inl (cI, 1600, .inl f0_0)), (a0_1, .inl (cJ, 25, .inr (.inl g0_1)))]) hx hb hts hinX2 tyX2 tyX2_ok nmX2 hown hK hP hD hS 0 rfl rfl 4 (by decide) w_1 rfl rfl rfl rfl (Nat.le_of_ble_eq_true rfl) rfl dX2_step_67 (fun H locs hP hD hS => ?_)
            refine lv_goto (tgt := 21) hx hb dX2_step_70 (by decide) ?_
            exact ih_21 y_66 (iR_w f_66_1 (by decide +kernel)) (m_up (B := 1600) hm_21 ey_66 f_32_1 (by decide +kernel)) H locs ls hP hD hS (lv_sub hl [0, 1, 2] rfl)
          refine lv_icmp_eq (tgt := 60) hx hb dX2_step_43 (by decide) (fun c_43 => ?_) (fun c_43 => ?_)
          · have c_43 : (f0_0 j21_F0_4.toNatClampNeg) = 32 := c_43
            have f_60_4 : iR (f0_0 j21_F0_4.toNatClampNeg) 32 32 := iR_eqL c_43 f_40_3 (iR_c (n := 32) (a := 32) (b := 32) (by decide +kernel) (by decide +kernel)) (by decide +kernel)
            exact J_60  (iR_w f_60_4 (by decide +kernel)) H locs ls hP hD hS (lv_sub hl [0, 1, 2] rfl)
          · have c_43 : ¬ (f0_0 j21_F0_4.toNatClampNeg) = 32 := c_43
            refine lv_aload_n hx hb dX2_step_46 rfl (lv_at hl 0 rfl) ?_
            refine k_get (D := (dC, dI)) (ci := 2) (v := .ref a0_0) (C := RX2) (T := TX2) (N := 11) hx hb hts hinX2 hown hK hP 0 rfl rfl 0 (by decide) w_5 rfl rfl dX2_step_47 ?_
            refine lv_aload_n hx hb dX2_step_50 rfl (lv_at hl 0 rfl) ?_
            refine k_get (D := (dC, dI)) (ci := 2) (v := .int j21_F0_4) (C := RX2) (T := TX2) (N := 11) hx hb hts hinX2 hown hK hP 0 rfl rfl 4 (by decide) w_1 rfl rfl dX2_step_51 ?_
            refine va_iald hx hb hK hP 1 0 rfl rfl (iR_vp f_32_1 (by decide +kernel)) dX2_step_54 ?_
            refine lv_bipush (v := 10) hx hb dX2_step_55 (by decide +kernel) ?_
            refine lv_icmp_ne (tgt := 73) hx hb dX2_step_57 (by decide) (fun c_57 => ?_) (fun c_57 => ?_)
            · have c_57 : ¬ (f0_0 j21_F0_4.toNatClampNeg) = 10 := c_57
              exact J_73   H locs ls hP hD hS (lv_sub hl [0, 1, 2] rfl)
            · have c_57 : (f0_0 j21_F0_4.toNatClampNeg) = 10 := c_57
              have f_60_4 : iR (f0_0 j21_F0_4.toNatClampNeg) 10 10 := iR_eqL c_57 f_40_3 (iR_c (n := 10) (a := 10) (b := 10) (by decide +kernel) (by decide +kernel)) (by decide +kernel)
              exact J_60  (iR_w f_60_4 (by decide +kernel)) H locs ls hP hD hS (lv_sub hl [0, 1, 2] rfl)
    refine lv_istore_n (lv' := [(2, .int r_17), (1, .int v0_4), (0, .ref a0)]) hx hb dX2_step_20 rfl hl (by decide) rfl (fun ls hl => ?_)
    exact J_21 _ v0_4 hv0_4 (Nat.lt_succ_self _) H locs ls hP hD hS (lv_sub hl [2, 1, 0] rfl)
  · have c_4 : ¬ v0_9 = 0 := c_4
    have f_7_1 : iR v0_9 1 6 := iR_neL c_4 hv0_9 (iR_c (n := 0) (a := 0) (b := 0) (by decide +kernel) (by decide +kernel)) (by decide +kernel)
    obtain d_4_1_0 := hpg0.resolve_left c_4
    have f_7_2 : iR v0_6 259 259 := iR_eqL d_4_1_0 hv0_6 (iR_c (n := 259) (a := 259) (b := 259) (by decide +kernel) (by decide +kernel)) (by decide +kernel)
    exact k_rv B hP hD hS dX2_step_7 ((fun k9 => match k9 with | 0 => v0_4 | 1 => v0_5 | 2 => v0_6 | 3 => v0_7 | 4 => v0_9 | 5 => v0_10 | _ => 0), (fun _ => 0), (fun _ => (fun _ => 0)), (fun _ => (fun _ => 0)), (fun _ => 0)) [0, 1, 2] rfl rfl (Nat.le_of_ble_eq_true rfl) (Nat.le_of_ble_eq_true rfl) ⟨(show iR v0_4 0 1600 from hv0_4), (show iR v0_5 0 1600 from hv0_5), (show iR v0_6 0 324 from (iR_w f_7_2 (by decide +kernel))), (show iR v0_9 0 6 from (iR_w f_7_1 (by decide +kernel))), (show (0 : Int32) < v0_9 → (0 : Int32) < v0_9 from (fun h => h)), (show (v0_9 = 0) ∨ ((v0_6 = 259)) from (Or.inr d_4_1_0))⟩
set_option maxHeartbeats 8000000 in
set_option maxRecDepth 100000 in
theorem s_X2_step_v13 (l : Launch) (dC : Nat → ClassId) (dI : Nat → Nat → Nat) (cI cJ cZ cM : ClassId) (a0 : Nat) (a0_0 : Nat) (f0_0 : Nat → Int32) (a0_1 : Nat) (g0_1 : Nat → Int64) (b0_2 : Nat) (v0_3 : Int32) (v0_4 : Int32) (v0_5 : Int32) (v0_6 : Int32) (v0_7 : Int32) (v0_9 : Int32) (v0_10 : Int32) (hv0_3 : iR v0_3 0 1600) (hv0_4 : iR v0_4 0 1600) (hv0_5 : iR v0_5 0 1600) (hv0_6 : iR v0_6 0 324) (hv0_9 : iR v0_9 0 6) (hf0_0 : aR f0_0 0 255) (hpg0 : (v0_9 = 0) ∨ ((v0_6 = 259))) : k_Mv l yX2_step wsX2_step ({ frames := 3, cells := 0, slots := 0, locals := 89 }) (dC, dI) vwCl (tyy cI cJ cZ cM) [(a0, .inr (2, [.ref a0_0, .ref a0_1, .ref b0_2, .int v0_3, .int v0_4, .int v0_5, .int v0_6, .int v0_7, .int 6, .int v0_9, .int v0_10])), (a0_0, .inl (cI, 1600, .inl f0_0)), (a0_1, .inl (cJ, 25, .inr (.inl g0_1)))] [.ref a0] 0 0 (fun (u9 : SU) => [(a0, .inr (2, [.ref a0_0, .ref a0_1, .ref b0_2, .int v0_3, .int (u9.1 0), .int (u9.1 1), .int (u9.1 2), .int (u9.1 3), .int 6, .int (u9.1 4), .int (u9.1 5)])), (a0_0, .inl (cI, 1600, .inl f0_0)), (a0_1, .inl (cJ, 25, .inr (.inl g0_1)))]) (fun (u9 : SU) => (iR (u9.1 0) 0 1600) ∧ (iR (u9.1 1) 0 1600) ∧ (iR (u9.1 2) 0 324) ∧ (iR (u9.1 4) 0 6) ∧ ((0 : Int32) < v0_9 → (0 : Int32) < (u9.1 4)) ∧ (((u9.1 4) = 0) ∨ (((u9.1 2) = 259)))) := by
  refine fun sz => k_enter (cc := cX2_step) (maxL := 3) (ret := none) (Qc := fun A => va_Qv (fun (u9 : SU) => (iR (u9.1 0) 0 1600) ∧ (iR (u9.1 1) 0 1600) ∧ (iR (u9.1 2) 0 324) ∧ (iR (u9.1 4) 0 6) ∧ ((0 : Int32) < v0_9 → (0 : Int32) < (u9.1 4)) ∧ (((u9.1 4) = 0) ∨ (((u9.1 2) = 259)))) (fun u => k_B (dC, dI) vwCl (tyy cI cJ cZ cM) A ((fun (u9 : SU) => [(a0, .inr (2, [.ref a0_0, .ref a0_1, .ref b0_2, .int v0_3, .int (u9.1 0), .int (u9.1 1), .int (u9.1 2), .int (u9.1 3), .int 6, .int (u9.1 4), .int (u9.1 5)])), (a0_0, .inl (cI, 1600, .inl f0_0)), (a0_1, .inl (cJ, 25, .inr (.inl g0_1)))]) u)) A) sz (by decide +kernel) rfl (Nat.le_of_ble_eq_true rfl) (fun p e s m args below meth c A ls H locs B hP hD hS hl => ?_)
  obtain ⟨hx, hb, hml, hown, hts, hr, hlk, hnm, hK, hA, hN, hC⟩ := id B
  have hown : s.vm.findClass RX2 = some m.cls := hown
  have hl : lv_has ls 3 [(0, .ref a0)] := hl
  have w_0 : (Cond.fieldLink RX2 63 "WishSea$Reader" "fault" "I").before args s = true := hts _ (List.mem_of_getElem? (i := 1) rfl)
  have w_1 : (Cond.fieldLink RX2 57 "WishSea$Reader" "position" "I").before args s = true := hts _ (List.mem_of_getElem? (i := 2) rfl)
  have w_2 : (Cond.fieldLink RX2 15 "WishSea$Reader" "token" "I").before args s = true := hts _ (List.mem_of_getElem? (i := 3) rfl)
  have w_3 : (Cond.fieldLink RX2 55 "WishSea$Reader" "length" "I").before args s = true := hts _ (List.mem_of_getElem? (i := 4) rfl)
  have w_4 : (Cond.fieldLink RX2 73 "WishSea$Reader" "start" "I").before args s = true := hts _ (List.mem_of_getElem? (i := 6) rfl)
  have w_5 : (Cond.fieldLink RX2 22 "WishSea$Reader" "text" "[I").before args s = true := hts _ (List.mem_of_getElem? (i := 5) rfl)
  have hinX2 : ∀ w ∈ u_ws RX2 TX2 11, w ∈ wsX2_step := fun _ h => List.mem_cons_of_mem _ (List.mem_append_right _ h)
  refine lv_aload_n hx hb dX2_step_0 rfl (lv_at hl 0 rfl) ?_
  refine k_get (D := (dC, dI)) (ci := 2) (v := .int v0_9) (C := RX2) (T := TX2) (N := 11) hx hb hts hinX2 hown hK hP 0 rfl rfl 9 (by decide) w_0 rfl rfl dX2_step_1 ?_
  refine lv_if_eq (tgt := 8) hx hb dX2_step_4 (by decide) (fun c_4 => ?_) (fun c_4 => ?_)
  · have c_4 : v0_9 = 0 := c_4
    have f_8_1 : iR v0_9 0 0 := iR_eqL c_4 hv0_9 (iR_c (n := 0) (a := 0) (b := 0) (by decide +kernel) (by decide +kernel)) (by decide +kernel)
    refine lv_aload_n hx hb dX2_step_8 rfl (lv_at hl 0 rfl) ?_
    refine k_get (D := (dC, dI)) (ci := 2) (v := .int v0_4) (C := RX2) (T := TX2) (N := 11) hx hb hts hinX2 hown hK hP 0 rfl rfl 4 (by decide) w_1 rfl rfl dX2_step_9 ?_
    refine lv_istore_n (lv' := [(1, .int v0_4), (0, .ref a0)]) hx hb dX2_step_12 rfl hl (by decide) rfl (fun ls hl => ?_)
    refine lv_aload_n hx hb dX2_step_13 rfl (lv_at hl 1 rfl) ?_
    refine k_get (D := (dC, dI)) (ci := 2) (v := .int v0_6) (C := RX2) (T := TX2) (N := 11) hx hb hts hinX2 hown hK hP 0 rfl rfl 6 (by decide) w_2 rfl rfl dX2_step_14 ?_
    refine k_ci (wc := []) (wr := [(a0, .inr (2, [.ref a0_0, .ref a0_1, .ref b0_2, .int v0_3, .int v0_4, .int v0_5, .int v0_6, .int v0_7, .int 6, .int v0_9, .int v0_10])), (a0_0, .inl (cI, 1600, .inl f0_0)), (a0_1, .inl (cJ, 25, .inr (.inl g0_1)))]) (fun hPc hDc hFc => va_runS (As := [.int v0_6]) (rest := []) ⟨hx, hb, hml, hown, hts⟩ (s_X2_isWhole_v0 l dC dI cI cJ cZ cM v0_6 H.size) (va_cwS 1 hts gX2_step_X2_isWhole rfl rfl rfl (by decide +kernel) ⟨(Nat.le_of_ble_eq_true rfl), (Nat.le_of_ble_eq_true rfl)⟩) (k_pS hPc hDc hK hN hC hS hFc) rfl rfl hl.1 rfl (lv_room (Nat.le_of_ble_eq_true rfl)) dX2_step_17 ⟨(Nat.le_of_ble_eq_true rfl), (Nat.le_of_ble_eq_true rfl)⟩) hP hD hS hA [] [0, 1, 2] rfl rfl rfl rfl (by decide) (fun _ => rfl) 0 0 rfl rfl (fun r_17 u_17 H locs hw hP hD hS => ?_)
    have g_17_0 := hw
    have hP : va_P (dC, dI) vwCl [(a0, .inr (2, [.ref a0_0, .ref a0_1, .ref b0_2, .int v0_3, .int v0_4, .int v0_5, .int v0_6, .int v0_7, .int 6, .int v0_9, .int v0_10])), (a0_0, .inl (cI, 1600, .inl f0_0)), (a0_1, .inl (cJ, 25, .inr (.inl g0_1)))] H := hP
    have hD : va_D A [(a0, .inr (2, [.ref a0_0, .ref a0_1, .ref b0_2, .int v0_3, .int v0_4, .int v0_5, .int v0_6, .int v0_7, .int 6, .int v0_9, .int v0_10])), (a0_0, .inl (cI, 1600, .inl f0_0)), (a0_1, .inl (cJ, 25, .inr (.inl g0_1)))] := hD
    have J_21 : ∀ (n_21 : Nat) (j21_F0_4 : Int32) (hj21_F0_4 : iR j21_F0_4 0 1600) (hm_21 : (1600 - j21_F0_4.toInt).toNat < n_21) (H : Heap) (locs : List Loc) (ls : Array Slot), va_P (dC, dI) vwCl [(a0, .inr (2, [.ref a0_0, .ref a0_1, .ref b0_2, .int v0_3, .int j21_F0_4, .int v0_5, .int v0_6, .int v0_7, .int 6, .int v0_9, .int v0_10])), (a0_0, .inl (cI, 1600, .inl f0_0)), (a0_1, .inl (cJ, 25, .inr (.inl g0_1)))] H → va_D A [(a0, .inr (2, [.ref a0_0, .ref a0_1, .ref b0_2, .int v0_3, .int j21_F0_4, .int v0_5, .int v0_6, .int v0_7, .int 6, .int v0_9, .int v0_10])), (a0_0, .inl (cI, 1600, .inl f0_0)), (a0_1, .inl (cJ, 25, .inr (.inl g0_1)))] → va_S A s.heap H locs → lv_has ls 3 [(0, .ref a0), (1, .int v0_4), (2, .int r_17)] → W p l e ({ frames := 3, cells := 0, slots := 0, locals := 89 }) s m args below meth c H locs 0 0 (MQ below (va_Qv (fun (u9 : SU) => (iR (u9.1 0) 0 1600) ∧ (iR (u9.1 1) 0 1600) ∧ (iR (u9.1 2) 0 324) ∧ (iR (u9.1 4) 0 6) ∧ ((0 : Int32) < v0_9 → (0 : Int32) < (u9.1 4)) ∧ (((u9.1 4) = 0) ∨ (((u9.1 2) = 259)))) (fun u => k_B (dC, dI) vwCl (tyy cI cJ cZ cM) A ((fun (u9 : SU) => [(a0, .inr (2, [.ref a0_0, .ref a0_1, .ref b0_2, .int v0_3, .int (u9.1 0), .int (u9.1 1), .int (u9.1 2), .int (u9.1 3), .int 6, .int (u9.1 4), .int (u9.1 5)])), (a0_0, .inl (cI, 1600, .inl f0_0)), (a0_1, .inl (cJ, 25, .inr (.inl g0_1)))]) u)) A) args s 0 0 A) (F0 m 21 ls []) := by
      intro n_21
      induction n_21 with
      | zero => intro j21_F0_4 hj21_F0_4 hm_21; exact absurd hm_21 (Nat.not_lt_zero _)
      | succ n_21 ih_21 =>
        intro j21_F0_4 hj21_F0_4 hm_21 H locs ls hP hD hS hl
        refine lv_aload_n hx hb dX2_step_21 rfl (lv_at hl 0 rfl) ?_
        refine k_get (D := (dC, dI)) (ci := 2) (v := .int j21_F0_4) (C := RX2) (T := TX2) (N := 11) hx hb hts hinX2 hown hK hP 0 rfl rfl 4 (by decide) w_1 rfl rfl dX2_step_22 ?_
        refine lv_aload_n hx hb dX2_step_25 rfl (lv_at hl 0 rfl) ?_
        refine k_get (D := (dC, dI)) (ci := 2) (v := .int v0_3) (C := RX2) (T := TX2) (N := 11) hx hb hts hinX2 hown hK hP 0 rfl rfl 3 (by decide) w_3 rfl rfl dX2_step_26 ?_
        have J_73 : ∀   (H : Heap) (locs : List Loc) (ls : Array Slot), va_P (dC, dI) vwCl [(a0, .inr (2, [.ref a0_0, .ref a0_1, .ref b0_2, .int v0_3, .int j21_F0_4, .int v0_5, .int v0_6, .int v0_7, .int 6, .int v0_9, .int v0_10])), (a0_0, .inl (cI, 1600, .inl f0_0)), (a0_1, .inl (cJ, 25, .inr (.inl g0_1)))] H → va_D A [(a0, .inr (2, [.ref a0_0, .ref a0_1, .ref b0_2, .int v0_3, .int j21_F0_4, .int v0_5, .int v0_6, .int v0_7, .int 6, .int v0_9, .int v0_10])), (a0_0, .inl (cI, 1600, .inl f0_0)), (a0_1, .inl (cJ, 25, .inr (.inl g0_1)))] → va_S A s.heap H locs → lv_has ls 3 [(0, .ref a0), (1, .int v0_4), (2, .int r_17)] → W p l e ({ frames := 3, cells := 0, slots := 0, locals := 89 }) s m args below meth c H locs 0 0 (MQ below (va_Qv (fun (u9 : SU) => (iR (u9.1 0) 0 1600) ∧ (iR (u9.1 1) 0 1600) ∧ (iR (u9.1 2) 0 324) ∧ (iR (u9.1 4) 0 6) ∧ ((0 : Int32) < v0_9 → (0 : Int32) < (u9.1 4)) ∧ (((u9.1 4) = 0) ∨ (((u9.1 2) = 259)))) (fun u => k_B (dC, dI) vwCl (tyy cI cJ cZ cM) A ((fun (u9 : SU) => [(a0, .inr (2, [.ref a0_0, .ref a0_1, .ref b0_2, .int v0_3, .int (u9.1 0), .int (u9.1 1), .int (u9.1 2), .int (u9.1 3), .int 6, .int (u9.1 4), .int (u9.1 5)])), (a0_0, .inl (cI, 1600, .inl f0_0)), (a0_1, .inl (cJ, 25, .inr (.inl g0_1)))]) u)) A) args s 0 0 A) (F0 m 73 ls []) := by
          intro   H locs ls hP hD hS hl
          refine lv_aload_n hx hb dX2_step_73 rfl (lv_at hl 0 rfl) ?_
          refine lv_aload_n hx hb dX2_step_74 rfl (lv_at hl 0 rfl) ?_
          refine k_get (D := (dC, dI)) (ci := 2) (v := .int j21_F0_4) (C := RX2) (T := TX2) (N := 11) hx hb hts hinX2 hown hK hP 0 rfl rfl 4 (by decide) w_1 rfl rfl dX2_step_75 ?_
          refine k_put (D := (dC, dI)) (ci := 2) (v := .int j21_F0_4) (C := RX2) (T := TX2) (N := 11) (ws' := [(a0, .inr (2, [.ref a0_0, .ref a0_1, .ref b0_2, .int v0_3, .int j21_F0_4, .int j21_F0_4, .int v0_6, .int v0_7, .int 6, .int v0_9, .int v0_10])), (a0_0, .inl (cI, 1600, .inl f0_0)), (a0_1, .inl (cJ, 25, .inr (.inl g0_1)))]) hx hb hts hinX2 tyX2 tyX2_ok nmX2 hown hK hP hD hS 0 rfl rfl 5 (by decide) w_4 rfl rfl rfl rfl (Nat.le_of_ble_eq_true rfl) rfl dX2_step_78 (fun H locs hP hD hS => ?_)
          refine lv_aload_n hx hb dX2_step_81 rfl (lv_at hl 0 rfl) ?_
          refine k_get (D := (dC, dI)) (ci := 2) (v := .int j21_F0_4) (C := RX2) (T := TX2) (N := 11) hx hb hts hinX2 hown hK hP 0 rfl rfl 4 (by decide) w_1 rfl rfl dX2_step_82 ?_
          refine lv_aload_n hx hb dX2_step_85 rfl (lv_at hl 0 rfl) ?_
          refine k_get (D := (dC, dI)) (ci := 2) (v := .int v0_3) (C := RX2) (T := TX2) (N := 11) hx hb hts hinX2 hown hK hP 0 rfl rfl 3 (by decide) w_3 rfl rfl dX2_step_86 ?_
          have J_169 : ∀ (j169_F0_4 : Int32) (j169_F0_6 : Int32) (j169_F0_7 : Int32) (j169_F0_9 : Int32) (j169_F0_10 : Int32) (hj169_F0_4 : iR j169_F0_4 0 1600) (hj169_F0_6 : iR j169_F0_6 0 324) (hj169_F0_9 : iR j169_F0_9 0 6) (t169_xf : (0 : Int32) < v0_9 → (0 : Int32) < j169_F0_9) (w169_0 : (j169_F0_9 = 0) ∨ ((j169_F0_6 = 259))) (H : Heap) (locs : List Loc) (ls : Array Slot), va_P (dC, dI) vwCl [(a0, .inr (2, [.ref a0_0, .ref a0_1, .ref b0_2, .int v0_3, .int j169_F0_4, .int j21_F0_4, .int j169_F0_6, .int j169_F0_7, .int 6, .int j169_F0_9, .int j169_F0_10])), (a0_0, .inl (cI, 1600, .inl f0_0)), (a0_1, .inl (cJ, 25, .inr (.inl g0_1)))] H → va_D A [(a0, .inr (2, [.ref a0_0, .ref a0_1, .ref b0_2, .int v0_3, .int j169_F0_4, .int j21_F0_4, .int j169_F0_6, .int j169_F0_7, .int 6, .int j169_F0_9, .int j169_F0_10])), (a0_0, .inl (cI, 1600, .inl f0_0)), (a0_1, .inl (cJ, 25, .inr (.inl g0_1)))] → va_S A s.heap H locs → lv_has ls 3 [(0, .ref a0), (1, .int v0_4), (2, .int r_17)] → W p l e ({ frames := 3, cells := 0, slots := 0, locals := 89 }) s m args below meth c H locs 0 0 (MQ below (va_Qv (fun (u9 : SU) => (iR (u9.1 0) 0 1600) ∧ (iR (u9.1 1) 0 1600) ∧ (iR (u9.1 2) 0 324) ∧ (iR (u9.1 4) 0 6) ∧ ((0 : Int32) < v0_9 → (0 : Int32) < (u9.1 4)) ∧ (((u9.1 4) = 0) ∨ (((u9.1 2) = 259)))) (fun u => k_B (dC, dI) vwCl (tyy cI cJ cZ cM) A ((fun (u9 : SU) => [(a0, .inr (2, [.ref a0_0, .ref a0_1, .ref b0_2, .int v0_3, .int (u9.1 0), .int (u9.1 1), .int (u9.1 2), .int (u9.1 3), .int 6, .int (u9.1 4), .int (u9.1 5)])), (a0_0, .inl (cI, 1600, .inl f0_0)), (a0_1, .inl (cJ, 25, .inr (.inl g0_1)))]) u)) A) args s 0 0 A) (F0 m 169 ls []) := by
            intro j169_F0_4 j169_F0_6 j169_F0_7 j169_F0_9 j169_F0_10 hj169_F0_4 hj169_F0_6 hj169_F0_9 t169_xf w169_0 H locs ls hP hD hS hl
            refine lv_iload_n hx hb dX2_step_169 rfl (lv_at hl 2 rfl) ?_
            refine lv_if_eq (tgt := 200) hx hb dX2_step_170 (by decide) (fun c_170 => ?_) (fun c_170 => ?_)
            · have c_170 : r_17 = 0 := c_170
              have f_200_1 : iR r_17 0 0 := iR_eqL c_170 g_17_0 (iR_c (n := 0) (a := 0) (b := 0) (by decide +kernel) (by decide +kernel)) (by decide +kernel)
              exact k_rv B hP hD hS dX2_step_200 ((fun k9 => match k9 with | 0 => j169_F0_4 | 1 => j21_F0_4 | 2 => j169_F0_6 | 3 => j169_F0_7 | 4 => j169_F0_9 | 5 => j169_F0_10 | _ => 0), (fun _ => 0), (fun _ => (fun _ => 0)), (fun _ => (fun _ => 0)), (fun _ => 0)) [0, 1, 2] rfl rfl (Nat.le_of_ble_eq_true rfl) (Nat.le_of_ble_eq_true rfl) ⟨(show iR j169_F0_4 0 1600 from hj169_F0_4), (show iR j21_F0_4 0 1600 from hj21_F0_4), (show iR j169_F0_6 0 324 from hj169_F0_6), (show iR j169_F0_9 0 6 from hj169_F0_9), (show (0 : Int32) < v0_9 → (0 : Int32) < j169_F0_9 from t169_xf), (show (j169_F0_9 = 0) ∨ ((j169_F0_6 = 259)) from w169_0)⟩
            · have c_170 : ¬ r_17 = 0 := c_170
              have f_173_1 : iR r_17 1 1 := iR_neL c_170 g_17_0 (iR_c (n := 0) (a := 0) (b := 0) (by decide +kernel) (by decide +kernel)) (by decide +kernel)
              refine lv_aload_n hx hb dX2_step_173 rfl (lv_at hl 0 rfl) ?_
              refine k_get (D := (dC, dI)) (ci := 2) (v := .int j21_F0_4) (C := RX2) (T := TX2) (N := 11) hx hb hts hinX2 hown hK hP 0 rfl rfl 5 (by decide) w_4 rfl rfl dX2_step_174 ?_
              refine lv_iload_n hx hb dX2_step_177 rfl (lv_at hl 1 rfl) ?_
              refine lv_icmp_ne (tgt := 200) hx hb dX2_step_178 (by decide) (fun c_178 => ?_) (fun c_178 => ?_)
              · have c_178 : ¬ j21_F0_4 = v0_4 := c_178
                exact k_rv B hP hD hS dX2_step_200 ((fun k9 => match k9 with | 0 => j169_F0_4 | 1 => j21_F0_4 | 2 => j169_F0_6 | 3 => j169_F0_7 | 4 => j169_F0_9 | 5 => j169_F0_10 | _ => 0), (fun _ => 0), (fun _ => (fun _ => 0)), (fun _ => (fun _ => 0)), (fun _ => 0)) [0, 1, 2] rfl rfl (Nat.le_of_ble_eq_true rfl) (Nat.le_of_ble_eq_true rfl) ⟨(show iR j169_F0_4 0 1600 from hj169_F0_4), (show iR j21_F0_4 0 1600 from hj21_F0_4), (show iR j169_F0_6 0 324 from hj169_F0_6), (show iR j169_F0_9 0 6 from hj169_F0_9), (show (0 : Int32) < v0_9 → (0 : Int32) < j169_F0_9 from t169_xf), (show (j169_F0_9 = 0) ∨ ((j169_F0_6 = 259)) from w169_0)⟩
              · have c_178 : j21_F0_4 = v0_4 := c_178
                refine lv_aload_n hx hb dX2_step_181 rfl (lv_at hl 0 rfl) ?_
                refine k_get (D := (dC, dI)) (ci := 2) (v := .int j169_F0_6) (C := RX2) (T := TX2) (N := 11) hx hb hts hinX2 hown hK hP 0 rfl rfl 6 (by decide) w_2 rfl rfl dX2_step_182 ?_
                refine k_ci (wc := []) (wr := [(a0, .inr (2, [.ref a0_0, .ref a0_1, .ref b0_2, .int v0_3, .int j169_F0_4, .int j21_F0_4, .int j169_F0_6, .int j169_F0_7, .int 6, .int j169_F0_9, .int j169_F0_10])), (a0_0, .inl (cI, 1600, .inl f0_0)), (a0_1, .inl (cJ, 25, .inr (.inl g0_1)))]) (fun hPc hDc hFc => va_runS (As := [.int j169_F0_6]) (rest := []) ⟨hx, hb, hml, hown, hts⟩ (s_X2_isWhole_v0 l dC dI cI cJ cZ cM j169_F0_6 H.size) (va_cwS 1 hts gX2_step_X2_isWhole rfl rfl rfl (by decide +kernel) ⟨(Nat.le_of_ble_eq_true rfl), (Nat.le_of_ble_eq_true rfl)⟩) (k_pS hPc hDc hK hN hC hS hFc) rfl rfl hl.1 rfl (lv_room (Nat.le_of_ble_eq_true rfl)) dX2_step_185 ⟨(Nat.le_of_ble_eq_true rfl), (Nat.le_of_ble_eq_true rfl)⟩) hP hD hS hA [] [0, 1, 2] rfl rfl rfl rfl (by decide) (fun _ => rfl) 0 0 rfl rfl (fun r_185 u_185 H locs hw hP hD hS => ?_)
                have g_185_0 := hw
                have hP : va_P (dC, dI) vwCl [(a0, .inr (2, [.ref a0_0, .ref a0_1, .ref b0_2, .int v0_3, .int j169_F0_4, .int j21_F0_4, .int j169_F0_6, .int j169_F0_7, .int 6, .int j169_F0_9, .int j169_F0_10])), (a0_0, .inl (cI, 1600, .inl f0_0)), (a0_1, .inl (cJ, 25, .inr (.inl g0_1)))] H := hP
                have hD : va_D A [(a0, .inr (2, [.ref a0_0, .ref a0_1, .ref b0_2, .int v0_3, .int j169_F0_4, .int j21_F0_4, .int j169_F0_6, .int j169_F0_7, .int 6, .int j169_F0_9, .int j169_F0_10])), (a0_0, .inl (cI, 1600, .inl f0_0)), (a0_1, .inl (cJ, 25, .inr (.inl g0_1)))] := hD
                refine lv_if_eq (tgt := 200) hx hb dX2_step_188 (by decide) (fun c_188 => ?_) (fun c_188 => ?_)
                · have c_188 : r_185 = 0 := c_188
                  have f_200_2 : iR r_185 0 0 := iR_eqL c_188 g_185_0 (iR_c (n := 0) (a := 0) (b := 0) (by decide +kernel) (by decide +kernel)) (by decide +kernel)
                  exact k_rv B hP hD hS dX2_step_200 ((fun k9 => match k9 with | 0 => j169_F0_4 | 1 => j21_F0_4 | 2 => j169_F0_6 | 3 => j169_F0_7 | 4 => j169_F0_9 | 5 => j169_F0_10 | _ => 0), (fun _ => 0), (fun _ => (fun _ => 0)), (fun _ => (fun _ => 0)), (fun _ => 0)) [0, 1, 2] rfl rfl (Nat.le_of_ble_eq_true rfl) (Nat.le_of_ble_eq_true rfl) ⟨(show iR j169_F0_4 0 1600 from hj169_F0_4), (show iR j21_F0_4 0 1600 from hj21_F0_4), (show iR j169_F0_6 0 324 from hj169_F0_6), (show iR j169_F0_9 0 6 from hj169_F0_9), (show (0 : Int32) < v0_9 → (0 : Int32) < j169_F0_9 from t169_xf), (show (j169_F0_9 = 0) ∨ ((j169_F0_6 = 259)) from w169_0)⟩
                · have c_188 : ¬ r_185 = 0 := c_188
                  have f_191_2 : iR r_185 1 1 := iR_neL c_188 g_185_0 (iR_c (n := 0) (a := 0) (b := 0) (by decide +kernel) (by decide +kernel)) (by decide +kernel)
                  refine lv_aload_n hx hb dX2_step_191 rfl (lv_at hl 0 rfl) ?_
                  refine lv_iconst (v := 1) hx hb dX2_step_192 (by decide +kernel) ?_
                  refine lv_aload_n hx hb dX2_step_193 rfl (lv_at hl 0 rfl) ?_
                  refine k_get (D := (dC, dI)) (ci := 2) (v := .int j21_F0_4) (C := RX2) (T := TX2) (N := 11) hx hb hts hinX2 hown hK hP 0 rfl rfl 5 (by decide) w_4 rfl rfl dX2_step_194 ?_
                  refine k_cv (wc := [(a0, .inr (2, [.ref a0_0, .ref a0_1, .ref b0_2, .int v0_3, .int j169_F0_4, .int j21_F0_4, .int j169_F0_6, .int j169_F0_7, .int 6, .int j169_F0_9, .int j169_F0_10]))]) (wr := [(a0_0, .inl (cI, 1600, .inl f0_0)), (a0_1, .inl (cJ, 25, .inr (.inl g0_1)))]) (fun hPc hDc hFc => va_runV (As := [.int 1, .int j21_F0_4]) (rest := []) ⟨hx, hb, hml, hown, hts⟩ (s_X2_blame_v20 l dC dI cI cJ cZ cM a0 1 j21_F0_4 a0_0 a0_1 b0_2 v0_3 j169_F0_4 j21_F0_4 j169_F0_6 j169_F0_7 j169_F0_9 j169_F0_10 (iR_c (n := 1) (a := 1) (b := 6) (by decide +kernel) (by decide +kernel)) hv0_3 hj169_F0_4 hj21_F0_4 hj169_F0_6 hj169_F0_9 w169_0 H.size) (cwV 2 hts gX2_step_X2_blame rfl rfl rfl (by decide +kernel) ⟨(Nat.le_of_ble_eq_true rfl), (Nat.le_of_ble_eq_true rfl)⟩) (k_pV hPc hDc hK hN hC hS hFc hP (q0 := 0) (ci := 2) rfl rfl) rfl rfl hl.1 rfl (lv_room (Nat.le_of_ble_eq_true rfl)) dX2_step_197 ⟨(Nat.le_of_ble_eq_true rfl), (Nat.le_of_ble_eq_true rfl)⟩) hP hD hS hA [0] [1, 2] rfl rfl rfl rfl (by decide) (fun _ => rfl) 0 0 rfl rfl (fun u_197 H locs hw hP hD hS => ?_)
                  obtain ⟨g_197_0, g_197_1, g_197_2, g_197_3⟩ := hw
                  have hP : va_P (dC, dI) vwCl [(a0_0, .inl (cI, 1600, .inl f0_0)), (a0_1, .inl (cJ, 25, .inr (.inl g0_1))), (a0, .inr (2, [.ref a0_0, .ref a0_1, .ref b0_2, .int v0_3, .int j169_F0_4, .int j21_F0_4, .int (u_197.1 0), .int j169_F0_7, .int 6, .int (u_197.1 1), .int (u_197.1 2)]))] H := hP
                  have hD : va_D A [(a0_0, .inl (cI, 1600, .inl f0_0)), (a0_1, .inl (cJ, 25, .inr (.inl g0_1))), (a0, .inr (2, [.ref a0_0, .ref a0_1, .ref b0_2, .int v0_3, .int j169_F0_4, .int j21_F0_4, .int (u_197.1 0), .int j169_F0_7, .int 6, .int (u_197.1 1), .int (u_197.1 2)]))] := hD
                  have g_197_2 : (0 : Int32) < j169_F0_9 → (0 : Int32) < (u_197.1 1) := g_197_2
                  have g_197_3 : ((u_197.1 1) = 0) ∨ (((u_197.1 0) = 259)) := g_197_3
                  obtain d197_1_0 := g_197_3.resolve_left (i_nef g_197_1 (iR_c (n := 0) (a := 0) (b := 0) (by decide +kernel) (by decide +kernel)) (by decide +kernel))
                  exact k_rv B hP hD hS dX2_step_200 ((fun k9 => match k9 with | 0 => j169_F0_4 | 1 => j21_F0_4 | 2 => (u_197.1 0) | 3 => j169_F0_7 | 4 => (u_197.1 1) | 5 => (u_197.1 2) | _ => 0), (fun _ => 0), (fun _ => (fun _ => 0)), (fun _ => (fun _ => 0)), (fun _ => 0)) [2, 0, 1] rfl rfl (Nat.le_of_ble_eq_true rfl) (Nat.le_of_ble_eq_true rfl) ⟨(show iR j169_F0_4 0 1600 from hj169_F0_4), (show iR j21_F0_4 0 1600 from hj21_F0_4), (show iR (u_197.1 0) 0 324 from (iR_w g_197_0 (by decide +kernel))), (show iR (u_197.1 1) 0 6 from (iR_w g_197_1 (by decide +kernel))), (show (0 : Int32) < v0_9 → (0 : Int32) < (u_197.1 1) from (fun h => g_197_2 (t169_xf h))), (show ((u_197.1 1) = 0) ∨ (((u_197.1 0) = 259)) from (Or.inr d197_1_0))⟩
          refine lv_icmp_lt (tgt := 102) hx hb dX2_step_89 (by decide) (fun c_89 => ?_) (fun c_89 => ?_)
          · have c_89 : j21_F0_4 < v0_3 := c_89
            have f_102_1 : iR j21_F0_4 0 1599 := iR_ltL c_89 hj21_F0_4 hv0_3 (by decide +kernel)
            have f_102_2 : iR v0_3 1 1600 := iR_ltR c_89 hj21_F0_4 hv0_3 (by decide +kernel)
            refine lv_aload_n hx hb dX2_step_102 rfl (lv_at hl 0 rfl) ?_
            refine k_get (D := (dC, dI)) (ci := 2) (v := .ref a0_0) (C := RX2) (T := TX2) (N := 11) hx hb hts hinX2 hown hK hP 0 rfl rfl 0 (by decide) w_5 rfl rfl dX2_step_103 ?_
            refine lv_aload_n hx hb dX2_step_106 rfl (lv_at hl 0 rfl) ?_
            refine k_get (D := (dC, dI)) (ci := 2) (v := .int j21_F0_4) (C := RX2) (T := TX2) (N := 11) hx hb hts hinX2 hown hK hP 0 rfl rfl 4 (by decide) w_1 rfl rfl dX2_step_107 ?_
            refine va_iald hx hb hK hP 1 0 rfl rfl (iR_vp f_102_1 (by decide +kernel)) dX2_step_110 ?_
            have f_110_3 : iR (f0_0 j21_F0_4.toNatClampNeg) 0 255 := hf0_0 _
            refine k_ci (wc := []) (wr := [(a0, .inr (2, [.ref a0_0, .ref a0_1, .ref b0_2, .int v0_3, .int j21_F0_4, .int j21_F0_4, .int v0_6, .int v0_7, .int 6, .int v0_9, .int v0_10])), (a0_0, .inl (cI, 1600, .inl f0_0)), (a0_1, .inl (cJ, 25, .inr (.inl g0_1)))]) (fun hPc hDc hFc => va_runS (As := [.int (f0_0 j21_F0_4.toNatClampNeg)]) (rest := []) ⟨hx, hb, hml, hown, hts⟩ (s_X2_isLetter_v0 l dC dI cI cJ cZ cM (f0_0 j21_F0_4.toNatClampNeg) H.size) (va_cwS 1 hts gX2_step_X2_isLetter rfl rfl rfl (by decide +kernel) ⟨(Nat.le_of_ble_eq_true rfl), (Nat.le_of_ble_eq_true rfl)⟩) (k_pS hPc hDc hK hN hC hS hFc) rfl rfl hl.1 rfl (lv_room (Nat.le_of_ble_eq_true rfl)) dX2_step_111 ⟨(Nat.le_of_ble_eq_true rfl), (Nat.le_of_ble_eq_true rfl)⟩) hP hD hS hA [] [0, 1, 2] rfl rfl rfl rfl (by decide) (fun _ => rfl) 0 0 rfl rfl (fun r_111 u_111 H locs hw hP hD hS => ?_)
            have g_111_0 := hw
            have hP : va_P (dC, dI) vwCl [(a0, .inr (2, [.ref a0_0, .ref a0_1, .ref b0_2, .int v0_3, .int j21_F0_4, .int j21_F0_4, .int v0_6, .int v0_7, .int 6, .int v0_9, .int v0_10])), (a0_0, .inl (cI, 1600, .inl f0_0)), (a0_1, .inl (cJ, 25, .inr (.inl g0_1)))] H := hP
            have hD : va_D A [(a0, .inr (2, [.ref a0_0, .ref a0_1, .ref b0_2, .int v0_3, .int j21_F0_4, .int j21_F0_4, .int v0_6, .int v0_7, .int 6, .int v0_9, .int v0_10])), (a0_0, .inl (cI, 1600, .inl f0_0)), (a0_1, .inl (cJ, 25, .inr (.inl g0_1)))] := hD
            refine lv_if_eq (tgt := 124) hx hb dX2_step_114 (by decide) (fun c_114 => ?_) (fun c_114 => ?_)
            · have c_114 : r_111 = 0 := c_114
              have f_124_4 : iR r_111 0 0 := iR_eqL c_114 g_111_0 (iR_c (n := 0) (a := 0) (b := 0) (by decide +kernel) (by decide +kernel)) (by decide +kernel)
              refine lv_aload_n hx hb dX2_step_124 rfl (lv_at hl 0 rfl) ?_
              refine k_get (D := (dC, dI)) (ci := 2) (v := .ref a0_0) (C := RX2) (T := TX2) (N := 11) hx hb hts hinX2 hown hK hP 0 rfl rfl 0 (by decide) w_5 rfl rfl dX2_step_125 ?_
              refine lv_aload_n hx hb dX2_step_128 rfl (lv_at hl 0 rfl) ?_
              refine k_get (D := (dC, dI)) (ci := 2) (v := .int j21_F0_4) (C := RX2) (T := TX2) (N := 11) hx hb hts hinX2 hown hK hP 0 rfl rfl 4 (by decide) w_1 rfl rfl dX2_step_129 ?_
              refine va_iald hx hb hK hP 1 0 rfl rfl (iR_vp f_102_1 (by decide +kernel)) dX2_step_132 ?_
              refine k_ci (wc := []) (wr := [(a0, .inr (2, [.ref a0_0, .ref a0_1, .ref b0_2, .int v0_3, .int j21_F0_4, .int j21_F0_4, .int v0_6, .int v0_7, .int 6, .int v0_9, .int v0_10])), (a0_0, .inl (cI, 1600, .inl f0_0)), (a0_1, .inl (cJ, 25, .inr (.inl g0_1)))]) (fun hPc hDc hFc => va_runS (As := [.int (f0_0 j21_F0_4.toNatClampNeg)]) (rest := []) ⟨hx, hb, hml, hown, hts⟩ (s_X2_isDigit_v0 l dC dI cI cJ cZ cM (f0_0 j21_F0_4.toNatClampNeg) H.size) (va_cwS 1 hts gX2_step_X2_isDigit rfl rfl rfl (by decide +kernel) ⟨(Nat.le_of_ble_eq_true rfl), (Nat.le_of_ble_eq_true rfl)⟩) (k_pS hPc hDc hK hN hC hS hFc) rfl rfl hl.1 rfl (lv_room (Nat.le_of_ble_eq_true rfl)) dX2_step_133 ⟨(Nat.le_of_ble_eq_true rfl), (Nat.le_of_ble_eq_true rfl)⟩) hP hD hS hA [] [0, 1, 2] rfl rfl rfl rfl (by decide) (fun _ => rfl) 0 0 rfl rfl (fun r_133 u_133 H locs hw hP hD hS => ?_)
              have g_133_0 := hw
              have hP : va_P (dC, dI) vwCl [(a0, .inr (2, [.ref a0_0, .ref a0_1, .ref b0_2, .int v0_3, .int j21_F0_4, .int j21_F0_4, .int v0_6, .int v0_7, .int 6, .int v0_9, .int v0_10])), (a0_0, .inl (cI, 1600, .inl f0_0)), (a0_1, .inl (cJ, 25, .inr (.inl g0_1)))] H := hP
              have hD : va_D A [(a0, .inr (2, [.ref a0_0, .ref a0_1, .ref b0_2, .int v0_3, .int j21_F0_4, .int j21_F0_4, .int v0_6, .int v0_7, .int 6, .int v0_9, .int v0_10])), (a0_0, .inl (cI, 1600, .inl f0_0)), (a0_1, .inl (cJ, 25, .inr (.inl g0_1)))] := hD
              refine lv_if_eq (tgt := 146) hx hb dX2_step_136 (by decide) (fun c_136 => ?_) (fun c_136 => ?_)
              · have c_136 : r_133 = 0 := c_136
                have f_146_5 : iR r_133 0 0 := iR_eqL c_136 g_133_0 (iR_c (n := 0) (a := 0) (b := 0) (by decide +kernel) (by decide +kernel)) (by decide +kernel)
                refine lv_aload_n hx hb dX2_step_146 rfl (lv_at hl 0 rfl) ?_
                refine lv_aload_n hx hb dX2_step_147 rfl (lv_at hl 0 rfl) ?_
                refine k_get (D := (dC, dI)) (ci := 2) (v := .ref a0_0) (C := RX2) (T := TX2) (N := 11) hx hb hts hinX2 hown hK hP 0 rfl rfl 0 (by decide) w_5 rfl rfl dX2_step_148 ?_
                refine lv_aload_n hx hb dX2_step_151 rfl (lv_at hl 0 rfl) ?_
                refine k_get (D := (dC, dI)) (ci := 2) (v := .int j21_F0_4) (C := RX2) (T := TX2) (N := 11) hx hb hts hinX2 hown hK hP 0 rfl rfl 4 (by decide) w_1 rfl rfl dX2_step_152 ?_
                refine va_iald hx hb hK hP 1 0 rfl rfl (iR_vp f_102_1 (by decide +kernel)) dX2_step_155 ?_
                refine k_put (D := (dC, dI)) (ci := 2) (v := .int (f0_0 j21_F0_4.toNatClampNeg)) (C := RX2) (T := TX2) (N := 11) (ws' := [(a0, .inr (2, [.ref a0_0, .ref a0_1, .ref b0_2, .int v0_3, .int j21_F0_4, .int j21_F0_4, .int (f0_0 j21_F0_4.toNatClampNeg), .int v0_7, .int 6, .int v0_9, .int v0_10])), (a0_0, .inl (cI, 1600, .inl f0_0)), (a0_1, .inl (cJ, 25, .inr (.inl g0_1)))]) hx hb hts hinX2 tyX2 tyX2_ok nmX2 hown hK hP hD hS 0 rfl rfl 6 (by decide) w_2 rfl rfl rfl rfl (Nat.le_of_ble_eq_true rfl) rfl dX2_step_156 (fun H locs hP hD hS => ?_)
                refine lv_aload_n hx hb dX2_step_159 rfl (lv_at hl 0 rfl) ?_
                refine lv_dup hx hb dX2_step_160 rfl ?_
                refine k_get (D := (dC, dI)) (ci := 2) (v := .int j21_F0_4) (C := RX2) (T := TX2) (N := 11) hx hb hts hinX2 hown hK hP 0 rfl rfl 4 (by decide) w_1 rfl rfl dX2_step_161 ?_
                refine lv_iconst (v := 1) hx hb dX2_step_164 (by decide +kernel) ?_
                refine lv_iadd hx hb dX2_step_165 ?_
                refine lv_topi (fun y_165 ey_165 => ?_)
                have f_165_6 : iR y_165 1 1600 := iR_add ey_165 f_102_1 (iR_c (n := 1) (a := 1) (b := 1) (by decide +kernel) (by decide +kernel)) (by decide +kernel)
                refine k_put (D := (dC, dI)) (ci := 2) (v := .int y_165) (C := RX2) (T := TX2) (N := 11) (ws' := [(a0, .inr (2, [.ref a0_0, .ref a0_1, .ref b0_2, .int v0_3, .int y_165, .int j21_F0_4, .int (f0_0 j21_F0_4.toNatClampNeg), .int v0_7, .int 6, .int v0_9, .int v0_10])), (a0_0, .inl (cI, 1600, .inl f0_0)), (a0_1, .inl (cJ, 25, .inr (.inl g0_1)))]) hx hb hts hinX2 tyX2 tyX2_ok nmX2 hown hK hP hD hS 0 rfl rfl 4 (by decide) w_1 rfl rfl rfl rfl (Nat.le_of_ble_eq_true rfl) rfl dX2_step_166 (fun H locs hP hD hS => ?_)
                exact J_169 y_165 (f0_0 j21_F0_4.toNatClampNeg) v0_7 v0_9 v0_10 (iR_w f_165_6 (by decide +kernel)) (iR_w f_110_3 (by decide +kernel)) (iR_w f_8_1 (by decide +kernel)) (fun h => h) (Or.inl c_4) H locs ls hP hD hS (lv_sub hl [0, 1, 2] rfl)
              · have c_136 : ¬ r_133 = 0 := c_136
                have f_139_5 : iR r_133 1 1 := iR_neL c_136 g_133_0 (iR_c (n := 0) (a := 0) (b := 0) (by decide +kernel) (by decide +kernel)) (by decide +kernel)
                refine lv_aload_n hx hb dX2_step_139 rfl (lv_at hl 0 rfl) ?_
                refine k_cv (wc := [(a0, .inr (2, [.ref a0_0, .ref a0_1, .ref b0_2, .int v0_3, .int j21_F0_4, .int j21_F0_4, .int v0_6, .int v0_7, .int 6, .int v0_9, .int v0_10])), (a0_0, .inl (cI, 1600, .inl f0_0))]) (wr := [(a0_1, .inl (cJ, 25, .inr (.inl g0_1)))]) (fun hPc hDc hFc => va_runV (As := []) (rest := []) ⟨hx, hb, hml, hown, hts⟩ (s_X2_readNumber_v13 l dC dI cI cJ cZ cM a0 a0_0 f0_0 a0_1 b0_2 v0_3 j21_F0_4 j21_F0_4 v0_6 v0_7 v0_9 v0_10 (show iR v0_9 0 0 from f_8_1) (iR_w f_102_2 (by decide +kernel)) (iR_w f_102_1 (by decide +kernel)) (iR_w f_102_1 (by decide +kernel)) hv0_6 (iR_w f_8_1 (by decide +kernel)) hf0_0 hpg0 H.size) (cwV 0 hts gX2_step_X2_readNumber rfl rfl rfl (by decide +kernel) ⟨(Nat.le_of_ble_eq_true rfl), (Nat.le_of_ble_eq_true rfl)⟩) (k_pV hPc hDc hK hN hC hS hFc hP (q0 := 0) (ci := 2) rfl rfl) rfl rfl hl.1 rfl (lv_room (Nat.le_of_ble_eq_true rfl)) dX2_step_140 ⟨(Nat.le_of_ble_eq_true rfl), (Nat.le_of_ble_eq_true rfl)⟩) hP hD hS hA [0, 1] [2] rfl rfl rfl rfl (by decide) (fun _ => rfl) 0 0 rfl rfl (fun u_140 H locs hw hP hD hS => ?_)
                obtain ⟨g_140_0, g_140_1, g_140_2, g_140_3, g_140_4⟩ := hw
                have hP : va_P (dC, dI) vwCl [(a0_1, .inl (cJ, 25, .inr (.inl g0_1))), (a0, .inr (2, [.ref a0_0, .ref a0_1, .ref b0_2, .int v0_3, .int (u_140.1 0), .int j21_F0_4, .int (u_140.1 1), .int (u_140.1 2), .int 6, .int (u_140.1 3), .int (u_140.1 4)])), (a0_0, .inl (cI, 1600, .inl f0_0))] H := hP
                have hD : va_D A [(a0_1, .inl (cJ, 25, .inr (.inl g0_1))), (a0, .inr (2, [.ref a0_0, .ref a0_1, .ref b0_2, .int v0_3, .int (u_140.1 0), .int j21_F0_4, .int (u_140.1 1), .int (u_140.1 2), .int 6, .int (u_140.1 3), .int (u_140.1 4)])), (a0_0, .inl (cI, 1600, .inl f0_0))] := hD
                have g_140_3 : (0 : Int32) < v0_9 → (0 : Int32) < (u_140.1 3) := g_140_3
                have g_140_4 : ((u_140.1 3) = 0) ∨ (((u_140.1 1) = 259)) := g_140_4
                refine lv_goto (tgt := 169) hx hb dX2_step_143 (by decide) ?_
                exact J_169 (u_140.1 0) (u_140.1 1) (u_140.1 2) (u_140.1 3) (u_140.1 4) g_140_0 (iR_w g_140_1 (by decide +kernel)) g_140_2 (fun h => g_140_3 ((fun h => h) h)) g_140_4 H locs ls (hP.sub [1, 2, 0] rfl) (hD.sub [1, 2, 0] (by decide +kernel) rfl) hS (lv_sub hl [0, 1, 2] rfl)
            · have c_114 : ¬ r_111 = 0 := c_114
              have f_117_4 : iR r_111 1 1 := iR_neL c_114 g_111_0 (iR_c (n := 0) (a := 0) (b := 0) (by decide +kernel) (by decide +kernel)) (by decide +kernel)
              refine lv_aload_n hx hb dX2_step_117 rfl (lv_at hl 0 rfl) ?_
              refine k_cv (wc := [(a0, .inr (2, [.ref a0_0, .ref a0_1, .ref b0_2, .int v0_3, .int j21_F0_4, .int j21_F0_4, .int v0_6, .int v0_7, .int 6, .int v0_9, .int v0_10])), (a0_0, .inl (cI, 1600, .inl f0_0)), (a0_1, .inl (cJ, 25, .inr (.inl g0_1)))]) (wr := []) (fun hPc hDc hFc => va_runV (As := []) (rest := []) ⟨hx, hb, hml, hown, hts⟩ (s_X2_readWord_v13 l dC dI cI cJ cZ cM a0 a0_0 f0_0 a0_1 g0_1 b0_2 v0_3 j21_F0_4 j21_F0_4 v0_6 v0_7 v0_9 v0_10 (show iR v0_9 0 0 from f_8_1) (iR_w f_102_2 (by decide +kernel)) (iR_w f_102_1 (by decide +kernel)) (iR_w f_102_1 (by decide +kernel)) hv0_6 (iR_w f_8_1 (by decide +kernel)) hf0_0 hpg0 H.size) (cwV 0 hts gX2_step_X2_readWord rfl rfl rfl (by decide +kernel) ⟨(Nat.le_of_ble_eq_true rfl), (Nat.le_of_ble_eq_true rfl)⟩) (k_pV hPc hDc hK hN hC hS hFc hP (q0 := 0) (ci := 2) rfl rfl) rfl rfl hl.1 rfl (lv_room (Nat.le_of_ble_eq_true rfl)) dX2_step_118 ⟨(Nat.le_of_ble_eq_true rfl), (Nat.le_of_ble_eq_true rfl)⟩) hP hD hS hA [0, 1, 2] [] rfl rfl rfl rfl (by decide) (fun _ => rfl) 0 0 rfl rfl (fun u_118 H locs hw hP hD hS => ?_)
              obtain ⟨g_118_0, g_118_1, g_118_2, g_118_3, g_118_4⟩ := hw
              have hP : va_P (dC, dI) vwCl [(a0, .inr (2, [.ref a0_0, .ref a0_1, .ref b0_2, .int v0_3, .int (u_118.1 0), .int j21_F0_4, .int (u_118.1 1), .int (u_118.1 2), .int 6, .int (u_118.1 3), .int (u_118.1 4)])), (a0_0, .inl (cI, 1600, .inl f0_0)), (a0_1, .inl (cJ, 25, .inr (.inl g0_1)))] H := hP
              have hD : va_D A [(a0, .inr (2, [.ref a0_0, .ref a0_1, .ref b0_2, .int v0_3, .int (u_118.1 0), .int j21_F0_4, .int (u_118.1 1), .int (u_118.1 2), .int 6, .int (u_118.1 3), .int (u_118.1 4)])), (a0_0, .inl (cI, 1600, .inl f0_0)), (a0_1, .inl (cJ, 25, .inr (.inl g0_1)))] := hD
              have g_118_3 : (0 : Int32) < v0_9 → (0 : Int32) < (u_118.1 3) := g_118_3
              have g_118_4 : ((u_118.1 3) = 0) ∨ (((u_118.1 1) = 259)) := g_118_4
              refine lv_goto (tgt := 169) hx hb dX2_step_121 (by decide) ?_
              exact J_169 (u_118.1 0) (u_118.1 1) (u_118.1 2) (u_118.1 3) (u_118.1 4) g_118_0 (iR_w g_118_1 (by decide +kernel)) g_118_2 (fun h => g_118_3 ((fun h => h) h)) g_118_4 H locs ls hP hD hS (lv_sub hl [0, 1, 2] rfl)
          · have c_89 : v0_3 ≤ j21_F0_4 := i_nlt c_89
            refine lv_aload_n hx hb dX2_step_92 rfl (lv_at hl 0 rfl) ?_
            refine lv_sipush (v := 256) hx hb dX2_step_93 (by decide +kernel) ?_
            refine k_put (D := (dC, dI)) (ci := 2) (v := .int 256) (C := RX2) (T := TX2) (N := 11) (ws' := [(a0, .inr (2, [.ref a0_0, .ref a0_1, .ref b0_2, .int v0_3, .int j21_F0_4, .int j21_F0_4, .int 256, .int v0_7, .int 6, .int v0_9, .int v0_10])), (a0_0, .inl (cI, 1600, .inl f0_0)), (a0_1, .inl (cJ, 25, .inr (.inl g0_1)))]) hx hb hts hinX2 tyX2 tyX2_ok nmX2 hown hK hP hD hS 0 rfl rfl 6 (by decide) w_2 rfl rfl rfl rfl (Nat.le_of_ble_eq_true rfl) rfl dX2_step_96 (fun H locs hP hD hS => ?_)
            refine lv_goto (tgt := 169) hx hb dX2_step_99 (by decide) ?_
            exact J_169 j21_F0_4 256 v0_7 v0_9 v0_10 hj21_F0_4 (iR_c (n := 256) (a := 0) (b := 324) (by decide +kernel) (by decide +kernel)) (iR_w f_8_1 (by decide +kernel)) (fun h => h) (Or.inl c_4) H locs ls hP hD hS (lv_sub hl [0, 1, 2] rfl)
        refine lv_icmp_ge (tgt := 73) hx hb dX2_step_29 (by decide) (fun c_29 => ?_) (fun c_29 => ?_)
        · have c_29 : v0_3 ≤ j21_F0_4 := c_29
          exact J_73   H locs ls hP hD hS (lv_sub hl [0, 1, 2] rfl)
        · have c_29 : j21_F0_4 < v0_3 := i_nle c_29
          have f_32_1 : iR j21_F0_4 0 1599 := iR_ltL c_29 hj21_F0_4 hv0_3 (by decide +kernel)
          have f_32_2 : iR v0_3 1 1600 := iR_ltR c_29 hj21_F0_4 hv0_3 (by decide +kernel)
          refine lv_aload_n hx hb dX2_step_32 rfl (lv_at hl 0 rfl) ?_
          refine k_get (D := (dC, dI)) (ci := 2) (v := .ref a0_0) (C := RX2) (T := TX2) (N := 11) hx hb hts hinX2 hown hK hP 0 rfl rfl 0 (by decide) w_5 rfl rfl dX2_step_33 ?_
          refine lv_aload_n hx hb dX2_step_36 rfl (lv_at hl 0 rfl) ?_
          refine k_get (D := (dC, dI)) (ci := 2) (v := .int j21_F0_4) (C := RX2) (T := TX2) (N := 11) hx hb hts hinX2 hown hK hP 0 rfl rfl 4 (by decide) w_1 rfl rfl dX2_step_37 ?_
          refine va_iald hx hb hK hP 1 0 rfl rfl (iR_vp f_32_1 (by decide +kernel)) dX2_step_40 ?_
          have f_40_3 : iR (f0_0 j21_F0_4.toNatClampNeg) 0 255 := hf0_0 _
          refine lv_bipush (v := 32) hx hb dX2_step_41 (by decide +kernel) ?_
          have J_60 : ∀  (k60_0 : iR (f0_0 j21_F0_4.toNatClampNeg) 10 32) (H : Heap) (locs : List Loc) (ls : Array Slot), va_P (dC, dI) vwCl [(a0, .inr (2, [.ref a0_0, .ref a0_1, .ref b0_2, .int v0_3, .int j21_F0_4, .int v0_5, .int v0_6, .int v0_7, .int 6, .int v0_9, .int v0_10])), (a0_0, .inl (cI, 1600, .inl f0_0)), (a0_1, .inl (cJ, 25, .inr (.inl g0_1)))] H → va_D A [(a0, .inr (2, [.ref a0_0, .ref a0_1, .ref b0_2, .int v0_3, .int j21_F0_4, .int v0_5, .int v0_6, .int v0_7, .int 6, .int v0_9, .int v0_10])), (a0_0, .inl (cI, 1600, .inl f0_0)), (a0_1, .inl (cJ, 25, .inr (.inl g0_1)))] → va_S A s.heap H locs → lv_has ls 3 [(0, .ref a0), (1, .int v0_4), (2, .int r_17)] → W p l e ({ frames := 3, cells := 0, slots := 0, locals := 89 }) s m args below meth c H locs 0 0 (MQ below (va_Qv (fun (u9 : SU) => (iR (u9.1 0) 0 1600) ∧ (iR (u9.1 1) 0 1600) ∧ (iR (u9.1 2) 0 324) ∧ (iR (u9.1 4) 0 6) ∧ ((0 : Int32) < v0_9 → (0 : Int32) < (u9.1 4)) ∧ (((u9.1 4) = 0) ∨ (((u9.1 2) = 259)))) (fun u => k_B (dC, dI) vwCl (tyy cI cJ cZ cM) A ((fun (u9 : SU) => [(a0, .inr (2, [.ref a0_0, .ref a0_1, .ref b0_2, .int v0_3, .int (u9.1 0), .int (u9.1 1), .int (u9.1 2), .int (u9.1 3), .int 6, .int (u9.1 4), .int (u9.1 5)])), (a0_0, .inl (cI, 1600, .inl f0_0)), (a0_1, .inl (cJ, 25, .inr (.inl g0_1)))]) u)) A) args s 0 0 A) (F0 m 60 ls []) := by
            intro  k60_0 H locs ls hP hD hS hl
            refine lv_aload_n hx hb dX2_step_60 rfl (lv_at hl 0 rfl) ?_
            refine lv_dup hx hb dX2_step_61 rfl ?_
            refine k_get (D := (dC, dI)) (ci := 2) (v := .int j21_F0_4) (C := RX2) (T := TX2) (N := 11) hx hb hts hinX2 hown hK hP 0 rfl rfl 4 (by decide) w_1 rfl rfl dX2_step_62 ?_
            refine lv_iconst (v := 1) hx hb dX2_step_65 (by decide +kernel) ?_
            refine lv_iadd hx hb dX2_step_66 ?_
            refine lv_topi (fun y_66 ey_66 => ?_)
            have f_66_1 : iR y_66 1 1600 := iR_add ey_66 f_32_1 (iR_c (n := 1) (a := 1) (b := 1) (by decide +kernel) (by decide +kernel)) (by decide +kernel)
            refine k_put (D := (dC, dI)) (ci := 2) (v := .int y_66) (C := RX2) (T := TX2) (N := 11) (ws' := [(a0, .inr (2, [.ref a0_0, .ref a0_1, .ref b0_2, .int v0_3, .int y_66, .int v0_5, .int v0_6, .int v0_7, .int 6, .int v0_9, .int v0_10])), (a0_0, .inl (cI, 1600, .inl f0_0)), (a0_1, .inl (cJ, 25, .inr (.inl g0_1)))]) hx hb hts hinX2 tyX2 tyX2_ok nmX2 hown hK hP hD hS 0 rfl rfl 4 (by decide) w_1 rfl rfl rfl rfl (Nat.le_of_ble_eq_true rfl) rfl dX2_step_67 (fun H locs hP hD hS => ?_)
            refine lv_goto (tgt := 21) hx hb dX2_step_70 (by decide) ?_
            exact ih_21 y_66 (iR_w f_66_1 (by decide +kernel)) (m_up (B := 1600) hm_21 ey_66 f_32_1 (by decide +kernel)) H locs ls hP hD hS (lv_sub hl [0, 1, 2] rfl)
          refine lv_icmp_eq (tgt := 60) hx hb dX2_step_43 (by decide) (fun c_43 => ?_) (fun c_43 => ?_)
          · have c_43 : (f0_0 j21_F0_4.toNatClampNeg) = 32 := c_43
            have f_60_4 : iR (f0_0 j21_F0_4.toNatClampNeg) 32 32 := iR_eqL c_43 f_40_3 (iR_c (n := 32) (a := 32) (b := 32) (by decide +kernel) (by decide +kernel)) (by decide +kernel)
            exact J_60  (iR_w f_60_4 (by decide +kernel)) H locs ls hP hD hS (lv_sub hl [0, 1, 2] rfl)
          · have c_43 : ¬ (f0_0 j21_F0_4.toNatClampNeg) = 32 := c_43
            refine lv_aload_n hx hb dX2_step_46 rfl (lv_at hl 0 rfl) ?_
            refine k_get (D := (dC, dI)) (ci := 2) (v := .ref a0_0) (C := RX2) (T := TX2) (N := 11) hx hb hts hinX2 hown hK hP 0 rfl rfl 0 (by decide) w_5 rfl rfl dX2_step_47 ?_
            refine lv_aload_n hx hb dX2_step_50 rfl (lv_at hl 0 rfl) ?_
            refine k_get (D := (dC, dI)) (ci := 2) (v := .int j21_F0_4) (C := RX2) (T := TX2) (N := 11) hx hb hts hinX2 hown hK hP 0 rfl rfl 4 (by decide) w_1 rfl rfl dX2_step_51 ?_
            refine va_iald hx hb hK hP 1 0 rfl rfl (iR_vp f_32_1 (by decide +kernel)) dX2_step_54 ?_
            refine lv_bipush (v := 10) hx hb dX2_step_55 (by decide +kernel) ?_
            refine lv_icmp_ne (tgt := 73) hx hb dX2_step_57 (by decide) (fun c_57 => ?_) (fun c_57 => ?_)
            · have c_57 : ¬ (f0_0 j21_F0_4.toNatClampNeg) = 10 := c_57
              exact J_73   H locs ls hP hD hS (lv_sub hl [0, 1, 2] rfl)
            · have c_57 : (f0_0 j21_F0_4.toNatClampNeg) = 10 := c_57
              have f_60_4 : iR (f0_0 j21_F0_4.toNatClampNeg) 10 10 := iR_eqL c_57 f_40_3 (iR_c (n := 10) (a := 10) (b := 10) (by decide +kernel) (by decide +kernel)) (by decide +kernel)
              exact J_60  (iR_w f_60_4 (by decide +kernel)) H locs ls hP hD hS (lv_sub hl [0, 1, 2] rfl)
    refine lv_istore_n (lv' := [(2, .int r_17), (1, .int v0_4), (0, .ref a0)]) hx hb dX2_step_20 rfl hl (by decide) rfl (fun ls hl => ?_)
    exact J_21 _ v0_4 hv0_4 (Nat.lt_succ_self _) H locs ls hP hD hS (lv_sub hl [2, 1, 0] rfl)
  · have c_4 : ¬ v0_9 = 0 := c_4
    have f_7_1 : iR v0_9 1 6 := iR_neL c_4 hv0_9 (iR_c (n := 0) (a := 0) (b := 0) (by decide +kernel) (by decide +kernel)) (by decide +kernel)
    obtain d_4_1_0 := hpg0.resolve_left c_4
    have f_7_2 : iR v0_6 259 259 := iR_eqL d_4_1_0 hv0_6 (iR_c (n := 259) (a := 259) (b := 259) (by decide +kernel) (by decide +kernel)) (by decide +kernel)
    exact k_rv B hP hD hS dX2_step_7 ((fun k9 => match k9 with | 0 => v0_4 | 1 => v0_5 | 2 => v0_6 | 3 => v0_7 | 4 => v0_9 | 5 => v0_10 | _ => 0), (fun _ => 0), (fun _ => (fun _ => 0)), (fun _ => (fun _ => 0)), (fun _ => 0)) [0, 1, 2] rfl rfl (Nat.le_of_ble_eq_true rfl) (Nat.le_of_ble_eq_true rfl) ⟨(show iR v0_4 0 1600 from hv0_4), (show iR v0_5 0 1600 from hv0_5), (show iR v0_6 0 324 from (iR_w f_7_2 (by decide +kernel))), (show iR v0_9 0 6 from (iR_w f_7_1 (by decide +kernel))), (show (0 : Int32) < v0_9 → (0 : Int32) < v0_9 from (fun h => h)), (show (v0_9 = 0) ∨ ((v0_6 = 259)) from (Or.inr d_4_1_0))⟩
set_option maxHeartbeats 8000000 in
set_option maxRecDepth 100000 in
theorem s_X2_open_v5 (l : Launch) (dC : Nat → ClassId) (dI : Nat → Nat → Nat) (cI cJ cZ cM : ClassId) (a0 : Nat) (a0_0 : Nat) (f0_0 : Nat → Int32) (a0_1 : Nat) (g0_1 : Nat → Int64) (a0_2 : Nat) (v0_3 : Int32) (v0_4 : Int32) (v0_5 : Int32) (v0_6 : Int32) (v0_7 : Int32) (v0_9 : Int32) (v0_10 : Int32) (hv0_3 : iR v0_3 0 1600) (hv0_4 : iR v0_4 0 1600) (hv0_5 : iR v0_5 0 1600) (hv0_6 : iR v0_6 0 324) (hv0_9 : iR v0_9 0 6) (hf0_0 : aR f0_0 0 255) (hpg0 : (v0_9 = 0) ∨ ((v0_6 = 259))) : k_Mv l yX2_open wsX2_open ({ frames := 4, cells := 0, slots := 0, locals := 111 }) (dC, dI) vwCl (tyy cI cJ cZ cM) [(a0, .inr (2, [.ref a0_0, .ref a0_1, .ref a0_2, .int v0_3, .int v0_4, .int v0_5, .int v0_6, .int v0_7, .int 5, .int v0_9, .int v0_10])), (a0_0, .inl (cI, 1600, .inl f0_0)), (a0_1, .inl (cJ, 25, .inr (.inl g0_1)))] [.ref a0] 0 0 (fun (u9 : SU) => [(a0, .inr (2, [.ref a0_0, .ref a0_1, .ref a0_2, .int v0_3, .int (u9.1 0), .int (u9.1 1), .int (u9.1 2), .int (u9.1 3), .int 6, .int (u9.1 4), .int (u9.1 5)])), (a0_0, .inl (cI, 1600, .inl f0_0)), (a0_1, .inl (cJ, 25, .inr (.inl g0_1)))]) (fun (u9 : SU) => (iR (u9.1 0) 0 1600) ∧ (iR (u9.1 1) 0 1600) ∧ (iR (u9.1 2) 0 324) ∧ (iR (u9.1 4) 0 6) ∧ ((0 : Int32) < v0_9 → (0 : Int32) < (u9.1 4)) ∧ (((u9.1 4) = 0) ∨ (((u9.1 2) = 259)))) := by
  refine fun sz => k_enter (cc := cX2_open) (maxL := 1) (ret := none) (Qc := fun A => va_Qv (fun (u9 : SU) => (iR (u9.1 0) 0 1600) ∧ (iR (u9.1 1) 0 1600) ∧ (iR (u9.1 2) 0 324) ∧ (iR (u9.1 4) 0 6) ∧ ((0 : Int32) < v0_9 → (0 : Int32) < (u9.1 4)) ∧ (((u9.1 4) = 0) ∨ (((u9.1 2) = 259)))) (fun u => k_B (dC, dI) vwCl (tyy cI cJ cZ cM) A ((fun (u9 : SU) => [(a0, .inr (2, [.ref a0_0, .ref a0_1, .ref a0_2, .int v0_3, .int (u9.1 0), .int (u9.1 1), .int (u9.1 2), .int (u9.1 3), .int 6, .int (u9.1 4), .int (u9.1 5)])), (a0_0, .inl (cI, 1600, .inl f0_0)), (a0_1, .inl (cJ, 25, .inr (.inl g0_1)))]) u)) A) sz (by decide +kernel) rfl (Nat.le_of_ble_eq_true rfl) (fun p e s m args below meth c A ls H locs B hP hD hS hl => ?_)
  obtain ⟨hx, hb, hml, hown, hts, hr, hlk, hnm, hK, hA, hN, hC⟩ := id B
  have hown : s.vm.findClass RX2 = some m.cls := hown
  have hl : lv_has ls 1 [(0, .ref a0)] := hl
  have w_0 : (Cond.fieldLink RX2 60 "WishSea$Reader" "opened" "I").before args s = true := hts _ (List.mem_of_getElem? (i := 1) rfl)
  have hinX2 : ∀ w ∈ u_ws RX2 TX2 11, w ∈ wsX2_open := fun _ h => List.mem_cons_of_mem _ (List.mem_append_right _ h)
  refine lv_aload_n hx hb dX2_open_0 rfl (lv_at hl 0 rfl) ?_
  refine k_get (D := (dC, dI)) (ci := 2) (v := .int 5) (C := RX2) (T := TX2) (N := 11) hx hb hts hinX2 hown hK hP 0 rfl rfl 8 (by decide) w_0 rfl rfl dX2_open_1 ?_
  refine lv_bipush (v := 7) hx hb dX2_open_4 (by decide +kernel) ?_
  have J_18 : ∀   (H : Heap) (locs : List Loc) (ls : Array Slot), va_P (dC, dI) vwCl [(a0, .inr (2, [.ref a0_0, .ref a0_1, .ref a0_2, .int v0_3, .int v0_4, .int v0_5, .int v0_6, .int v0_7, .int 5, .int v0_9, .int v0_10])), (a0_0, .inl (cI, 1600, .inl f0_0)), (a0_1, .inl (cJ, 25, .inr (.inl g0_1)))] H → va_D A [(a0, .inr (2, [.ref a0_0, .ref a0_1, .ref a0_2, .int v0_3, .int v0_4, .int v0_5, .int v0_6, .int v0_7, .int 5, .int v0_9, .int v0_10])), (a0_0, .inl (cI, 1600, .inl f0_0)), (a0_1, .inl (cJ, 25, .inr (.inl g0_1)))] → va_S A s.heap H locs → lv_has ls 1 [(0, .ref a0)] → W p l e ({ frames := 4, cells := 0, slots := 0, locals := 111 }) s m args below meth c H locs 0 0 (MQ below (va_Qv (fun (u9 : SU) => (iR (u9.1 0) 0 1600) ∧ (iR (u9.1 1) 0 1600) ∧ (iR (u9.1 2) 0 324) ∧ (iR (u9.1 4) 0 6) ∧ ((0 : Int32) < v0_9 → (0 : Int32) < (u9.1 4)) ∧ (((u9.1 4) = 0) ∨ (((u9.1 2) = 259)))) (fun u => k_B (dC, dI) vwCl (tyy cI cJ cZ cM) A ((fun (u9 : SU) => [(a0, .inr (2, [.ref a0_0, .ref a0_1, .ref a0_2, .int v0_3, .int (u9.1 0), .int (u9.1 1), .int (u9.1 2), .int (u9.1 3), .int 6, .int (u9.1 4), .int (u9.1 5)])), (a0_0, .inl (cI, 1600, .inl f0_0)), (a0_1, .inl (cJ, 25, .inr (.inl g0_1)))]) u)) A) args s 0 0 A) (F0 m 18 ls []) := by
    intro   H locs ls hP hD hS hl
    refine lv_aload_n hx hb dX2_open_18 rfl (lv_at hl 0 rfl) ?_
    refine lv_dup hx hb dX2_open_19 rfl ?_
    refine k_get (D := (dC, dI)) (ci := 2) (v := .int 5) (C := RX2) (T := TX2) (N := 11) hx hb hts hinX2 hown hK hP 0 rfl rfl 8 (by decide) w_0 rfl rfl dX2_open_20 ?_
    refine lv_iconst (v := 1) hx hb dX2_open_23 (by decide +kernel) ?_
    refine lv_iadd hx hb dX2_open_24 ?_
    refine k_int (v := 6) (by decide +kernel) ?_
    refine k_put (D := (dC, dI)) (ci := 2) (v := .int 6) (C := RX2) (T := TX2) (N := 11) (ws' := [(a0, .inr (2, [.ref a0_0, .ref a0_1, .ref a0_2, .int v0_3, .int v0_4, .int v0_5, .int v0_6, .int v0_7, .int 6, .int v0_9, .int v0_10])), (a0_0, .inl (cI, 1600, .inl f0_0)), (a0_1, .inl (cJ, 25, .inr (.inl g0_1)))]) hx hb hts hinX2 tyX2 tyX2_ok nmX2 hown hK hP hD hS 0 rfl rfl 8 (by decide) w_0 rfl rfl rfl rfl (Nat.le_of_ble_eq_true rfl) rfl dX2_open_25 (fun H locs hP hD hS => ?_)
    refine lv_aload_n hx hb dX2_open_28 rfl (lv_at hl 0 rfl) ?_
    refine k_cv (wc := [(a0, .inr (2, [.ref a0_0, .ref a0_1, .ref a0_2, .int v0_3, .int v0_4, .int v0_5, .int v0_6, .int v0_7, .int 6, .int v0_9, .int v0_10])), (a0_0, .inl (cI, 1600, .inl f0_0)), (a0_1, .inl (cJ, 25, .inr (.inl g0_1)))]) (wr := []) (fun hPc hDc hFc => va_runV (As := []) (rest := []) ⟨hx, hb, hml, hown, hts⟩ (s_X2_step_v13 l dC dI cI cJ cZ cM a0 a0_0 f0_0 a0_1 g0_1 a0_2 v0_3 v0_4 v0_5 v0_6 v0_7 v0_9 v0_10 hv0_3 hv0_4 hv0_5 hv0_6 hv0_9 hf0_0 hpg0 H.size) (cwV 0 hts gX2_open_X2_step rfl rfl rfl (by decide +kernel) ⟨(Nat.le_of_ble_eq_true rfl), (Nat.le_of_ble_eq_true rfl)⟩) (k_pV hPc hDc hK hN hC hS hFc hP (q0 := 0) (ci := 2) rfl rfl) rfl rfl hl.1 rfl (lv_room (Nat.le_of_ble_eq_true rfl)) dX2_open_29 ⟨(Nat.le_of_ble_eq_true rfl), (Nat.le_of_ble_eq_true rfl)⟩) hP hD hS hA [0, 1, 2] [] rfl rfl rfl rfl (by decide) (fun _ => rfl) 0 0 rfl rfl (fun u_29 H locs hw hP hD hS => ?_)
    obtain ⟨g_29_0, g_29_1, g_29_2, g_29_3, g_29_4, g_29_5⟩ := hw
    have hP : va_P (dC, dI) vwCl [(a0, .inr (2, [.ref a0_0, .ref a0_1, .ref a0_2, .int v0_3, .int (u_29.1 0), .int (u_29.1 1), .int (u_29.1 2), .int (u_29.1 3), .int 6, .int (u_29.1 4), .int (u_29.1 5)])), (a0_0, .inl (cI, 1600, .inl f0_0)), (a0_1, .inl (cJ, 25, .inr (.inl g0_1)))] H := hP
    have hD : va_D A [(a0, .inr (2, [.ref a0_0, .ref a0_1, .ref a0_2, .int v0_3, .int (u_29.1 0), .int (u_29.1 1), .int (u_29.1 2), .int (u_29.1 3), .int 6, .int (u_29.1 4), .int (u_29.1 5)])), (a0_0, .inl (cI, 1600, .inl f0_0)), (a0_1, .inl (cJ, 25, .inr (.inl g0_1)))] := hD
    have g_29_4 : (0 : Int32) < v0_9 → (0 : Int32) < (u_29.1 4) := g_29_4
    have g_29_5 : ((u_29.1 4) = 0) ∨ (((u_29.1 2) = 259)) := g_29_5
    exact k_rv B hP hD hS dX2_open_32 ((fun k9 => match k9 with | 0 => (u_29.1 0) | 1 => (u_29.1 1) | 2 => (u_29.1 2) | 3 => (u_29.1 3) | 4 => (u_29.1 4) | 5 => (u_29.1 5) | _ => 0), (fun _ => 0), (fun _ => (fun _ => 0)), (fun _ => (fun _ => 0)), (fun _ => 0)) [0, 1, 2] rfl rfl (Nat.le_of_ble_eq_true rfl) (Nat.le_of_ble_eq_true rfl) ⟨(show iR (u_29.1 0) 0 1600 from g_29_0), (show iR (u_29.1 1) 0 1600 from g_29_1), (show iR (u_29.1 2) 0 324 from g_29_2), (show iR (u_29.1 4) 0 6 from g_29_3), (show (0 : Int32) < v0_9 → (0 : Int32) < (u_29.1 4) from (fun h => g_29_4 ((fun h => h) h))), (show ((u_29.1 4) = 0) ∨ (((u_29.1 2) = 259)) from g_29_5)⟩
  refine lv_icmp_lt (tgt := 18) hx hb dX2_open_6 (by decide) (fun _ => ?_) (fun q9 => absurd q9 (by decide +kernel))
  exact J_18   H locs ls hP hD hS (lv_sub hl [0] rfl)
set_option maxHeartbeats 8000000 in
set_option maxRecDepth 100000 in
theorem s_X2_blame_v21 (l : Launch) (dC : Nat → ClassId) (dI : Nat → Nat → Nat) (cI cJ cZ cM : ClassId) (a0 : Nat) (x1 : Int32) (x2 : Int32) (a0_0 : Nat) (a0_1 : Nat) (a0_2 : Nat) (v0_3 : Int32) (v0_4 : Int32) (v0_5 : Int32) (v0_6 : Int32) (v0_7 : Int32) (v0_9 : Int32) (v0_10 : Int32) (hx1 : iR x1 1 6) (hv0_3 : iR v0_3 0 1600) (hv0_4 : iR v0_4 0 1600) (hv0_5 : iR v0_5 0 1600) (hv0_6 : iR v0_6 0 324) (hv0_9 : iR v0_9 0 6) (hpg0 : (v0_9 = 0) ∨ ((v0_6 = 259))) : k_Mv l yX2_blame wsX2_blame ({ frames := 1, cells := 0, slots := 0, locals := 40 }) (dC, dI) vwCl (tyy cI cJ cZ cM) [(a0, .inr (2, [.ref a0_0, .ref a0_1, .ref a0_2, .int v0_3, .int v0_4, .int v0_5, .int v0_6, .int v0_7, .int 7, .int v0_9, .int v0_10]))] [.ref a0, .int x1, .int x2] 0 0 (fun (u9 : SU) => [(a0, .inr (2, [.ref a0_0, .ref a0_1, .ref a0_2, .int v0_3, .int v0_4, .int v0_5, .int (u9.1 0), .int v0_7, .int 7, .int (u9.1 1), .int (u9.1 2)]))]) (fun (u9 : SU) => (iR (u9.1 0) 259 259) ∧ (iR (u9.1 1) 1 6) ∧ ((0 : Int32) < v0_9 → (0 : Int32) < (u9.1 1)) ∧ (((u9.1 1) = 0) ∨ (((u9.1 0) = 259)))) := by
  refine fun sz => k_enter (cc := cX2_blame) (maxL := 3) (ret := none) (Qc := fun A => va_Qv (fun (u9 : SU) => (iR (u9.1 0) 259 259) ∧ (iR (u9.1 1) 1 6) ∧ ((0 : Int32) < v0_9 → (0 : Int32) < (u9.1 1)) ∧ (((u9.1 1) = 0) ∨ (((u9.1 0) = 259)))) (fun u => k_B (dC, dI) vwCl (tyy cI cJ cZ cM) A ((fun (u9 : SU) => [(a0, .inr (2, [.ref a0_0, .ref a0_1, .ref a0_2, .int v0_3, .int v0_4, .int v0_5, .int (u9.1 0), .int v0_7, .int 7, .int (u9.1 1), .int (u9.1 2)]))]) u)) A) sz (by decide +kernel) rfl (Nat.le_of_ble_eq_true rfl) (fun p e s m args below meth c A ls H locs B hP hD hS hl => ?_)
  obtain ⟨hx, hb, hml, hown, hts, hr, hlk, hnm, hK, hA, hN, hC⟩ := id B
  have hown : s.vm.findClass RX2 = some m.cls := hown
  have hl : lv_has ls 3 [(0, .ref a0), (1, .int x1), (2, .int x2)] := hl
  have w_0 : (Cond.fieldLink RX2 63 "WishSea$Reader" "fault" "I").before args s = true := hts _ (List.mem_of_getElem? (i := 1) rfl)
  have w_1 : (Cond.fieldLink RX2 19 "WishSea$Reader" "place" "I").before args s = true := hts _ (List.mem_of_getElem? (i := 2) rfl)
  have w_2 : (Cond.fieldLink RX2 15 "WishSea$Reader" "token" "I").before args s = true := hts _ (List.mem_of_getElem? (i := 3) rfl)
  have hinX2 : ∀ w ∈ u_ws RX2 TX2 11, w ∈ wsX2_blame := fun _ h => List.mem_cons_of_mem _ (List.mem_append_right _ h)
  refine lv_aload_n hx hb dX2_blame_0 rfl (lv_at hl 0 rfl) ?_
  refine k_get (D := (dC, dI)) (ci := 2) (v := .int v0_9) (C := RX2) (T := TX2) (N := 11) hx hb hts hinX2 hown hK hP 0 rfl rfl 9 (by decide) w_0 rfl rfl dX2_blame_1 ?_
  refine lv_if_ne (tgt := 24) hx hb dX2_blame_4 (by decide) (fun c_4 => ?_) (fun c_4 => ?_)
  · have c_4 : ¬ v0_9 = 0 := c_4
    have f_24_1 : iR v0_9 1 6 := iR_neL c_4 hv0_9 (iR_c (n := 0) (a := 0) (b := 0) (by decide +kernel) (by decide +kernel)) (by decide +kernel)
    obtain d_4_1_0 := hpg0.resolve_left c_4
    have f_24_2 : iR v0_6 259 259 := iR_eqL d_4_1_0 hv0_6 (iR_c (n := 259) (a := 259) (b := 259) (by decide +kernel) (by decide +kernel)) (by decide +kernel)
    exact k_rv B hP hD hS dX2_blame_24 ((fun k9 => match k9 with | 0 => v0_6 | 1 => v0_9 | 2 => v0_10 | _ => 0), (fun _ => 0), (fun _ => (fun _ => 0)), (fun _ => (fun _ => 0)), (fun _ => 0)) [0] rfl rfl (Nat.le_of_ble_eq_true rfl) (Nat.le_of_ble_eq_true rfl) ⟨(show iR v0_6 259 259 from f_24_2), (show iR v0_9 1 6 from f_24_1), (show (0 : Int32) < v0_9 → (0 : Int32) < v0_9 from (fun h => h)), (show (v0_9 = 0) ∨ ((v0_6 = 259)) from (Or.inr d_4_1_0))⟩
  · have c_4 : v0_9 = 0 := c_4
    have f_7_1 : iR v0_9 0 0 := iR_eqL c_4 hv0_9 (iR_c (n := 0) (a := 0) (b := 0) (by decide +kernel) (by decide +kernel)) (by decide +kernel)
    refine lv_aload_n hx hb dX2_blame_7 rfl (lv_at hl 0 rfl) ?_
    refine lv_iload_n hx hb dX2_blame_8 rfl (lv_at hl 1 rfl) ?_
    refine k_put (D := (dC, dI)) (ci := 2) (v := .int x1) (C := RX2) (T := TX2) (N := 11) (ws' := [(a0, .inr (2, [.ref a0_0, .ref a0_1, .ref a0_2, .int v0_3, .int v0_4, .int v0_5, .int v0_6, .int v0_7, .int 7, .int x1, .int v0_10]))]) hx hb hts hinX2 tyX2 tyX2_ok nmX2 hown hK hP hD hS 0 rfl rfl 9 (by decide) w_0 rfl rfl rfl rfl (Nat.le_of_ble_eq_true rfl) rfl dX2_blame_9 (fun H locs hP hD hS => ?_)
    refine lv_aload_n hx hb dX2_blame_12 rfl (lv_at hl 0 rfl) ?_
    refine lv_iload_n hx hb dX2_blame_13 rfl (lv_at hl 2 rfl) ?_
    refine k_put (D := (dC, dI)) (ci := 2) (v := .int x2) (C := RX2) (T := TX2) (N := 11) (ws' := [(a0, .inr (2, [.ref a0_0, .ref a0_1, .ref a0_2, .int v0_3, .int v0_4, .int v0_5, .int v0_6, .int v0_7, .int 7, .int x1, .int x2]))]) hx hb hts hinX2 tyX2 tyX2_ok nmX2 hown hK hP hD hS 0 rfl rfl 10 (by decide) w_1 rfl rfl rfl rfl (Nat.le_of_ble_eq_true rfl) rfl dX2_blame_14 (fun H locs hP hD hS => ?_)
    refine lv_aload_n hx hb dX2_blame_17 rfl (lv_at hl 0 rfl) ?_
    refine lv_sipush (v := 259) hx hb dX2_blame_18 (by decide +kernel) ?_
    refine k_put (D := (dC, dI)) (ci := 2) (v := .int 259) (C := RX2) (T := TX2) (N := 11) (ws' := [(a0, .inr (2, [.ref a0_0, .ref a0_1, .ref a0_2, .int v0_3, .int v0_4, .int v0_5, .int 259, .int v0_7, .int 7, .int x1, .int x2]))]) hx hb hts hinX2 tyX2 tyX2_ok nmX2 hown hK hP hD hS 0 rfl rfl 6 (by decide) w_2 rfl rfl rfl rfl (Nat.le_of_ble_eq_true rfl) rfl dX2_blame_21 (fun H locs hP hD hS => ?_)
    exact k_rv B hP hD hS dX2_blame_24 ((fun k9 => match k9 with | 0 => 259 | 1 => x1 | 2 => x2 | _ => 0), (fun _ => 0), (fun _ => (fun _ => 0)), (fun _ => (fun _ => 0)), (fun _ => 0)) [0] rfl rfl (Nat.le_of_ble_eq_true rfl) (Nat.le_of_ble_eq_true rfl) ⟨(show iR 259 259 259 from (iR_c (n := 259) (a := 259) (b := 259) (by decide +kernel) (by decide +kernel))), (show iR x1 1 6 from hx1), (show (0 : Int32) < v0_9 → (0 : Int32) < x1 from (fun _ => (i_ltf (iR_c (n := 0) (a := 0) (b := 0) (by decide +kernel) (by decide +kernel)) hx1 (by decide +kernel)))), (show (x1 = 0) ∨ ((259 = 259)) from (Or.inr rfl))⟩
set_option maxHeartbeats 8000000 in
set_option maxRecDepth 100000 in
theorem s_X2_blame_v22 (l : Launch) (dC : Nat → ClassId) (dI : Nat → Nat → Nat) (cI cJ cZ cM : ClassId) (a0 : Nat) (x1 : Int32) (x2 : Int32) (a0_0 : Nat) (b0_1 : Nat) (b0_2 : Nat) (v0_3 : Int32) (v0_4 : Int32) (v0_5 : Int32) (v0_6 : Int32) (v0_7 : Int32) (v0_9 : Int32) (v0_10 : Int32) (hx1 : iR x1 1 6) (hv0_3 : iR v0_3 0 1600) (hv0_4 : iR v0_4 0 1600) (hv0_5 : iR v0_5 0 1600) (hv0_6 : iR v0_6 0 324) (hv0_9 : iR v0_9 0 6) (hpg0 : (v0_9 = 0) ∨ ((v0_6 = 259))) : k_Mv l yX2_blame wsX2_blame ({ frames := 1, cells := 0, slots := 0, locals := 40 }) (dC, dI) vwCl (tyy cI cJ cZ cM) [(a0, .inr (2, [.ref a0_0, .ref b0_1, .ref b0_2, .int v0_3, .int v0_4, .int v0_5, .int v0_6, .int v0_7, .int 7, .int v0_9, .int v0_10]))] [.ref a0, .int x1, .int x2] 0 0 (fun (u9 : SU) => [(a0, .inr (2, [.ref a0_0, .ref b0_1, .ref b0_2, .int v0_3, .int v0_4, .int v0_5, .int (u9.1 0), .int v0_7, .int 7, .int (u9.1 1), .int (u9.1 2)]))]) (fun (u9 : SU) => (iR (u9.1 0) 259 259) ∧ (iR (u9.1 1) 1 6) ∧ ((0 : Int32) < v0_9 → (0 : Int32) < (u9.1 1)) ∧ (((u9.1 1) = 0) ∨ (((u9.1 0) = 259)))) := by
  refine fun sz => k_enter (cc := cX2_blame) (maxL := 3) (ret := none) (Qc := fun A => va_Qv (fun (u9 : SU) => (iR (u9.1 0) 259 259) ∧ (iR (u9.1 1) 1 6) ∧ ((0 : Int32) < v0_9 → (0 : Int32) < (u9.1 1)) ∧ (((u9.1 1) = 0) ∨ (((u9.1 0) = 259)))) (fun u => k_B (dC, dI) vwCl (tyy cI cJ cZ cM) A ((fun (u9 : SU) => [(a0, .inr (2, [.ref a0_0, .ref b0_1, .ref b0_2, .int v0_3, .int v0_4, .int v0_5, .int (u9.1 0), .int v0_7, .int 7, .int (u9.1 1), .int (u9.1 2)]))]) u)) A) sz (by decide +kernel) rfl (Nat.le_of_ble_eq_true rfl) (fun p e s m args below meth c A ls H locs B hP hD hS hl => ?_)
  obtain ⟨hx, hb, hml, hown, hts, hr, hlk, hnm, hK, hA, hN, hC⟩ := id B
  have hown : s.vm.findClass RX2 = some m.cls := hown
  have hl : lv_has ls 3 [(0, .ref a0), (1, .int x1), (2, .int x2)] := hl
  have w_0 : (Cond.fieldLink RX2 63 "WishSea$Reader" "fault" "I").before args s = true := hts _ (List.mem_of_getElem? (i := 1) rfl)
  have w_1 : (Cond.fieldLink RX2 19 "WishSea$Reader" "place" "I").before args s = true := hts _ (List.mem_of_getElem? (i := 2) rfl)
  have w_2 : (Cond.fieldLink RX2 15 "WishSea$Reader" "token" "I").before args s = true := hts _ (List.mem_of_getElem? (i := 3) rfl)
  have hinX2 : ∀ w ∈ u_ws RX2 TX2 11, w ∈ wsX2_blame := fun _ h => List.mem_cons_of_mem _ (List.mem_append_right _ h)
  refine lv_aload_n hx hb dX2_blame_0 rfl (lv_at hl 0 rfl) ?_
  refine k_get (D := (dC, dI)) (ci := 2) (v := .int v0_9) (C := RX2) (T := TX2) (N := 11) hx hb hts hinX2 hown hK hP 0 rfl rfl 9 (by decide) w_0 rfl rfl dX2_blame_1 ?_
  refine lv_if_ne (tgt := 24) hx hb dX2_blame_4 (by decide) (fun c_4 => ?_) (fun c_4 => ?_)
  · have c_4 : ¬ v0_9 = 0 := c_4
    have f_24_1 : iR v0_9 1 6 := iR_neL c_4 hv0_9 (iR_c (n := 0) (a := 0) (b := 0) (by decide +kernel) (by decide +kernel)) (by decide +kernel)
    obtain d_4_1_0 := hpg0.resolve_left c_4
    have f_24_2 : iR v0_6 259 259 := iR_eqL d_4_1_0 hv0_6 (iR_c (n := 259) (a := 259) (b := 259) (by decide +kernel) (by decide +kernel)) (by decide +kernel)
    exact k_rv B hP hD hS dX2_blame_24 ((fun k9 => match k9 with | 0 => v0_6 | 1 => v0_9 | 2 => v0_10 | _ => 0), (fun _ => 0), (fun _ => (fun _ => 0)), (fun _ => (fun _ => 0)), (fun _ => 0)) [0] rfl rfl (Nat.le_of_ble_eq_true rfl) (Nat.le_of_ble_eq_true rfl) ⟨(show iR v0_6 259 259 from f_24_2), (show iR v0_9 1 6 from f_24_1), (show (0 : Int32) < v0_9 → (0 : Int32) < v0_9 from (fun h => h)), (show (v0_9 = 0) ∨ ((v0_6 = 259)) from (Or.inr d_4_1_0))⟩
  · have c_4 : v0_9 = 0 := c_4
    have f_7_1 : iR v0_9 0 0 := iR_eqL c_4 hv0_9 (iR_c (n := 0) (a := 0) (b := 0) (by decide +kernel) (by decide +kernel)) (by decide +kernel)
    refine lv_aload_n hx hb dX2_blame_7 rfl (lv_at hl 0 rfl) ?_
    refine lv_iload_n hx hb dX2_blame_8 rfl (lv_at hl 1 rfl) ?_
    refine k_put (D := (dC, dI)) (ci := 2) (v := .int x1) (C := RX2) (T := TX2) (N := 11) (ws' := [(a0, .inr (2, [.ref a0_0, .ref b0_1, .ref b0_2, .int v0_3, .int v0_4, .int v0_5, .int v0_6, .int v0_7, .int 7, .int x1, .int v0_10]))]) hx hb hts hinX2 tyX2 tyX2_ok nmX2 hown hK hP hD hS 0 rfl rfl 9 (by decide) w_0 rfl rfl rfl rfl (Nat.le_of_ble_eq_true rfl) rfl dX2_blame_9 (fun H locs hP hD hS => ?_)
    refine lv_aload_n hx hb dX2_blame_12 rfl (lv_at hl 0 rfl) ?_
    refine lv_iload_n hx hb dX2_blame_13 rfl (lv_at hl 2 rfl) ?_
    refine k_put (D := (dC, dI)) (ci := 2) (v := .int x2) (C := RX2) (T := TX2) (N := 11) (ws' := [(a0, .inr (2, [.ref a0_0, .ref b0_1, .ref b0_2, .int v0_3, .int v0_4, .int v0_5, .int v0_6, .int v0_7, .int 7, .int x1, .int x2]))]) hx hb hts hinX2 tyX2 tyX2_ok nmX2 hown hK hP hD hS 0 rfl rfl 10 (by decide) w_1 rfl rfl rfl rfl (Nat.le_of_ble_eq_true rfl) rfl dX2_blame_14 (fun H locs hP hD hS => ?_)
    refine lv_aload_n hx hb dX2_blame_17 rfl (lv_at hl 0 rfl) ?_
    refine lv_sipush (v := 259) hx hb dX2_blame_18 (by decide +kernel) ?_
    refine k_put (D := (dC, dI)) (ci := 2) (v := .int 259) (C := RX2) (T := TX2) (N := 11) (ws' := [(a0, .inr (2, [.ref a0_0, .ref b0_1, .ref b0_2, .int v0_3, .int v0_4, .int v0_5, .int 259, .int v0_7, .int 7, .int x1, .int x2]))]) hx hb hts hinX2 tyX2 tyX2_ok nmX2 hown hK hP hD hS 0 rfl rfl 6 (by decide) w_2 rfl rfl rfl rfl (Nat.le_of_ble_eq_true rfl) rfl dX2_blame_21 (fun H locs hP hD hS => ?_)
    exact k_rv B hP hD hS dX2_blame_24 ((fun k9 => match k9 with | 0 => 259 | 1 => x1 | 2 => x2 | _ => 0), (fun _ => 0), (fun _ => (fun _ => 0)), (fun _ => (fun _ => 0)), (fun _ => 0)) [0] rfl rfl (Nat.le_of_ble_eq_true rfl) (Nat.le_of_ble_eq_true rfl) ⟨(show iR 259 259 259 from (iR_c (n := 259) (a := 259) (b := 259) (by decide +kernel) (by decide +kernel))), (show iR x1 1 6 from hx1), (show (0 : Int32) < v0_9 → (0 : Int32) < x1 from (fun _ => (i_ltf (iR_c (n := 0) (a := 0) (b := 0) (by decide +kernel) (by decide +kernel)) hx1 (by decide +kernel)))), (show (x1 = 0) ∨ ((259 = 259)) from (Or.inr rfl))⟩
set_option maxHeartbeats 8000000 in
set_option maxRecDepth 100000 in
theorem s_X2_ownIndex_v15 (l : Launch) (dC : Nat → ClassId) (dI : Nat → Nat → Nat) (cI cJ cZ cM : ClassId) (a0 : Nat) (x1 : Int64) (a0_0 : Nat) (a0_1 : Nat) (g0_1 : Nat → Int64) (b0_2 : Nat) (v0_3 : Int32) (v0_4 : Int32) (v0_5 : Int32) (v0_6 : Int32) (v0_7 : Int32) (v0_9 : Int32) (v0_10 : Int32) (hv0_3 : iR v0_3 0 1600) (hv0_4 : iR v0_4 0 1600) (hv0_5 : iR v0_5 0 1600) (hv0_6 : iR v0_6 0 324) (hv0_9 : iR v0_9 0 6) : k_Mi l yX2_ownIndex wsX2_ownIndex ({ frames := 1, cells := 0, slots := 0, locals := 40 }) (dC, dI) vwCl (tyy cI cJ cZ cM) [(a0, .inr (2, [.ref a0_0, .ref a0_1, .ref b0_2, .int v0_3, .int v0_4, .int v0_5, .int v0_6, .int v0_7, .int 7, .int v0_9, .int v0_10])), (a0_1, .inl (cJ, 25, .inr (.inl g0_1)))] [.ref a0, .long x1] 0 0 (fun (u9 : Unit) => [(a0, .inr (2, [.ref a0_0, .ref a0_1, .ref b0_2, .int v0_3, .int v0_4, .int v0_5, .int v0_6, .int v0_7, .int 7, .int v0_9, .int v0_10])), (a0_1, .inl (cJ, 25, .inr (.inl g0_1)))]) (fun (r9 : Int32) (u9 : Unit) => (iR r9 (-1) 24)) := by
  refine fun sz => k_enter (cc := cX2_ownIndex) (maxL := 4) (ret := some (.int)) (Qc := fun A => va_Qi (fun (r9 : Int32) (u9 : Unit) => (iR r9 (-1) 24)) (fun u => k_B (dC, dI) vwCl (tyy cI cJ cZ cM) A ((fun (u9 : Unit) => [(a0, .inr (2, [.ref a0_0, .ref a0_1, .ref b0_2, .int v0_3, .int v0_4, .int v0_5, .int v0_6, .int v0_7, .int 7, .int v0_9, .int v0_10])), (a0_1, .inl (cJ, 25, .inr (.inl g0_1)))]) u)) A) sz (by decide +kernel) rfl (Nat.le_of_ble_eq_true rfl) (fun p e s m args below meth c A ls H locs B hP hD hS hl => ?_)
  obtain ⟨hx, hb, hml, hown, hts, hr, hlk, hnm, hK, hA, hN, hC⟩ := id B
  have hown : s.vm.findClass RX2 = some m.cls := hown
  have hl : lv_has ls 4 [(0, .ref a0), (1, .long x1)] := hl
  have w_0 : (Cond.fieldLink RX2 9 "WishSea$Reader" "ownKeys" "[J").before args s = true := hts _ (List.mem_of_getElem? (i := 1) rfl)
  have hinX2 : ∀ w ∈ u_ws RX2 TX2 11, w ∈ wsX2_ownIndex := fun _ h => List.mem_cons_of_mem _ (List.mem_append_right _ h)
  refine lv_iconst (v := 0) hx hb dX2_ownIndex_0 (by decide +kernel) ?_
  have J_2 : ∀ (n_2 : Nat) (j2_L3 : Int32) (hj2_L3 : iR j2_L3 0 26) (hm_2 : (26 - j2_L3.toInt).toNat < n_2) (H : Heap) (locs : List Loc) (ls : Array Slot), va_P (dC, dI) vwCl [(a0, .inr (2, [.ref a0_0, .ref a0_1, .ref b0_2, .int v0_3, .int v0_4, .int v0_5, .int v0_6, .int v0_7, .int 7, .int v0_9, .int v0_10])), (a0_1, .inl (cJ, 25, .inr (.inl g0_1)))] H → va_D A [(a0, .inr (2, [.ref a0_0, .ref a0_1, .ref b0_2, .int v0_3, .int v0_4, .int v0_5, .int v0_6, .int v0_7, .int 7, .int v0_9, .int v0_10])), (a0_1, .inl (cJ, 25, .inr (.inl g0_1)))] → va_S A s.heap H locs → lv_has ls 4 [(0, .ref a0), (1, .long x1), (3, .int j2_L3)] → W p l e ({ frames := 1, cells := 0, slots := 0, locals := 40 }) s m args below meth c H locs 0 0 (MQ below (va_Qi (fun (r9 : Int32) (u9 : Unit) => (iR r9 (-1) 24)) (fun u => k_B (dC, dI) vwCl (tyy cI cJ cZ cM) A ((fun (u9 : Unit) => [(a0, .inr (2, [.ref a0_0, .ref a0_1, .ref b0_2, .int v0_3, .int v0_4, .int v0_5, .int v0_6, .int v0_7, .int 7, .int v0_9, .int v0_10])), (a0_1, .inl (cJ, 25, .inr (.inl g0_1)))]) u)) A) args s 0 0 A) (F0 m 2 ls []) := by
    intro n_2
    induction n_2 with
    | zero => intro j2_L3 hj2_L3 hm_2; exact absurd hm_2 (Nat.not_lt_zero _)
    | succ n_2 ih_2 =>
      intro j2_L3 hj2_L3 hm_2 H locs ls hP hD hS hl
      refine lv_iload_n hx hb dX2_ownIndex_2 rfl (lv_at hl 2 rfl) ?_
      refine lv_aload_n hx hb dX2_ownIndex_3 rfl (lv_at hl 0 rfl) ?_
      refine k_get (D := (dC, dI)) (ci := 2) (v := .ref a0_1) (C := RX2) (T := TX2) (N := 11) hx hb hts hinX2 hown hK hP 0 rfl rfl 1 (by decide) w_0 rfl rfl dX2_ownIndex_4 ?_
      refine va_alen (v := 25) hx hb hK hP 1 1 rfl rfl rfl dX2_ownIndex_7 ?_
      refine lv_icmp_ge (tgt := 30) hx hb dX2_ownIndex_8 (by decide) (fun c_8 => ?_) (fun c_8 => ?_)
      · have c_8 : 25 ≤ j2_L3 := c_8
        have f_30_1 : iR j2_L3 25 26 := iR_leR c_8 (iR_c (n := 25) (a := 25) (b := 25) (by decide +kernel) (by decide +kernel)) hj2_L3 (by decide +kernel)
        refine lv_iconst (v := (-1)) hx hb dX2_ownIndex_30 (by decide +kernel) ?_
        exact k_ri B hP hD hS dX2_ownIndex_31 () [0, 1] rfl rfl rfl (Nat.le_of_ble_eq_true rfl) (Nat.le_of_ble_eq_true rfl) (show iR (-1) (-1) 24 from (iR_c (n := (-1)) (a := (-1)) (b := 24) (by decide +kernel) (by decide +kernel)))
      · have c_8 : j2_L3 < 25 := i_nle c_8
        have f_11_1 : iR j2_L3 0 24 := iR_ltL c_8 hj2_L3 (iR_c (n := 25) (a := 25) (b := 25) (by decide +kernel) (by decide +kernel)) (by decide +kernel)
        refine lv_aload_n hx hb dX2_ownIndex_11 rfl (lv_at hl 0 rfl) ?_
        refine k_get (D := (dC, dI)) (ci := 2) (v := .ref a0_1) (C := RX2) (T := TX2) (N := 11) hx hb hts hinX2 hown hK hP 0 rfl rfl 1 (by decide) w_0 rfl rfl dX2_ownIndex_12 ?_
        refine lv_iload_n hx hb dX2_ownIndex_15 rfl (lv_at hl 2 rfl) ?_
        refine va_lald hx hb hK hP 1 1 rfl rfl (iR_vp f_11_1 (by decide +kernel)) dX2_ownIndex_16 ?_
        refine lv_lload_n hx hb dX2_ownIndex_17 rfl (lv_at hl 1 rfl) ?_
        refine W.lcmp hx hb dX2_ownIndex_18 ?_
        refine lv_topi (fun y_18 ey_18 => ?_)
        refine lv_if_ne (tgt := 24) hx hb dX2_ownIndex_19 (by decide) (fun c_19 => ?_) (fun c_19 => ?_)
        · have c_19 : ¬ y_18 = 0 := c_19
          have lc_19 : ¬ (g0_1 j2_L3.toNatClampNeg) = x1 := l_cmpne ey_18 c_19
          obtain ⟨y_24, ey_24⟩ : ∃ y : Int32, y = j2_L3 + 1 := ⟨_, rfl⟩
          refine lv_iinc (v := y_24) (lv' := [(3, .int y_24), (0, .ref a0), (1, .long x1)]) hx hb dX2_ownIndex_24 hl (k := 2) rfl ey_24.symm (by decide) rfl (fun ls hl => ?_)
          have f_24_2 : iR y_24 1 25 := iR_add ey_24 f_11_1 (iR_c (n := 1) (a := 1) (b := 1) (by decide +kernel) (by decide +kernel)) (by decide +kernel)
          refine lv_goto (tgt := 2) hx hb dX2_ownIndex_27 (by decide) ?_
          exact ih_2 y_24 (iR_w f_24_2 (by decide +kernel)) (m_up (B := 26) hm_2 ey_24 f_11_1 (by decide +kernel)) H locs ls hP hD hS (lv_sub hl [1, 2, 0] rfl)
        · have c_19 : y_18 = 0 := c_19
          have f_22_2 : iR y_18 0 0 := iR_eqL c_19 (iR_top _) (iR_c (n := 0) (a := 0) (b := 0) (by decide +kernel) (by decide +kernel)) (by decide +kernel)
          have lc_19 : (g0_1 j2_L3.toNatClampNeg) = x1 := l_cmpe ey_18 c_19
          refine lv_iload_n hx hb dX2_ownIndex_22 rfl (lv_at hl 2 rfl) ?_
          exact k_ri B hP hD hS dX2_ownIndex_23 () [0, 1] rfl rfl rfl (Nat.le_of_ble_eq_true rfl) (Nat.le_of_ble_eq_true rfl) (show iR j2_L3 (-1) 24 from (iR_w f_11_1 (by decide +kernel)))
  refine lv_istore_n (lv' := [(3, .int 0), (0, .ref a0), (1, .long x1)]) hx hb dX2_ownIndex_1 rfl hl (by decide) rfl (fun ls hl => ?_)
  exact J_2 _ 0 (iR_c (n := 0) (a := 0) (b := 26) (by decide +kernel) (by decide +kernel)) (Nat.lt_succ_self _) H locs ls hP hD hS (lv_sub hl [1, 2, 0] rfl)
set_option maxHeartbeats 8000000 in
set_option maxRecDepth 100000 in
theorem s_X2_blame_v23 (l : Launch) (dC : Nat → ClassId) (dI : Nat → Nat → Nat) (cI cJ cZ cM : ClassId) (a0 : Nat) (x1 : Int32) (x2 : Int32) (a0_0 : Nat) (a0_1 : Nat) (b0_2 : Nat) (v0_3 : Int32) (v0_4 : Int32) (v0_5 : Int32) (v0_6 : Int32) (v0_7 : Int32) (v0_9 : Int32) (v0_10 : Int32) (hx1 : iR x1 1 6) (hv0_3 : iR v0_3 0 1600) (hv0_4 : iR v0_4 0 1600) (hv0_5 : iR v0_5 0 1600) (hv0_6 : iR v0_6 0 324) (hv0_9 : iR v0_9 0 6) (hpg0 : (v0_9 = 0) ∨ ((v0_6 = 259))) : k_Mv l yX2_blame wsX2_blame ({ frames := 1, cells := 0, slots := 0, locals := 40 }) (dC, dI) vwCl (tyy cI cJ cZ cM) [(a0, .inr (2, [.ref a0_0, .ref a0_1, .ref b0_2, .int v0_3, .int v0_4, .int v0_5, .int v0_6, .int v0_7, .int 7, .int v0_9, .int v0_10]))] [.ref a0, .int x1, .int x2] 0 0 (fun (u9 : SU) => [(a0, .inr (2, [.ref a0_0, .ref a0_1, .ref b0_2, .int v0_3, .int v0_4, .int v0_5, .int (u9.1 0), .int v0_7, .int 7, .int (u9.1 1), .int (u9.1 2)]))]) (fun (u9 : SU) => (iR (u9.1 0) 259 259) ∧ (iR (u9.1 1) 1 6) ∧ ((0 : Int32) < v0_9 → (0 : Int32) < (u9.1 1)) ∧ (((u9.1 1) = 0) ∨ (((u9.1 0) = 259)))) := by
  refine fun sz => k_enter (cc := cX2_blame) (maxL := 3) (ret := none) (Qc := fun A => va_Qv (fun (u9 : SU) => (iR (u9.1 0) 259 259) ∧ (iR (u9.1 1) 1 6) ∧ ((0 : Int32) < v0_9 → (0 : Int32) < (u9.1 1)) ∧ (((u9.1 1) = 0) ∨ (((u9.1 0) = 259)))) (fun u => k_B (dC, dI) vwCl (tyy cI cJ cZ cM) A ((fun (u9 : SU) => [(a0, .inr (2, [.ref a0_0, .ref a0_1, .ref b0_2, .int v0_3, .int v0_4, .int v0_5, .int (u9.1 0), .int v0_7, .int 7, .int (u9.1 1), .int (u9.1 2)]))]) u)) A) sz (by decide +kernel) rfl (Nat.le_of_ble_eq_true rfl) (fun p e s m args below meth c A ls H locs B hP hD hS hl => ?_)
  obtain ⟨hx, hb, hml, hown, hts, hr, hlk, hnm, hK, hA, hN, hC⟩ := id B
  have hown : s.vm.findClass RX2 = some m.cls := hown
  have hl : lv_has ls 3 [(0, .ref a0), (1, .int x1), (2, .int x2)] := hl
  have w_0 : (Cond.fieldLink RX2 63 "WishSea$Reader" "fault" "I").before args s = true := hts _ (List.mem_of_getElem? (i := 1) rfl)
  have w_1 : (Cond.fieldLink RX2 19 "WishSea$Reader" "place" "I").before args s = true := hts _ (List.mem_of_getElem? (i := 2) rfl)
  have w_2 : (Cond.fieldLink RX2 15 "WishSea$Reader" "token" "I").before args s = true := hts _ (List.mem_of_getElem? (i := 3) rfl)
  have hinX2 : ∀ w ∈ u_ws RX2 TX2 11, w ∈ wsX2_blame := fun _ h => List.mem_cons_of_mem _ (List.mem_append_right _ h)
  refine lv_aload_n hx hb dX2_blame_0 rfl (lv_at hl 0 rfl) ?_
  refine k_get (D := (dC, dI)) (ci := 2) (v := .int v0_9) (C := RX2) (T := TX2) (N := 11) hx hb hts hinX2 hown hK hP 0 rfl rfl 9 (by decide) w_0 rfl rfl dX2_blame_1 ?_
  refine lv_if_ne (tgt := 24) hx hb dX2_blame_4 (by decide) (fun c_4 => ?_) (fun c_4 => ?_)
  · have c_4 : ¬ v0_9 = 0 := c_4
    have f_24_1 : iR v0_9 1 6 := iR_neL c_4 hv0_9 (iR_c (n := 0) (a := 0) (b := 0) (by decide +kernel) (by decide +kernel)) (by decide +kernel)
    obtain d_4_1_0 := hpg0.resolve_left c_4
    have f_24_2 : iR v0_6 259 259 := iR_eqL d_4_1_0 hv0_6 (iR_c (n := 259) (a := 259) (b := 259) (by decide +kernel) (by decide +kernel)) (by decide +kernel)
    exact k_rv B hP hD hS dX2_blame_24 ((fun k9 => match k9 with | 0 => v0_6 | 1 => v0_9 | 2 => v0_10 | _ => 0), (fun _ => 0), (fun _ => (fun _ => 0)), (fun _ => (fun _ => 0)), (fun _ => 0)) [0] rfl rfl (Nat.le_of_ble_eq_true rfl) (Nat.le_of_ble_eq_true rfl) ⟨(show iR v0_6 259 259 from f_24_2), (show iR v0_9 1 6 from f_24_1), (show (0 : Int32) < v0_9 → (0 : Int32) < v0_9 from (fun h => h)), (show (v0_9 = 0) ∨ ((v0_6 = 259)) from (Or.inr d_4_1_0))⟩
  · have c_4 : v0_9 = 0 := c_4
    have f_7_1 : iR v0_9 0 0 := iR_eqL c_4 hv0_9 (iR_c (n := 0) (a := 0) (b := 0) (by decide +kernel) (by decide +kernel)) (by decide +kernel)
    refine lv_aload_n hx hb dX2_blame_7 rfl (lv_at hl 0 rfl) ?_
    refine lv_iload_n hx hb dX2_blame_8 rfl (lv_at hl 1 rfl) ?_
    refine k_put (D := (dC, dI)) (ci := 2) (v := .int x1) (C := RX2) (T := TX2) (N := 11) (ws' := [(a0, .inr (2, [.ref a0_0, .ref a0_1, .ref b0_2, .int v0_3, .int v0_4, .int v0_5, .int v0_6, .int v0_7, .int 7, .int x1, .int v0_10]))]) hx hb hts hinX2 tyX2 tyX2_ok nmX2 hown hK hP hD hS 0 rfl rfl 9 (by decide) w_0 rfl rfl rfl rfl (Nat.le_of_ble_eq_true rfl) rfl dX2_blame_9 (fun H locs hP hD hS => ?_)
    refine lv_aload_n hx hb dX2_blame_12 rfl (lv_at hl 0 rfl) ?_
    refine lv_iload_n hx hb dX2_blame_13 rfl (lv_at hl 2 rfl) ?_
    refine k_put (D := (dC, dI)) (ci := 2) (v := .int x2) (C := RX2) (T := TX2) (N := 11) (ws' := [(a0, .inr (2, [.ref a0_0, .ref a0_1, .ref b0_2, .int v0_3, .int v0_4, .int v0_5, .int v0_6, .int v0_7, .int 7, .int x1, .int x2]))]) hx hb hts hinX2 tyX2 tyX2_ok nmX2 hown hK hP hD hS 0 rfl rfl 10 (by decide) w_1 rfl rfl rfl rfl (Nat.le_of_ble_eq_true rfl) rfl dX2_blame_14 (fun H locs hP hD hS => ?_)
    refine lv_aload_n hx hb dX2_blame_17 rfl (lv_at hl 0 rfl) ?_
    refine lv_sipush (v := 259) hx hb dX2_blame_18 (by decide +kernel) ?_
    refine k_put (D := (dC, dI)) (ci := 2) (v := .int 259) (C := RX2) (T := TX2) (N := 11) (ws' := [(a0, .inr (2, [.ref a0_0, .ref a0_1, .ref b0_2, .int v0_3, .int v0_4, .int v0_5, .int 259, .int v0_7, .int 7, .int x1, .int x2]))]) hx hb hts hinX2 tyX2 tyX2_ok nmX2 hown hK hP hD hS 0 rfl rfl 6 (by decide) w_2 rfl rfl rfl rfl (Nat.le_of_ble_eq_true rfl) rfl dX2_blame_21 (fun H locs hP hD hS => ?_)
    exact k_rv B hP hD hS dX2_blame_24 ((fun k9 => match k9 with | 0 => 259 | 1 => x1 | 2 => x2 | _ => 0), (fun _ => 0), (fun _ => (fun _ => 0)), (fun _ => (fun _ => 0)), (fun _ => 0)) [0] rfl rfl (Nat.le_of_ble_eq_true rfl) (Nat.le_of_ble_eq_true rfl) ⟨(show iR 259 259 259 from (iR_c (n := 259) (a := 259) (b := 259) (by decide +kernel) (by decide +kernel))), (show iR x1 1 6 from hx1), (show (0 : Int32) < v0_9 → (0 : Int32) < x1 from (fun _ => (i_ltf (iR_c (n := 0) (a := 0) (b := 0) (by decide +kernel) (by decide +kernel)) hx1 (by decide +kernel)))), (show (x1 = 0) ∨ ((259 = 259)) from (Or.inr rfl))⟩
set_option maxHeartbeats 8000000 in
set_option maxRecDepth 100000 in
theorem s_X2_readNumber_v15 (l : Launch) (dC : Nat → ClassId) (dI : Nat → Nat → Nat) (cI cJ cZ cM : ClassId) (a0 : Nat) (a0_0 : Nat) (f0_0 : Nat → Int32) (a0_1 : Nat) (b0_2 : Nat) (v0_3 : Int32) (v0_4 : Int32) (v0_5 : Int32) (v0_6 : Int32) (v0_7 : Int32) (v0_9 : Int32) (v0_10 : Int32) (hxv0_9 : iR v0_9 0 0) (hv0_3 : iR v0_3 0 1600) (hv0_4 : iR v0_4 0 1600) (hv0_5 : iR v0_5 0 1600) (hv0_6 : iR v0_6 0 324) (hv0_9 : iR v0_9 0 6) (hf0_0 : aR f0_0 0 255) (hpg0 : (v0_9 = 0) ∨ ((v0_6 = 259))) : k_Mv l yX2_readNumber wsX2_readNumber ({ frames := 2, cells := 0, slots := 0, locals := 62 }) (dC, dI) vwCl (tyy cI cJ cZ cM) [(a0, .inr (2, [.ref a0_0, .ref a0_1, .ref b0_2, .int v0_3, .int v0_4, .int v0_5, .int v0_6, .int v0_7, .int 7, .int v0_9, .int v0_10])), (a0_0, .inl (cI, 1600, .inl f0_0))] [.ref a0] 0 0 (fun (u9 : SU) => [(a0, .inr (2, [.ref a0_0, .ref a0_1, .ref b0_2, .int v0_3, .int (u9.1 0), .int v0_5, .int (u9.1 1), .int (u9.1 2), .int 7, .int (u9.1 3), .int (u9.1 4)])), (a0_0, .inl (cI, 1600, .inl f0_0))]) (fun (u9 : SU) => (iR (u9.1 0) 0 1600) ∧ (iR (u9.1 1) 257 259) ∧ (iR (u9.1 3) 0 6) ∧ ((0 : Int32) < v0_9 → (0 : Int32) < (u9.1 3)) ∧ (((u9.1 3) = 0) ∨ (((u9.1 1) = 259)))) := by
  refine fun sz => k_enter (cc := cX2_readNumber) (maxL := 2) (ret := none) (Qc := fun A => va_Qv (fun (u9 : SU) => (iR (u9.1 0) 0 1600) ∧ (iR (u9.1 1) 257 259) ∧ (iR (u9.1 3) 0 6) ∧ ((0 : Int32) < v0_9 → (0 : Int32) < (u9.1 3)) ∧ (((u9.1 3) = 0) ∨ (((u9.1 1) = 259)))) (fun u => k_B (dC, dI) vwCl (tyy cI cJ cZ cM) A ((fun (u9 : SU) => [(a0, .inr (2, [.ref a0_0, .ref a0_1, .ref b0_2, .int v0_3, .int (u9.1 0), .int v0_5, .int (u9.1 1), .int (u9.1 2), .int 7, .int (u9.1 3), .int (u9.1 4)])), (a0_0, .inl (cI, 1600, .inl f0_0))]) u)) A) sz (by decide +kernel) rfl (Nat.le_of_ble_eq_true rfl) (fun p e s m args below meth c A ls H locs B hP hD hS hl => ?_)
  obtain ⟨hx, hb, hml, hown, hts, hr, hlk, hnm, hK, hA, hN, hC⟩ := id B
  have hown : s.vm.findClass RX2 = some m.cls := hown
  have hl : lv_has ls 2 [(0, .ref a0)] := hl
  have w_0 : (Cond.fieldLink RX2 57 "WishSea$Reader" "position" "I").before args s = true := hts _ (List.mem_of_getElem? (i := 1) rfl)
  have w_1 : (Cond.fieldLink RX2 55 "WishSea$Reader" "length" "I").before args s = true := hts _ (List.mem_of_getElem? (i := 2) rfl)
  have w_2 : (Cond.fieldLink RX2 73 "WishSea$Reader" "start" "I").before args s = true := hts _ (List.mem_of_getElem? (i := 4) rfl)
  have w_3 : (Cond.fieldLink RX2 15 "WishSea$Reader" "token" "I").before args s = true := hts _ (List.mem_of_getElem? (i := 5) rfl)
  have w_4 : (Cond.fieldLink RX2 172 "WishSea$Reader" "value" "I").before args s = true := hts _ (List.mem_of_getElem? (i := 6) rfl)
  have w_5 : (Cond.fieldLink RX2 22 "WishSea$Reader" "text" "[I").before args s = true := hts _ (List.mem_of_getElem? (i := 3) rfl)
  have hinX2 : ∀ w ∈ u_ws RX2 TX2 11, w ∈ wsX2_readNumber := fun _ h => List.mem_cons_of_mem _ (List.mem_append_right _ h)
  refine lv_iconst (v := 0) hx hb dX2_readNumber_0 (by decide +kernel) ?_
  have J_2 : ∀ (n_2 : Nat) (j2_F0_4 : Int32) (j2_L1 : Int32) (hj2_F0_4 : iR j2_F0_4 0 1600) (hm_2 : (1600 - j2_F0_4.toInt).toNat < n_2) (H : Heap) (locs : List Loc) (ls : Array Slot), va_P (dC, dI) vwCl [(a0, .inr (2, [.ref a0_0, .ref a0_1, .ref b0_2, .int v0_3, .int j2_F0_4, .int v0_5, .int v0_6, .int v0_7, .int 7, .int v0_9, .int v0_10])), (a0_0, .inl (cI, 1600, .inl f0_0))] H → va_D A [(a0, .inr (2, [.ref a0_0, .ref a0_1, .ref b0_2, .int v0_3, .int j2_F0_4, .int v0_5, .int v0_6, .int v0_7, .int 7, .int v0_9, .int v0_10])), (a0_0, .inl (cI, 1600, .inl f0_0))] → va_S A s.heap H locs → lv_has ls 2 [(0, .ref a0), (1, .int j2_L1)] → W p l e ({ frames := 2, cells := 0, slots := 0, locals := 62 }) s m args below meth c H locs 0 0 (MQ below (va_Qv (fun (u9 : SU) => (iR (u9.1 0) 0 1600) ∧ (iR (u9.1 1) 257 259) ∧ (iR (u9.1 3) 0 6) ∧ ((0 : Int32) < v0_9 → (0 : Int32) < (u9.1 3)) ∧ (((u9.1 3) = 0) ∨ (((u9.1 1) = 259)))) (fun u => k_B (dC, dI) vwCl (tyy cI cJ cZ cM) A ((fun (u9 : SU) => [(a0, .inr (2, [.ref a0_0, .ref a0_1, .ref b0_2, .int v0_3, .int (u9.1 0), .int v0_5, .int (u9.1 1), .int (u9.1 2), .int 7, .int (u9.1 3), .int (u9.1 4)])), (a0_0, .inl (cI, 1600, .inl f0_0))]) u)) A) args s 0 0 A) (F0 m 2 ls []) := by
    intro n_2
    induction n_2 with
    | zero => intro j2_F0_4 j2_L1 hj2_F0_4 hm_2; exact absurd hm_2 (Nat.not_lt_zero _)
    | succ n_2 ih_2 =>
      intro j2_F0_4 j2_L1 hj2_F0_4 hm_2 H locs ls hP hD hS hl
      refine lv_aload_n hx hb dX2_readNumber_2 rfl (lv_at hl 0 rfl) ?_
      refine k_get (D := (dC, dI)) (ci := 2) (v := .int j2_F0_4) (C := RX2) (T := TX2) (N := 11) hx hb hts hinX2 hown hK hP 0 rfl rfl 4 (by decide) w_0 rfl rfl dX2_readNumber_3 ?_
      refine lv_aload_n hx hb dX2_readNumber_6 rfl (lv_at hl 0 rfl) ?_
      refine k_get (D := (dC, dI)) (ci := 2) (v := .int v0_3) (C := RX2) (T := TX2) (N := 11) hx hb hts hinX2 hown hK hP 0 rfl rfl 3 (by decide) w_1 rfl rfl dX2_readNumber_7 ?_
      have J_72 : ∀   (H : Heap) (locs : List Loc) (ls : Array Slot), va_P (dC, dI) vwCl [(a0, .inr (2, [.ref a0_0, .ref a0_1, .ref b0_2, .int v0_3, .int j2_F0_4, .int v0_5, .int v0_6, .int v0_7, .int 7, .int v0_9, .int v0_10])), (a0_0, .inl (cI, 1600, .inl f0_0))] H → va_D A [(a0, .inr (2, [.ref a0_0, .ref a0_1, .ref b0_2, .int v0_3, .int j2_F0_4, .int v0_5, .int v0_6, .int v0_7, .int 7, .int v0_9, .int v0_10])), (a0_0, .inl (cI, 1600, .inl f0_0))] → va_S A s.heap H locs → lv_has ls 2 [(0, .ref a0), (1, .int j2_L1)] → W p l e ({ frames := 2, cells := 0, slots := 0, locals := 62 }) s m args below meth c H locs 0 0 (MQ below (va_Qv (fun (u9 : SU) => (iR (u9.1 0) 0 1600) ∧ (iR (u9.1 1) 257 259) ∧ (iR (u9.1 3) 0 6) ∧ ((0 : Int32) < v0_9 → (0 : Int32) < (u9.1 3)) ∧ (((u9.1 3) = 0) ∨ (((u9.1 1) = 259)))) (fun u => k_B (dC, dI) vwCl (tyy cI cJ cZ cM) A ((fun (u9 : SU) => [(a0, .inr (2, [.ref a0_0, .ref a0_1, .ref b0_2, .int v0_3, .int (u9.1 0), .int v0_5, .int (u9.1 1), .int (u9.1 2), .int 7, .int (u9.1 3), .int (u9.1 4)])), (a0_0, .inl (cI, 1600, .inl f0_0))]) u)) A) args s 0 0 A) (F0 m 72 ls []) := by
        intro   H locs ls hP hD hS hl
        refine lv_aload_n hx hb dX2_readNumber_72 rfl (lv_at hl 0 rfl) ?_
        refine k_get (D := (dC, dI)) (ci := 2) (v := .int j2_F0_4) (C := RX2) (T := TX2) (N := 11) hx hb hts hinX2 hown hK hP 0 rfl rfl 4 (by decide) w_0 rfl rfl dX2_readNumber_73 ?_
        refine lv_aload_n hx hb dX2_readNumber_76 rfl (lv_at hl 0 rfl) ?_
        refine k_get (D := (dC, dI)) (ci := 2) (v := .int v0_5) (C := RX2) (T := TX2) (N := 11) hx hb hts hinX2 hown hK hP 0 rfl rfl 5 (by decide) w_2 rfl rfl dX2_readNumber_77 ?_
        refine lv_isub hx hb dX2_readNumber_80 ?_
        refine lv_topi (fun y_80 ey_80 => ?_)
        have f_80_1 : iR y_80 (-1600) 1600 := iR_sub ey_80 hj2_F0_4 hv0_5 (by decide +kernel)
        refine lv_iconst (v := 4) hx hb dX2_readNumber_81 (by decide +kernel) ?_
        refine lv_icmp_le (tgt := 99) hx hb dX2_readNumber_82 (by decide) (fun c_82 => ?_) (fun c_82 => ?_)
        · have c_82 : y_80 ≤ 4 := c_82
          have f_99_2 : iR y_80 (-1600) 4 := iR_leL c_82 f_80_1 (iR_c (n := 4) (a := 4) (b := 4) (by decide +kernel) (by decide +kernel)) (by decide +kernel)
          refine lv_aload_n hx hb dX2_readNumber_99 rfl (lv_at hl 0 rfl) ?_
          refine lv_sipush (v := 257) hx hb dX2_readNumber_100 (by decide +kernel) ?_
          refine k_put (D := (dC, dI)) (ci := 2) (v := .int 257) (C := RX2) (T := TX2) (N := 11) (ws' := [(a0, .inr (2, [.ref a0_0, .ref a0_1, .ref b0_2, .int v0_3, .int j2_F0_4, .int v0_5, .int 257, .int v0_7, .int 7, .int v0_9, .int v0_10])), (a0_0, .inl (cI, 1600, .inl f0_0))]) hx hb hts hinX2 tyX2 tyX2_ok nmX2 hown hK hP hD hS 0 rfl rfl 6 (by decide) w_3 rfl rfl rfl rfl (Nat.le_of_ble_eq_true rfl) rfl dX2_readNumber_103 (fun H locs hP hD hS => ?_)
          refine lv_aload_n hx hb dX2_readNumber_106 rfl (lv_at hl 0 rfl) ?_
          refine lv_iload_n hx hb dX2_readNumber_107 rfl (lv_at hl 1 rfl) ?_
          refine k_put (D := (dC, dI)) (ci := 2) (v := .int j2_L1) (C := RX2) (T := TX2) (N := 11) (ws' := [(a0, .inr (2, [.ref a0_0, .ref a0_1, .ref b0_2, .int v0_3, .int j2_F0_4, .int v0_5, .int 257, .int j2_L1, .int 7, .int v0_9, .int v0_10])), (a0_0, .inl (cI, 1600, .inl f0_0))]) hx hb hts hinX2 tyX2 tyX2_ok nmX2 hown hK hP hD hS 0 rfl rfl 7 (by decide) w_4 rfl rfl rfl rfl (Nat.le_of_ble_eq_true rfl) rfl dX2_readNumber_108 (fun H locs hP hD hS => ?_)
          exact k_rv B hP hD hS dX2_readNumber_111 ((fun k9 => match k9 with | 0 => j2_F0_4 | 1 => 257 | 2 => j2_L1 | 3 => v0_9 | 4 => v0_10 | _ => 0), (fun _ => 0), (fun _ => (fun _ => 0)), (fun _ => (fun _ => 0)), (fun _ => 0)) [0, 1] rfl rfl (Nat.le_of_ble_eq_true rfl) (Nat.le_of_ble_eq_true rfl) ⟨(show iR j2_F0_4 0 1600 from hj2_F0_4), (show iR 257 257 259 from (iR_c (n := 257) (a := 257) (b := 259) (by decide +kernel) (by decide +kernel))), (show iR v0_9 0 6 from (iR_w hxv0_9 (by decide +kernel))), (show (0 : Int32) < v0_9 → (0 : Int32) < v0_9 from (fun h => h)), (show (v0_9 = 0) ∨ ((257 = 259)) from (Or.inl (i_eqc hxv0_9 (iR_c (n := 0) (a := 0) (b := 0) (by decide +kernel) (by decide +kernel)))))⟩
        · have c_82 : 4 < y_80 := i_nle c_82
          have f_85_2 : iR y_80 5 1600 := iR_ltR c_82 (iR_c (n := 4) (a := 4) (b := 4) (by decide +kernel) (by decide +kernel)) f_80_1 (by decide +kernel)
          refine lv_aload_n hx hb dX2_readNumber_85 rfl (lv_at hl 0 rfl) ?_
          refine lv_iconst (v := 1) hx hb dX2_readNumber_86 (by decide +kernel) ?_
          refine lv_aload_n hx hb dX2_readNumber_87 rfl (lv_at hl 0 rfl) ?_
          refine k_get (D := (dC, dI)) (ci := 2) (v := .int v0_5) (C := RX2) (T := TX2) (N := 11) hx hb hts hinX2 hown hK hP 0 rfl rfl 5 (by decide) w_2 rfl rfl dX2_readNumber_88 ?_
          refine lv_iconst (v := 4) hx hb dX2_readNumber_91 (by decide +kernel) ?_
          refine lv_iadd hx hb dX2_readNumber_92 ?_
          refine lv_topi (fun y_92 ey_92 => ?_)
          have f_92_3 : iR y_92 4 1604 := iR_add ey_92 hv0_5 (iR_c (n := 4) (a := 4) (b := 4) (by decide +kernel) (by decide +kernel)) (by decide +kernel)
          refine k_cv (wc := [(a0, .inr (2, [.ref a0_0, .ref a0_1, .ref b0_2, .int v0_3, .int j2_F0_4, .int v0_5, .int v0_6, .int v0_7, .int 7, .int v0_9, .int v0_10]))]) (wr := [(a0_0, .inl (cI, 1600, .inl f0_0))]) (fun hPc hDc hFc => va_runV (As := [.int 1, .int y_92]) (rest := []) ⟨hx, hb, hml, hown, hts⟩ (s_X2_blame_v22 l dC dI cI cJ cZ cM a0 1 y_92 a0_0 a0_1 b0_2 v0_3 j2_F0_4 v0_5 v0_6 v0_7 v0_9 v0_10 (iR_c (n := 1) (a := 1) (b := 6) (by decide +kernel) (by decide +kernel)) hv0_3 hj2_F0_4 hv0_5 hv0_6 (iR_w hxv0_9 (by decide +kernel)) hpg0 H.size) (cwV 2 hts gX2_readNumber_X2_blame rfl rfl rfl (by decide +kernel) ⟨(Nat.le_of_ble_eq_true rfl), (Nat.le_of_ble_eq_true rfl)⟩) (k_pV hPc hDc hK hN hC hS hFc hP (q0 := 0) (ci := 2) rfl rfl) rfl rfl hl.1 rfl (lv_room (Nat.le_of_ble_eq_true rfl)) dX2_readNumber_93 ⟨(Nat.le_of_ble_eq_true rfl), (Nat.le_of_ble_eq_true rfl)⟩) hP hD hS hA [0] [1] rfl rfl rfl rfl (by decide) (fun _ => rfl) 0 0 rfl rfl (fun u_93 H locs hw hP hD hS => ?_)
          obtain ⟨g_93_0, g_93_1, g_93_2, g_93_3⟩ := hw
          have hP : va_P (dC, dI) vwCl [(a0_0, .inl (cI, 1600, .inl f0_0)), (a0, .inr (2, [.ref a0_0, .ref a0_1, .ref b0_2, .int v0_3, .int j2_F0_4, .int v0_5, .int (u_93.1 0), .int v0_7, .int 7, .int (u_93.1 1), .int (u_93.1 2)]))] H := hP
          have hD : va_D A [(a0_0, .inl (cI, 1600, .inl f0_0)), (a0, .inr (2, [.ref a0_0, .ref a0_1, .ref b0_2, .int v0_3, .int j2_F0_4, .int v0_5, .int (u_93.1 0), .int v0_7, .int 7, .int (u_93.1 1), .int (u_93.1 2)]))] := hD
          have g_93_2 : (0 : Int32) < v0_9 → (0 : Int32) < (u_93.1 1) := g_93_2
          have g_93_3 : ((u_93.1 1) = 0) ∨ (((u_93.1 0) = 259)) := g_93_3
          obtain d93_1_0 := g_93_3.resolve_left (i_nef g_93_1 (iR_c (n := 0) (a := 0) (b := 0) (by decide +kernel) (by decide +kernel)) (by decide +kernel))
          refine lv_goto (tgt := 111) hx hb dX2_readNumber_96 (by decide) ?_
          exact k_rv B hP hD hS dX2_readNumber_111 ((fun k9 => match k9 with | 0 => j2_F0_4 | 1 => (u_93.1 0) | 2 => v0_7 | 3 => (u_93.1 1) | 4 => (u_93.1 2) | _ => 0), (fun _ => 0), (fun _ => (fun _ => 0)), (fun _ => (fun _ => 0)), (fun _ => 0)) [1, 0] rfl rfl (Nat.le_of_ble_eq_true rfl) (Nat.le_of_ble_eq_true rfl) ⟨(show iR j2_F0_4 0 1600 from hj2_F0_4), (show iR (u_93.1 0) 257 259 from (iR_w g_93_0 (by decide +kernel))), (show iR (u_93.1 1) 0 6 from (iR_w g_93_1 (by decide +kernel))), (show (0 : Int32) < v0_9 → (0 : Int32) < (u_93.1 1) from (fun h => g_93_2 ((fun h => h) h))), (show ((u_93.1 1) = 0) ∨ (((u_93.1 0) = 259)) from (Or.inr d93_1_0))⟩
      refine lv_icmp_ge (tgt := 72) hx hb dX2_readNumber_10 (by decide) (fun c_10 => ?_) (fun c_10 => ?_)
      · have c_10 : v0_3 ≤ j2_F0_4 := c_10
        exact J_72   H locs ls hP hD hS (lv_sub hl [0, 1] rfl)
      · have c_10 : j2_F0_4 < v0_3 := i_nle c_10
        have f_13_1 : iR j2_F0_4 0 1599 := iR_ltL c_10 hj2_F0_4 hv0_3 (by decide +kernel)
        have f_13_2 : iR v0_3 1 1600 := iR_ltR c_10 hj2_F0_4 hv0_3 (by decide +kernel)
        refine lv_aload_n hx hb dX2_readNumber_13 rfl (lv_at hl 0 rfl) ?_
        refine k_get (D := (dC, dI)) (ci := 2) (v := .ref a0_0) (C := RX2) (T := TX2) (N := 11) hx hb hts hinX2 hown hK hP 0 rfl rfl 0 (by decide) w_5 rfl rfl dX2_readNumber_14 ?_
        refine lv_aload_n hx hb dX2_readNumber_17 rfl (lv_at hl 0 rfl) ?_
        refine k_get (D := (dC, dI)) (ci := 2) (v := .int j2_F0_4) (C := RX2) (T := TX2) (N := 11) hx hb hts hinX2 hown hK hP 0 rfl rfl 4 (by decide) w_0 rfl rfl dX2_readNumber_18 ?_
        refine va_iald hx hb hK hP 1 0 rfl rfl (iR_vp f_13_1 (by decide +kernel)) dX2_readNumber_21 ?_
        have f_21_3 : iR (f0_0 j2_F0_4.toNatClampNeg) 0 255 := hf0_0 _
        refine k_ci (wc := []) (wr := [(a0, .inr (2, [.ref a0_0, .ref a0_1, .ref b0_2, .int v0_3, .int j2_F0_4, .int v0_5, .int v0_6, .int v0_7, .int 7, .int v0_9, .int v0_10])), (a0_0, .inl (cI, 1600, .inl f0_0))]) (fun hPc hDc hFc => va_runS (As := [.int (f0_0 j2_F0_4.toNatClampNeg)]) (rest := []) ⟨hx, hb, hml, hown, hts⟩ (s_X2_isDigit_v0 l dC dI cI cJ cZ cM (f0_0 j2_F0_4.toNatClampNeg) H.size) (va_cwS 1 hts gX2_readNumber_X2_isDigit rfl rfl rfl (by decide +kernel) ⟨(Nat.le_of_ble_eq_true rfl), (Nat.le_of_ble_eq_true rfl)⟩) (k_pS hPc hDc hK hN hC hS hFc) rfl rfl hl.1 rfl (lv_room (Nat.le_of_ble_eq_true rfl)) dX2_readNumber_22 ⟨(Nat.le_of_ble_eq_true rfl), (Nat.le_of_ble_eq_true rfl)⟩) hP hD hS hA [] [0, 1] rfl rfl rfl rfl (by decide) (fun _ => rfl) 0 0 rfl rfl (fun r_22 u_22 H locs hw hP hD hS => ?_)
        have g_22_0 := hw
        have hP : va_P (dC, dI) vwCl [(a0, .inr (2, [.ref a0_0, .ref a0_1, .ref b0_2, .int v0_3, .int j2_F0_4, .int v0_5, .int v0_6, .int v0_7, .int 7, .int v0_9, .int v0_10])), (a0_0, .inl (cI, 1600, .inl f0_0))] H := hP
        have hD : va_D A [(a0, .inr (2, [.ref a0_0, .ref a0_1, .ref b0_2, .int v0_3, .int j2_F0_4, .int v0_5, .int v0_6, .int v0_7, .int 7, .int v0_9, .int v0_10])), (a0_0, .inl (cI, 1600, .inl f0_0))] := hD
        refine lv_if_eq (tgt := 72) hx hb dX2_readNumber_25 (by decide) (fun c_25 => ?_) (fun c_25 => ?_)
        · have c_25 : r_22 = 0 := c_25
          have f_72_4 : iR r_22 0 0 := iR_eqL c_25 g_22_0 (iR_c (n := 0) (a := 0) (b := 0) (by decide +kernel) (by decide +kernel)) (by decide +kernel)
          exact J_72   H locs ls hP hD hS (lv_sub hl [0, 1] rfl)
        · have c_25 : ¬ r_22 = 0 := c_25
          have f_28_4 : iR r_22 1 1 := iR_neL c_25 g_22_0 (iR_c (n := 0) (a := 0) (b := 0) (by decide +kernel) (by decide +kernel)) (by decide +kernel)
          refine lv_aload_n hx hb dX2_readNumber_28 rfl (lv_at hl 0 rfl) ?_
          refine k_get (D := (dC, dI)) (ci := 2) (v := .int j2_F0_4) (C := RX2) (T := TX2) (N := 11) hx hb hts hinX2 hown hK hP 0 rfl rfl 4 (by decide) w_0 rfl rfl dX2_readNumber_29 ?_
          refine lv_aload_n hx hb dX2_readNumber_32 rfl (lv_at hl 0 rfl) ?_
          refine k_get (D := (dC, dI)) (ci := 2) (v := .int v0_5) (C := RX2) (T := TX2) (N := 11) hx hb hts hinX2 hown hK hP 0 rfl rfl 5 (by decide) w_2 rfl rfl dX2_readNumber_33 ?_
          refine lv_isub hx hb dX2_readNumber_36 ?_
          refine lv_topi (fun y_36 ey_36 => ?_)
          have f_36_5 : iR y_36 (-1600) 1599 := iR_sub ey_36 f_13_1 hv0_5 (by decide +kernel)
          refine lv_iconst (v := 4) hx hb dX2_readNumber_37 (by decide +kernel) ?_
          have J_59 : ∀ (j59_L1 : Int32)  (H : Heap) (locs : List Loc) (ls : Array Slot), va_P (dC, dI) vwCl [(a0, .inr (2, [.ref a0_0, .ref a0_1, .ref b0_2, .int v0_3, .int j2_F0_4, .int v0_5, .int v0_6, .int v0_7, .int 7, .int v0_9, .int v0_10])), (a0_0, .inl (cI, 1600, .inl f0_0))] H → va_D A [(a0, .inr (2, [.ref a0_0, .ref a0_1, .ref b0_2, .int v0_3, .int j2_F0_4, .int v0_5, .int v0_6, .int v0_7, .int 7, .int v0_9, .int v0_10])), (a0_0, .inl (cI, 1600, .inl f0_0))] → va_S A s.heap H locs → lv_has ls 2 [(0, .ref a0), (1, .int j59_L1)] → W p l e ({ frames := 2, cells := 0, slots := 0, locals := 62 }) s m args below meth c H locs 0 0 (MQ below (va_Qv (fun (u9 : SU) => (iR (u9.1 0) 0 1600) ∧ (iR (u9.1 1) 257 259) ∧ (iR (u9.1 3) 0 6) ∧ ((0 : Int32) < v0_9 → (0 : Int32) < (u9.1 3)) ∧ (((u9.1 3) = 0) ∨ (((u9.1 1) = 259)))) (fun u => k_B (dC, dI) vwCl (tyy cI cJ cZ cM) A ((fun (u9 : SU) => [(a0, .inr (2, [.ref a0_0, .ref a0_1, .ref b0_2, .int v0_3, .int (u9.1 0), .int v0_5, .int (u9.1 1), .int (u9.1 2), .int 7, .int (u9.1 3), .int (u9.1 4)])), (a0_0, .inl (cI, 1600, .inl f0_0))]) u)) A) args s 0 0 A) (F0 m 59 ls []) := by
            intro j59_L1  H locs ls hP hD hS hl
            refine lv_aload_n hx hb dX2_readNumber_59 rfl (lv_at hl 0 rfl) ?_
            refine lv_dup hx hb dX2_readNumber_60 rfl ?_
            refine k_get (D := (dC, dI)) (ci := 2) (v := .int j2_F0_4) (C := RX2) (T := TX2) (N := 11) hx hb hts hinX2 hown hK hP 0 rfl rfl 4 (by decide) w_0 rfl rfl dX2_readNumber_61 ?_
            refine lv_iconst (v := 1) hx hb dX2_readNumber_64 (by decide +kernel) ?_
            refine lv_iadd hx hb dX2_readNumber_65 ?_
            refine lv_topi (fun y_65 ey_65 => ?_)
            have f_65_1 : iR y_65 1 1600 := iR_add ey_65 f_13_1 (iR_c (n := 1) (a := 1) (b := 1) (by decide +kernel) (by decide +kernel)) (by decide +kernel)
            refine k_put (D := (dC, dI)) (ci := 2) (v := .int y_65) (C := RX2) (T := TX2) (N := 11) (ws' := [(a0, .inr (2, [.ref a0_0, .ref a0_1, .ref b0_2, .int v0_3, .int y_65, .int v0_5, .int v0_6, .int v0_7, .int 7, .int v0_9, .int v0_10])), (a0_0, .inl (cI, 1600, .inl f0_0))]) hx hb hts hinX2 tyX2 tyX2_ok nmX2 hown hK hP hD hS 0 rfl rfl 4 (by decide) w_0 rfl rfl rfl rfl (Nat.le_of_ble_eq_true rfl) rfl dX2_readNumber_66 (fun H locs hP hD hS => ?_)
            refine lv_goto (tgt := 2) hx hb dX2_readNumber_69 (by decide) ?_
            exact ih_2 y_65 j59_L1 (iR_w f_65_1 (by decide +kernel)) (m_up (B := 1600) hm_2 ey_65 f_13_1 (by decide +kernel)) H locs ls hP hD hS (lv_sub hl [0, 1] rfl)
          refine lv_icmp_ge (tgt := 59) hx hb dX2_readNumber_38 (by decide) (fun c_38 => ?_) (fun c_38 => ?_)
          · have c_38 : 4 ≤ y_36 := c_38
            have f_59_6 : iR y_36 4 1599 := iR_leR c_38 (iR_c (n := 4) (a := 4) (b := 4) (by decide +kernel) (by decide +kernel)) f_36_5 (by decide +kernel)
            exact J_59 j2_L1  H locs ls hP hD hS (lv_sub hl [0, 1] rfl)
          · have c_38 : y_36 < 4 := i_nle c_38
            have f_41_6 : iR y_36 (-1600) 3 := iR_ltL c_38 f_36_5 (iR_c (n := 4) (a := 4) (b := 4) (by decide +kernel) (by decide +kernel)) (by decide +kernel)
            refine lv_iload_n hx hb dX2_readNumber_41 rfl (lv_at hl 1 rfl) ?_
            refine lv_bipush (v := 10) hx hb dX2_readNumber_42 (by decide +kernel) ?_
            refine lv_imul hx hb dX2_readNumber_44 ?_
            refine lv_topi (fun y_44 ey_44 => ?_)
            refine lv_aload_n hx hb dX2_readNumber_45 rfl (lv_at hl 0 rfl) ?_
            refine k_get (D := (dC, dI)) (ci := 2) (v := .ref a0_0) (C := RX2) (T := TX2) (N := 11) hx hb hts hinX2 hown hK hP 0 rfl rfl 0 (by decide) w_5 rfl rfl dX2_readNumber_46 ?_
            refine lv_aload_n hx hb dX2_readNumber_49 rfl (lv_at hl 0 rfl) ?_
            refine k_get (D := (dC, dI)) (ci := 2) (v := .int j2_F0_4) (C := RX2) (T := TX2) (N := 11) hx hb hts hinX2 hown hK hP 0 rfl rfl 4 (by decide) w_0 rfl rfl dX2_readNumber_50 ?_
            refine va_iald hx hb hK hP 1 0 rfl rfl (iR_vp f_13_1 (by decide +kernel)) dX2_readNumber_53 ?_
            refine lv_iadd hx hb dX2_readNumber_54 ?_
            refine lv_topi (fun y_54 ey_54 => ?_)
            refine lv_bipush (v := 48) hx hb dX2_readNumber_55 (by decide +kernel) ?_
            refine lv_isub hx hb dX2_readNumber_57 ?_
            refine lv_topi (fun y_57 ey_57 => ?_)
            refine lv_istore_n (lv' := [(1, .int y_57), (0, .ref a0)]) hx hb dX2_readNumber_58 rfl hl (by decide) rfl (fun ls hl => ?_)
            exact J_59 y_57  H locs ls hP hD hS (lv_sub hl [1, 0] rfl)
  refine lv_istore_n (lv' := [(1, .int 0), (0, .ref a0)]) hx hb dX2_readNumber_1 rfl hl (by decide) rfl (fun ls hl => ?_)
  exact J_2 _ v0_4 0 hv0_4 (Nat.lt_succ_self _) H locs ls hP hD hS (lv_sub hl [1, 0] rfl)
set_option maxHeartbeats 8000000 in
set_option maxRecDepth 100000 in
theorem s_X2_readWord_v15 (l : Launch) (dC : Nat → ClassId) (dI : Nat → Nat → Nat) (cI cJ cZ cM : ClassId) (a0 : Nat) (a0_0 : Nat) (f0_0 : Nat → Int32) (a0_1 : Nat) (g0_1 : Nat → Int64) (b0_2 : Nat) (v0_3 : Int32) (v0_4 : Int32) (v0_5 : Int32) (v0_6 : Int32) (v0_7 : Int32) (v0_9 : Int32) (v0_10 : Int32) (hxv0_9 : iR v0_9 0 0) (hv0_3 : iR v0_3 0 1600) (hv0_4 : iR v0_4 0 1600) (hv0_5 : iR v0_5 0 1600) (hv0_6 : iR v0_6 0 324) (hv0_9 : iR v0_9 0 6) (hf0_0 : aR f0_0 0 255) (hpg0 : (v0_9 = 0) ∨ ((v0_6 = 259))) : k_Mv l yX2_readWord wsX2_readWord ({ frames := 2, cells := 0, slots := 0, locals := 63 }) (dC, dI) vwCl (tyy cI cJ cZ cM) [(a0, .inr (2, [.ref a0_0, .ref a0_1, .ref b0_2, .int v0_3, .int v0_4, .int v0_5, .int v0_6, .int v0_7, .int 7, .int v0_9, .int v0_10])), (a0_0, .inl (cI, 1600, .inl f0_0)), (a0_1, .inl (cJ, 25, .inr (.inl g0_1)))] [.ref a0] 0 0 (fun (u9 : SU) => [(a0, .inr (2, [.ref a0_0, .ref a0_1, .ref b0_2, .int v0_3, .int (u9.1 0), .int v0_5, .int (u9.1 1), .int (u9.1 2), .int 7, .int (u9.1 3), .int (u9.1 4)])), (a0_0, .inl (cI, 1600, .inl f0_0)), (a0_1, .inl (cJ, 25, .inr (.inl g0_1)))]) (fun (u9 : SU) => (iR (u9.1 0) 0 1600) ∧ (iR (u9.1 1) 258 324) ∧ (iR (u9.1 3) 0 6) ∧ ((0 : Int32) < v0_9 → (0 : Int32) < (u9.1 3)) ∧ (((u9.1 3) = 0) ∨ (((u9.1 1) = 259)))) := by
  refine fun sz => k_enter (cc := cX2_readWord) (maxL := 7) (ret := none) (Qc := fun A => va_Qv (fun (u9 : SU) => (iR (u9.1 0) 0 1600) ∧ (iR (u9.1 1) 258 324) ∧ (iR (u9.1 3) 0 6) ∧ ((0 : Int32) < v0_9 → (0 : Int32) < (u9.1 3)) ∧ (((u9.1 3) = 0) ∨ (((u9.1 1) = 259)))) (fun u => k_B (dC, dI) vwCl (tyy cI cJ cZ cM) A ((fun (u9 : SU) => [(a0, .inr (2, [.ref a0_0, .ref a0_1, .ref b0_2, .int v0_3, .int (u9.1 0), .int v0_5, .int (u9.1 1), .int (u9.1 2), .int 7, .int (u9.1 3), .int (u9.1 4)])), (a0_0, .inl (cI, 1600, .inl f0_0)), (a0_1, .inl (cJ, 25, .inr (.inl g0_1)))]) u)) A) sz (by decide +kernel) rfl (Nat.le_of_ble_eq_true rfl) (fun p e s m args below meth c A ls H locs B hP hD hS hl => ?_)
  obtain ⟨hx, hb, hml, hown, hts, hr, hlk, hnm, hK, hA, hN, hC⟩ := id B
  have hown : s.vm.findClass RX2 = some m.cls := hown
  have hl : lv_has ls 7 [(0, .ref a0)] := hl
  have w_0 : (Cond.fieldLink RX2 57 "WishSea$Reader" "position" "I").before args s = true := hts _ (List.mem_of_getElem? (i := 1) rfl)
  have w_1 : (Cond.fieldLink RX2 55 "WishSea$Reader" "length" "I").before args s = true := hts _ (List.mem_of_getElem? (i := 2) rfl)
  have w_2 : (Cond.fieldLink RX2 73 "WishSea$Reader" "start" "I").before args s = true := hts _ (List.mem_of_getElem? (i := 4) rfl)
  have w_3 : (Cond.fieldLink RX2 15 "WishSea$Reader" "token" "I").before args s = true := hts _ (List.mem_of_getElem? (i := 6) rfl)
  have w_4 : (Cond.fieldLink RX2 172 "WishSea$Reader" "value" "I").before args s = true := hts _ (List.mem_of_getElem? (i := 7) rfl)
  have w_5 : (Cond.fieldLink RX2 22 "WishSea$Reader" "text" "[I").before args s = true := hts _ (List.mem_of_getElem? (i := 3) rfl)
  have w_6 : (Cond.constantLong RX2 42 (27)).before args s = true := hts _ (List.mem_of_getElem? (i := 5) rfl)
  have hinX2 : ∀ w ∈ u_ws RX2 TX2 11, w ∈ wsX2_readWord := fun _ h => List.mem_cons_of_mem _ (List.mem_append_right _ h)
  refine lv_lconst (v := 0) hx hb dX2_readWord_0 (by decide +kernel) ?_
  refine lv_lstore_n (lv' := [(1, .long 0), (0, .ref a0)]) hx hb dX2_readWord_1 rfl hl (by decide) rfl (fun ls hl => ?_)
  refine lv_lconst (v := 1) hx hb dX2_readWord_2 (by decide +kernel) ?_
  have J_4 : ∀ (n_4 : Nat) (j4_F0_4 : Int32) (j4_L1 : Int64) (j4_L3 : Int64) (hj4_F0_4 : iR j4_F0_4 0 1600) (hm_4 : (1600 - j4_F0_4.toInt).toNat < n_4) (H : Heap) (locs : List Loc) (ls : Array Slot), va_P (dC, dI) vwCl [(a0, .inr (2, [.ref a0_0, .ref a0_1, .ref b0_2, .int v0_3, .int j4_F0_4, .int v0_5, .int v0_6, .int v0_7, .int 7, .int v0_9, .int v0_10])), (a0_0, .inl (cI, 1600, .inl f0_0)), (a0_1, .inl (cJ, 25, .inr (.inl g0_1)))] H → va_D A [(a0, .inr (2, [.ref a0_0, .ref a0_1, .ref b0_2, .int v0_3, .int j4_F0_4, .int v0_5, .int v0_6, .int v0_7, .int 7, .int v0_9, .int v0_10])), (a0_0, .inl (cI, 1600, .inl f0_0)), (a0_1, .inl (cJ, 25, .inr (.inl g0_1)))] → va_S A s.heap H locs → lv_has ls 7 [(0, .ref a0), (1, .long j4_L1), (3, .long j4_L3)] → W p l e ({ frames := 2, cells := 0, slots := 0, locals := 63 }) s m args below meth c H locs 0 0 (MQ below (va_Qv (fun (u9 : SU) => (iR (u9.1 0) 0 1600) ∧ (iR (u9.1 1) 258 324) ∧ (iR (u9.1 3) 0 6) ∧ ((0 : Int32) < v0_9 → (0 : Int32) < (u9.1 3)) ∧ (((u9.1 3) = 0) ∨ (((u9.1 1) = 259)))) (fun u => k_B (dC, dI) vwCl (tyy cI cJ cZ cM) A ((fun (u9 : SU) => [(a0, .inr (2, [.ref a0_0, .ref a0_1, .ref b0_2, .int v0_3, .int (u9.1 0), .int v0_5, .int (u9.1 1), .int (u9.1 2), .int 7, .int (u9.1 3), .int (u9.1 4)])), (a0_0, .inl (cI, 1600, .inl f0_0)), (a0_1, .inl (cJ, 25, .inr (.inl g0_1)))]) u)) A) args s 0 0 A) (F0 m 4 ls []) := by
    intro n_4
    induction n_4 with
    | zero => intro j4_F0_4 j4_L1 j4_L3 hj4_F0_4 hm_4; exact absurd hm_4 (Nat.not_lt_zero _)
    | succ n_4 ih_4 =>
      intro j4_F0_4 j4_L1 j4_L3 hj4_F0_4 hm_4 H locs ls hP hD hS hl
      refine lv_aload_n hx hb dX2_readWord_4 rfl (lv_at hl 0 rfl) ?_
      refine k_get (D := (dC, dI)) (ci := 2) (v := .int j4_F0_4) (C := RX2) (T := TX2) (N := 11) hx hb hts hinX2 hown hK hP 0 rfl rfl 4 (by decide) w_0 rfl rfl dX2_readWord_5 ?_
      refine lv_aload_n hx hb dX2_readWord_8 rfl (lv_at hl 0 rfl) ?_
      refine k_get (D := (dC, dI)) (ci := 2) (v := .int v0_3) (C := RX2) (T := TX2) (N := 11) hx hb hts hinX2 hown hK hP 0 rfl rfl 3 (by decide) w_1 rfl rfl dX2_readWord_9 ?_
      have J_83 : ∀   (H : Heap) (locs : List Loc) (ls : Array Slot), va_P (dC, dI) vwCl [(a0, .inr (2, [.ref a0_0, .ref a0_1, .ref b0_2, .int v0_3, .int j4_F0_4, .int v0_5, .int v0_6, .int v0_7, .int 7, .int v0_9, .int v0_10])), (a0_0, .inl (cI, 1600, .inl f0_0)), (a0_1, .inl (cJ, 25, .inr (.inl g0_1)))] H → va_D A [(a0, .inr (2, [.ref a0_0, .ref a0_1, .ref b0_2, .int v0_3, .int j4_F0_4, .int v0_5, .int v0_6, .int v0_7, .int 7, .int v0_9, .int v0_10])), (a0_0, .inl (cI, 1600, .inl f0_0)), (a0_1, .inl (cJ, 25, .inr (.inl g0_1)))] → va_S A s.heap H locs → lv_has ls 7 [(0, .ref a0), (1, .long j4_L1)] → W p l e ({ frames := 2, cells := 0, slots := 0, locals := 63 }) s m args below meth c H locs 0 0 (MQ below (va_Qv (fun (u9 : SU) => (iR (u9.1 0) 0 1600) ∧ (iR (u9.1 1) 258 324) ∧ (iR (u9.1 3) 0 6) ∧ ((0 : Int32) < v0_9 → (0 : Int32) < (u9.1 3)) ∧ (((u9.1 3) = 0) ∨ (((u9.1 1) = 259)))) (fun u => k_B (dC, dI) vwCl (tyy cI cJ cZ cM) A ((fun (u9 : SU) => [(a0, .inr (2, [.ref a0_0, .ref a0_1, .ref b0_2, .int v0_3, .int (u9.1 0), .int v0_5, .int (u9.1 1), .int (u9.1 2), .int 7, .int (u9.1 3), .int (u9.1 4)])), (a0_0, .inl (cI, 1600, .inl f0_0)), (a0_1, .inl (cJ, 25, .inr (.inl g0_1)))]) u)) A) args s 0 0 A) (F0 m 83 ls []) := by
        intro   H locs ls hP hD hS hl
        refine lv_aload_n hx hb dX2_readWord_83 rfl (lv_at hl 0 rfl) ?_
        refine k_get (D := (dC, dI)) (ci := 2) (v := .int j4_F0_4) (C := RX2) (T := TX2) (N := 11) hx hb hts hinX2 hown hK hP 0 rfl rfl 4 (by decide) w_0 rfl rfl dX2_readWord_84 ?_
        refine lv_aload_n hx hb dX2_readWord_87 rfl (lv_at hl 0 rfl) ?_
        refine k_get (D := (dC, dI)) (ci := 2) (v := .int v0_5) (C := RX2) (T := TX2) (N := 11) hx hb hts hinX2 hown hK hP 0 rfl rfl 5 (by decide) w_2 rfl rfl dX2_readWord_88 ?_
        refine lv_isub hx hb dX2_readWord_91 ?_
        refine lv_topi (fun y_91 ey_91 => ?_)
        have f_91_1 : iR y_91 (-1600) 1600 := iR_sub ey_91 hj4_F0_4 hv0_5 (by decide +kernel)
        refine lv_istore (lv' := [(5, .int y_91), (0, .ref a0), (1, .long j4_L1)]) hx hb dX2_readWord_92 hl (by decide) rfl (fun ls hl => ?_)
        refine lv_iload hx hb dX2_readWord_94 (lv_at hl 0 rfl) ?_
        refine lv_bipush (v := 7) hx hb dX2_readWord_96 (by decide +kernel) ?_
        have J_110 : ∀ (j110_S0 : Int32) (hj110_S0 : iR j110_S0 (-1) 24) (H : Heap) (locs : List Loc) (ls : Array Slot), va_P (dC, dI) vwCl [(a0, .inr (2, [.ref a0_0, .ref a0_1, .ref b0_2, .int v0_3, .int j4_F0_4, .int v0_5, .int v0_6, .int v0_7, .int 7, .int v0_9, .int v0_10])), (a0_0, .inl (cI, 1600, .inl f0_0)), (a0_1, .inl (cJ, 25, .inr (.inl g0_1)))] H → va_D A [(a0, .inr (2, [.ref a0_0, .ref a0_1, .ref b0_2, .int v0_3, .int j4_F0_4, .int v0_5, .int v0_6, .int v0_7, .int 7, .int v0_9, .int v0_10])), (a0_0, .inl (cI, 1600, .inl f0_0)), (a0_1, .inl (cJ, 25, .inr (.inl g0_1)))] → va_S A s.heap H locs → lv_has ls 7 [(0, .ref a0), (1, .long j4_L1), (5, .int y_91)] → W p l e ({ frames := 2, cells := 0, slots := 0, locals := 63 }) s m args below meth c H locs 0 0 (MQ below (va_Qv (fun (u9 : SU) => (iR (u9.1 0) 0 1600) ∧ (iR (u9.1 1) 258 324) ∧ (iR (u9.1 3) 0 6) ∧ ((0 : Int32) < v0_9 → (0 : Int32) < (u9.1 3)) ∧ (((u9.1 3) = 0) ∨ (((u9.1 1) = 259)))) (fun u => k_B (dC, dI) vwCl (tyy cI cJ cZ cM) A ((fun (u9 : SU) => [(a0, .inr (2, [.ref a0_0, .ref a0_1, .ref b0_2, .int v0_3, .int (u9.1 0), .int v0_5, .int (u9.1 1), .int (u9.1 2), .int 7, .int (u9.1 3), .int (u9.1 4)])), (a0_0, .inl (cI, 1600, .inl f0_0)), (a0_1, .inl (cJ, 25, .inr (.inl g0_1)))]) u)) A) args s 0 0 A) (F0 m 110 ls [.int j110_S0]) := by
          intro j110_S0 hj110_S0 H locs ls hP hD hS hl
          refine lv_istore (lv' := [(6, .int j110_S0), (0, .ref a0), (1, .long j4_L1), (5, .int y_91)]) hx hb dX2_readWord_110 hl (by decide) rfl (fun ls hl => ?_)
          refine lv_iload hx hb dX2_readWord_112 (lv_at hl 0 rfl) ?_
          refine lv_if_lt (tgt := 130) hx hb dX2_readWord_114 (by decide) (fun c_114 => ?_) (fun c_114 => ?_)
          · have c_114 : j110_S0 < 0 := c_114
            have f_130_1 : iR j110_S0 (-1) (-1) := iR_ltL c_114 hj110_S0 (iR_c (n := 0) (a := 0) (b := 0) (by decide +kernel) (by decide +kernel)) (by decide +kernel)
            refine lv_iload hx hb dX2_readWord_130 (lv_at hl 3 rfl) ?_
            refine lv_bipush (v := 6) hx hb dX2_readWord_132 (by decide +kernel) ?_
            refine lv_icmp_le (tgt := 152) hx hb dX2_readWord_134 (by decide) (fun c_134 => ?_) (fun c_134 => ?_)
            · have c_134 : y_91 ≤ 6 := c_134
              have f_152_2 : iR y_91 (-1600) 6 := iR_leL c_134 f_91_1 (iR_c (n := 6) (a := 6) (b := 6) (by decide +kernel) (by decide +kernel)) (by decide +kernel)
              refine lv_aload_n hx hb dX2_readWord_152 rfl (lv_at hl 1 rfl) ?_
              refine lv_sipush (v := 258) hx hb dX2_readWord_153 (by decide +kernel) ?_
              refine k_put (D := (dC, dI)) (ci := 2) (v := .int 258) (C := RX2) (T := TX2) (N := 11) (ws' := [(a0, .inr (2, [.ref a0_0, .ref a0_1, .ref b0_2, .int v0_3, .int j4_F0_4, .int v0_5, .int 258, .int v0_7, .int 7, .int v0_9, .int v0_10])), (a0_0, .inl (cI, 1600, .inl f0_0)), (a0_1, .inl (cJ, 25, .inr (.inl g0_1)))]) hx hb hts hinX2 tyX2 tyX2_ok nmX2 hown hK hP hD hS 0 rfl rfl 6 (by decide) w_3 rfl rfl rfl rfl (Nat.le_of_ble_eq_true rfl) rfl dX2_readWord_156 (fun H locs hP hD hS => ?_)
              refine lv_aload_n hx hb dX2_readWord_159 rfl (lv_at hl 1 rfl) ?_
              refine lv_lload_n hx hb dX2_readWord_160 rfl (lv_at hl 2 rfl) ?_
              refine lv_l2i (v := j4_L1.toInt32) hx hb dX2_readWord_161 rfl ?_
              refine lv_topi (fun y_161 ey_161 => ?_)
              refine k_put (D := (dC, dI)) (ci := 2) (v := .int y_161) (C := RX2) (T := TX2) (N := 11) (ws' := [(a0, .inr (2, [.ref a0_0, .ref a0_1, .ref b0_2, .int v0_3, .int j4_F0_4, .int v0_5, .int 258, .int y_161, .int 7, .int v0_9, .int v0_10])), (a0_0, .inl (cI, 1600, .inl f0_0)), (a0_1, .inl (cJ, 25, .inr (.inl g0_1)))]) hx hb hts hinX2 tyX2 tyX2_ok nmX2 hown hK hP hD hS 0 rfl rfl 7 (by decide) w_4 rfl rfl rfl rfl (Nat.le_of_ble_eq_true rfl) rfl dX2_readWord_162 (fun H locs hP hD hS => ?_)
              exact k_rv B hP hD hS dX2_readWord_165 ((fun k9 => match k9 with | 0 => j4_F0_4 | 1 => 258 | 2 => y_161 | 3 => v0_9 | 4 => v0_10 | _ => 0), (fun _ => 0), (fun _ => (fun _ => 0)), (fun _ => (fun _ => 0)), (fun _ => 0)) [0, 1, 2] rfl rfl (Nat.le_of_ble_eq_true rfl) (Nat.le_of_ble_eq_true rfl) ⟨(show iR j4_F0_4 0 1600 from hj4_F0_4), (show iR 258 258 324 from (iR_c (n := 258) (a := 258) (b := 324) (by decide +kernel) (by decide +kernel))), (show iR v0_9 0 6 from (iR_w hxv0_9 (by decide +kernel))), (show (0 : Int32) < v0_9 → (0 : Int32) < v0_9 from (fun h => h)), (show (v0_9 = 0) ∨ ((258 = 259)) from (Or.inl (i_eqc hxv0_9 (iR_c (n := 0) (a := 0) (b := 0) (by decide +kernel) (by decide +kernel)))))⟩
            · have c_134 : 6 < y_91 := i_nle c_134
              have f_137_2 : iR y_91 7 1600 := iR_ltR c_134 (iR_c (n := 6) (a := 6) (b := 6) (by decide +kernel) (by decide +kernel)) f_91_1 (by decide +kernel)
              refine lv_aload_n hx hb dX2_readWord_137 rfl (lv_at hl 1 rfl) ?_
              refine lv_iconst (v := 1) hx hb dX2_readWord_138 (by decide +kernel) ?_
              refine lv_aload_n hx hb dX2_readWord_139 rfl (lv_at hl 1 rfl) ?_
              refine k_get (D := (dC, dI)) (ci := 2) (v := .int v0_5) (C := RX2) (T := TX2) (N := 11) hx hb hts hinX2 hown hK hP 0 rfl rfl 5 (by decide) w_2 rfl rfl dX2_readWord_140 ?_
              refine lv_bipush (v := 6) hx hb dX2_readWord_143 (by decide +kernel) ?_
              refine lv_iadd hx hb dX2_readWord_145 ?_
              refine lv_topi (fun y_145 ey_145 => ?_)
              have f_145_3 : iR y_145 6 1606 := iR_add ey_145 hv0_5 (iR_c (n := 6) (a := 6) (b := 6) (by decide +kernel) (by decide +kernel)) (by decide +kernel)
              refine k_cv (wc := [(a0, .inr (2, [.ref a0_0, .ref a0_1, .ref b0_2, .int v0_3, .int j4_F0_4, .int v0_5, .int v0_6, .int v0_7, .int 7, .int v0_9, .int v0_10]))]) (wr := [(a0_0, .inl (cI, 1600, .inl f0_0)), (a0_1, .inl (cJ, 25, .inr (.inl g0_1)))]) (fun hPc hDc hFc => va_runV (As := [.int 1, .int y_145]) (rest := []) ⟨hx, hb, hml, hown, hts⟩ (s_X2_blame_v23 l dC dI cI cJ cZ cM a0 1 y_145 a0_0 a0_1 b0_2 v0_3 j4_F0_4 v0_5 v0_6 v0_7 v0_9 v0_10 (iR_c (n := 1) (a := 1) (b := 6) (by decide +kernel) (by decide +kernel)) hv0_3 hj4_F0_4 hv0_5 hv0_6 (iR_w hxv0_9 (by decide +kernel)) hpg0 H.size) (cwV 2 hts gX2_readWord_X2_blame rfl rfl rfl (by decide +kernel) ⟨(Nat.le_of_ble_eq_true rfl), (Nat.le_of_ble_eq_true rfl)⟩) (k_pV hPc hDc hK hN hC hS hFc hP (q0 := 0) (ci := 2) rfl rfl) rfl rfl hl.1 rfl (lv_room (Nat.le_of_ble_eq_true rfl)) dX2_readWord_146 ⟨(Nat.le_of_ble_eq_true rfl), (Nat.le_of_ble_eq_true rfl)⟩) hP hD hS hA [0] [1, 2] rfl rfl rfl rfl (by decide) (fun _ => rfl) 0 0 rfl rfl (fun u_146 H locs hw hP hD hS => ?_)
              obtain ⟨g_146_0, g_146_1, g_146_2, g_146_3⟩ := hw
              have hP : va_P (dC, dI) vwCl [(a0_0, .inl (cI, 1600, .inl f0_0)), (a0_1, .inl (cJ, 25, .inr (.inl g0_1))), (a0, .inr (2, [.ref a0_0, .ref a0_1, .ref b0_2, .int v0_3, .int j4_F0_4, .int v0_5, .int (u_146.1 0), .int v0_7, .int 7, .int (u_146.1 1), .int (u_146.1 2)]))] H := hP
              have hD : va_D A [(a0_0, .inl (cI, 1600, .inl f0_0)), (a0_1, .inl (cJ, 25, .inr (.inl g0_1))), (a0, .inr (2, [.ref a0_0, .ref a0_1, .ref b0_2, .int v0_3, .int j4_F0_4, .int v0_5, .int (u_146.1 0), .int v0_7, .int 7, .int (u_146.1 1), .int (u_146.1 2)]))] := hD
              have g_146_2 : (0 : Int32) < v0_9 → (0 : Int32) < (u_146.1 1) := g_146_2
              have g_146_3 : ((u_146.1 1) = 0) ∨ (((u_146.1 0) = 259)) := g_146_3
              obtain d146_1_0 := g_146_3.resolve_left (i_nef g_146_1 (iR_c (n := 0) (a := 0) (b := 0) (by decide +kernel) (by decide +kernel)) (by decide +kernel))
              refine lv_goto (tgt := 165) hx hb dX2_readWord_149 (by decide) ?_
              exact k_rv B hP hD hS dX2_readWord_165 ((fun k9 => match k9 with | 0 => j4_F0_4 | 1 => (u_146.1 0) | 2 => v0_7 | 3 => (u_146.1 1) | 4 => (u_146.1 2) | _ => 0), (fun _ => 0), (fun _ => (fun _ => 0)), (fun _ => (fun _ => 0)), (fun _ => 0)) [2, 0, 1] rfl rfl (Nat.le_of_ble_eq_true rfl) (Nat.le_of_ble_eq_true rfl) ⟨(show iR j4_F0_4 0 1600 from hj4_F0_4), (show iR (u_146.1 0) 258 324 from (iR_w g_146_0 (by decide +kernel))), (show iR (u_146.1 1) 0 6 from (iR_w g_146_1 (by decide +kernel))), (show (0 : Int32) < v0_9 → (0 : Int32) < (u_146.1 1) from (fun h => g_146_2 ((fun h => h) h))), (show ((u_146.1 1) = 0) ∨ (((u_146.1 0) = 259)) from (Or.inr d146_1_0))⟩
          · have c_114 : 0 ≤ j110_S0 := i_nlt c_114
            have f_117_1 : iR j110_S0 0 24 := iR_leR c_114 (iR_c (n := 0) (a := 0) (b := 0) (by decide +kernel) (by decide +kernel)) hj110_S0 (by decide +kernel)
            refine lv_aload_n hx hb dX2_readWord_117 rfl (lv_at hl 1 rfl) ?_
            refine lv_sipush (v := 300) hx hb dX2_readWord_118 (by decide +kernel) ?_
            refine lv_iload hx hb dX2_readWord_121 (lv_at hl 0 rfl) ?_
            refine lv_iadd hx hb dX2_readWord_123 ?_
            refine lv_topi (fun y_123 ey_123 => ?_)
            have f_123_2 : iR y_123 300 324 := iR_add ey_123 (iR_c (n := 300) (a := 300) (b := 300) (by decide +kernel) (by decide +kernel)) f_117_1 (by decide +kernel)
            refine k_put (D := (dC, dI)) (ci := 2) (v := .int y_123) (C := RX2) (T := TX2) (N := 11) (ws' := [(a0, .inr (2, [.ref a0_0, .ref a0_1, .ref b0_2, .int v0_3, .int j4_F0_4, .int v0_5, .int y_123, .int v0_7, .int 7, .int v0_9, .int v0_10])), (a0_0, .inl (cI, 1600, .inl f0_0)), (a0_1, .inl (cJ, 25, .inr (.inl g0_1)))]) hx hb hts hinX2 tyX2 tyX2_ok nmX2 hown hK hP hD hS 0 rfl rfl 6 (by decide) w_3 rfl rfl rfl rfl (Nat.le_of_ble_eq_true rfl) rfl dX2_readWord_124 (fun H locs hP hD hS => ?_)
            refine lv_goto (tgt := 165) hx hb dX2_readWord_127 (by decide) ?_
            exact k_rv B hP hD hS dX2_readWord_165 ((fun k9 => match k9 with | 0 => j4_F0_4 | 1 => y_123 | 2 => v0_7 | 3 => v0_9 | 4 => v0_10 | _ => 0), (fun _ => 0), (fun _ => (fun _ => 0)), (fun _ => (fun _ => 0)), (fun _ => 0)) [0, 1, 2] rfl rfl (Nat.le_of_ble_eq_true rfl) (Nat.le_of_ble_eq_true rfl) ⟨(show iR j4_F0_4 0 1600 from hj4_F0_4), (show iR y_123 258 324 from (iR_w f_123_2 (by decide +kernel))), (show iR v0_9 0 6 from (iR_w hxv0_9 (by decide +kernel))), (show (0 : Int32) < v0_9 → (0 : Int32) < v0_9 from (fun h => h)), (show (v0_9 = 0) ∨ ((y_123 = 259)) from (Or.inl (i_eqc hxv0_9 (iR_c (n := 0) (a := 0) (b := 0) (by decide +kernel) (by decide +kernel)))))⟩
        refine lv_icmp_le (tgt := 105) hx hb dX2_readWord_98 (by decide) (fun c_98 => ?_) (fun c_98 => ?_)
        · have c_98 : y_91 ≤ 7 := c_98
          have f_105_2 : iR y_91 (-1600) 7 := iR_leL c_98 f_91_1 (iR_c (n := 7) (a := 7) (b := 7) (by decide +kernel) (by decide +kernel)) (by decide +kernel)
          refine lv_aload_n hx hb dX2_readWord_105 rfl (lv_at hl 1 rfl) ?_
          refine lv_lload_n hx hb dX2_readWord_106 rfl (lv_at hl 2 rfl) ?_
          refine k_ci (wc := [(a0, .inr (2, [.ref a0_0, .ref a0_1, .ref b0_2, .int v0_3, .int j4_F0_4, .int v0_5, .int v0_6, .int v0_7, .int 7, .int v0_9, .int v0_10])), (a0_1, .inl (cJ, 25, .inr (.inl g0_1)))]) (wr := [(a0_0, .inl (cI, 1600, .inl f0_0))]) (fun hPc hDc hFc => va_runV (As := [.long j4_L1]) (rest := []) ⟨hx, hb, hml, hown, hts⟩ (s_X2_ownIndex_v15 l dC dI cI cJ cZ cM a0 j4_L1 a0_0 a0_1 g0_1 b0_2 v0_3 j4_F0_4 v0_5 v0_6 v0_7 v0_9 v0_10 hv0_3 hj4_F0_4 hv0_5 hv0_6 (iR_w hxv0_9 (by decide +kernel)) H.size) (cwV 1 hts gX2_readWord_X2_ownIndex rfl rfl rfl (by decide +kernel) ⟨(Nat.le_of_ble_eq_true rfl), (Nat.le_of_ble_eq_true rfl)⟩) (k_pV hPc hDc hK hN hC hS hFc hP (q0 := 0) (ci := 2) rfl rfl) rfl rfl hl.1 rfl (lv_room (Nat.le_of_ble_eq_true rfl)) dX2_readWord_107 ⟨(Nat.le_of_ble_eq_true rfl), (Nat.le_of_ble_eq_true rfl)⟩) hP hD hS hA [0, 2] [1] rfl rfl rfl rfl (by decide) (fun _ => rfl) 0 0 rfl rfl (fun r_107 u_107 H locs hw hP hD hS => ?_)
          have g_107_0 := hw
          have hP : va_P (dC, dI) vwCl [(a0_0, .inl (cI, 1600, .inl f0_0)), (a0, .inr (2, [.ref a0_0, .ref a0_1, .ref b0_2, .int v0_3, .int j4_F0_4, .int v0_5, .int v0_6, .int v0_7, .int 7, .int v0_9, .int v0_10])), (a0_1, .inl (cJ, 25, .inr (.inl g0_1)))] H := hP
          have hD : va_D A [(a0_0, .inl (cI, 1600, .inl f0_0)), (a0, .inr (2, [.ref a0_0, .ref a0_1, .ref b0_2, .int v0_3, .int j4_F0_4, .int v0_5, .int v0_6, .int v0_7, .int 7, .int v0_9, .int v0_10])), (a0_1, .inl (cJ, 25, .inr (.inl g0_1)))] := hD
          exact J_110 r_107 g_107_0 H locs ls (hP.sub [1, 0, 2] rfl) (hD.sub [1, 0, 2] (by decide +kernel) rfl) hS (lv_sub hl [1, 2, 0] rfl)
        · have c_98 : 7 < y_91 := i_nle c_98
          have f_101_2 : iR y_91 8 1600 := iR_ltR c_98 (iR_c (n := 7) (a := 7) (b := 7) (by decide +kernel) (by decide +kernel)) f_91_1 (by decide +kernel)
          refine lv_iconst (v := (-1)) hx hb dX2_readWord_101 (by decide +kernel) ?_
          refine lv_goto (tgt := 110) hx hb dX2_readWord_102 (by decide) ?_
          exact J_110 (-1) (iR_c (n := (-1)) (a := (-1)) (b := 24) (by decide +kernel) (by decide +kernel)) H locs ls hP hD hS (lv_sub hl [1, 2, 0] rfl)
      refine lv_icmp_ge (tgt := 83) hx hb dX2_readWord_12 (by decide) (fun c_12 => ?_) (fun c_12 => ?_)
      · have c_12 : v0_3 ≤ j4_F0_4 := c_12
        exact J_83   H locs ls hP hD hS (lv_sub hl [0, 1] rfl)
      · have c_12 : j4_F0_4 < v0_3 := i_nle c_12
        have f_15_1 : iR j4_F0_4 0 1599 := iR_ltL c_12 hj4_F0_4 hv0_3 (by decide +kernel)
        have f_15_2 : iR v0_3 1 1600 := iR_ltR c_12 hj4_F0_4 hv0_3 (by decide +kernel)
        refine lv_aload_n hx hb dX2_readWord_15 rfl (lv_at hl 0 rfl) ?_
        refine k_get (D := (dC, dI)) (ci := 2) (v := .ref a0_0) (C := RX2) (T := TX2) (N := 11) hx hb hts hinX2 hown hK hP 0 rfl rfl 0 (by decide) w_5 rfl rfl dX2_readWord_16 ?_
        refine lv_aload_n hx hb dX2_readWord_19 rfl (lv_at hl 0 rfl) ?_
        refine k_get (D := (dC, dI)) (ci := 2) (v := .int j4_F0_4) (C := RX2) (T := TX2) (N := 11) hx hb hts hinX2 hown hK hP 0 rfl rfl 4 (by decide) w_0 rfl rfl dX2_readWord_20 ?_
        refine va_iald hx hb hK hP 1 0 rfl rfl (iR_vp f_15_1 (by decide +kernel)) dX2_readWord_23 ?_
        have f_23_3 : iR (f0_0 j4_F0_4.toNatClampNeg) 0 255 := hf0_0 _
        refine k_ci (wc := []) (wr := [(a0, .inr (2, [.ref a0_0, .ref a0_1, .ref b0_2, .int v0_3, .int j4_F0_4, .int v0_5, .int v0_6, .int v0_7, .int 7, .int v0_9, .int v0_10])), (a0_0, .inl (cI, 1600, .inl f0_0)), (a0_1, .inl (cJ, 25, .inr (.inl g0_1)))]) (fun hPc hDc hFc => va_runS (As := [.int (f0_0 j4_F0_4.toNatClampNeg)]) (rest := []) ⟨hx, hb, hml, hown, hts⟩ (s_X2_isLetter_v0 l dC dI cI cJ cZ cM (f0_0 j4_F0_4.toNatClampNeg) H.size) (va_cwS 1 hts gX2_readWord_X2_isLetter rfl rfl rfl (by decide +kernel) ⟨(Nat.le_of_ble_eq_true rfl), (Nat.le_of_ble_eq_true rfl)⟩) (k_pS hPc hDc hK hN hC hS hFc) rfl rfl hl.1 rfl (lv_room (Nat.le_of_ble_eq_true rfl)) dX2_readWord_24 ⟨(Nat.le_of_ble_eq_true rfl), (Nat.le_of_ble_eq_true rfl)⟩) hP hD hS hA [] [0, 1, 2] rfl rfl rfl rfl (by decide) (fun _ => rfl) 0 0 rfl rfl (fun r_24 u_24 H locs hw hP hD hS => ?_)
        have g_24_0 := hw
        have hP : va_P (dC, dI) vwCl [(a0, .inr (2, [.ref a0_0, .ref a0_1, .ref b0_2, .int v0_3, .int j4_F0_4, .int v0_5, .int v0_6, .int v0_7, .int 7, .int v0_9, .int v0_10])), (a0_0, .inl (cI, 1600, .inl f0_0)), (a0_1, .inl (cJ, 25, .inr (.inl g0_1)))] H := hP
        have hD : va_D A [(a0, .inr (2, [.ref a0_0, .ref a0_1, .ref b0_2, .int v0_3, .int j4_F0_4, .int v0_5, .int v0_6, .int v0_7, .int 7, .int v0_9, .int v0_10])), (a0_0, .inl (cI, 1600, .inl f0_0)), (a0_1, .inl (cJ, 25, .inr (.inl g0_1)))] := hD
        refine lv_if_eq (tgt := 83) hx hb dX2_readWord_27 (by decide) (fun c_27 => ?_) (fun c_27 => ?_)
        · have c_27 : r_24 = 0 := c_27
          have f_83_4 : iR r_24 0 0 := iR_eqL c_27 g_24_0 (iR_c (n := 0) (a := 0) (b := 0) (by decide +kernel) (by decide +kernel)) (by decide +kernel)
          exact J_83   H locs ls hP hD hS (lv_sub hl [0, 1] rfl)
        · have c_27 : ¬ r_24 = 0 := c_27
          have f_30_4 : iR r_24 1 1 := iR_neL c_27 g_24_0 (iR_c (n := 0) (a := 0) (b := 0) (by decide +kernel) (by decide +kernel)) (by decide +kernel)
          refine lv_aload_n hx hb dX2_readWord_30 rfl (lv_at hl 0 rfl) ?_
          refine k_get (D := (dC, dI)) (ci := 2) (v := .int j4_F0_4) (C := RX2) (T := TX2) (N := 11) hx hb hts hinX2 hown hK hP 0 rfl rfl 4 (by decide) w_0 rfl rfl dX2_readWord_31 ?_
          refine lv_aload_n hx hb dX2_readWord_34 rfl (lv_at hl 0 rfl) ?_
          refine k_get (D := (dC, dI)) (ci := 2) (v := .int v0_5) (C := RX2) (T := TX2) (N := 11) hx hb hts hinX2 hown hK hP 0 rfl rfl 5 (by decide) w_2 rfl rfl dX2_readWord_35 ?_
          refine lv_isub hx hb dX2_readWord_38 ?_
          refine lv_topi (fun y_38 ey_38 => ?_)
          have f_38_5 : iR y_38 (-1600) 1599 := iR_sub ey_38 f_15_1 hv0_5 (by decide +kernel)
          refine lv_bipush (v := 7) hx hb dX2_readWord_39 (by decide +kernel) ?_
          have J_70 : ∀ (j70_L1 : Int64) (j70_L3 : Int64)  (H : Heap) (locs : List Loc) (ls : Array Slot), va_P (dC, dI) vwCl [(a0, .inr (2, [.ref a0_0, .ref a0_1, .ref b0_2, .int v0_3, .int j4_F0_4, .int v0_5, .int v0_6, .int v0_7, .int 7, .int v0_9, .int v0_10])), (a0_0, .inl (cI, 1600, .inl f0_0)), (a0_1, .inl (cJ, 25, .inr (.inl g0_1)))] H → va_D A [(a0, .inr (2, [.ref a0_0, .ref a0_1, .ref b0_2, .int v0_3, .int j4_F0_4, .int v0_5, .int v0_6, .int v0_7, .int 7, .int v0_9, .int v0_10])), (a0_0, .inl (cI, 1600, .inl f0_0)), (a0_1, .inl (cJ, 25, .inr (.inl g0_1)))] → va_S A s.heap H locs → lv_has ls 7 [(0, .ref a0), (1, .long j70_L1), (3, .long j70_L3)] → W p l e ({ frames := 2, cells := 0, slots := 0, locals := 63 }) s m args below meth c H locs 0 0 (MQ below (va_Qv (fun (u9 : SU) => (iR (u9.1 0) 0 1600) ∧ (iR (u9.1 1) 258 324) ∧ (iR (u9.1 3) 0 6) ∧ ((0 : Int32) < v0_9 → (0 : Int32) < (u9.1 3)) ∧ (((u9.1 3) = 0) ∨ (((u9.1 1) = 259)))) (fun u => k_B (dC, dI) vwCl (tyy cI cJ cZ cM) A ((fun (u9 : SU) => [(a0, .inr (2, [.ref a0_0, .ref a0_1, .ref b0_2, .int v0_3, .int (u9.1 0), .int v0_5, .int (u9.1 1), .int (u9.1 2), .int 7, .int (u9.1 3), .int (u9.1 4)])), (a0_0, .inl (cI, 1600, .inl f0_0)), (a0_1, .inl (cJ, 25, .inr (.inl g0_1)))]) u)) A) args s 0 0 A) (F0 m 70 ls []) := by
            intro j70_L1 j70_L3  H locs ls hP hD hS hl
            refine lv_aload_n hx hb dX2_readWord_70 rfl (lv_at hl 0 rfl) ?_
            refine lv_dup hx hb dX2_readWord_71 rfl ?_
            refine k_get (D := (dC, dI)) (ci := 2) (v := .int j4_F0_4) (C := RX2) (T := TX2) (N := 11) hx hb hts hinX2 hown hK hP 0 rfl rfl 4 (by decide) w_0 rfl rfl dX2_readWord_72 ?_
            refine lv_iconst (v := 1) hx hb dX2_readWord_75 (by decide +kernel) ?_
            refine lv_iadd hx hb dX2_readWord_76 ?_
            refine lv_topi (fun y_76 ey_76 => ?_)
            have f_76_1 : iR y_76 1 1600 := iR_add ey_76 f_15_1 (iR_c (n := 1) (a := 1) (b := 1) (by decide +kernel) (by decide +kernel)) (by decide +kernel)
            refine k_put (D := (dC, dI)) (ci := 2) (v := .int y_76) (C := RX2) (T := TX2) (N := 11) (ws' := [(a0, .inr (2, [.ref a0_0, .ref a0_1, .ref b0_2, .int v0_3, .int y_76, .int v0_5, .int v0_6, .int v0_7, .int 7, .int v0_9, .int v0_10])), (a0_0, .inl (cI, 1600, .inl f0_0)), (a0_1, .inl (cJ, 25, .inr (.inl g0_1)))]) hx hb hts hinX2 tyX2 tyX2_ok nmX2 hown hK hP hD hS 0 rfl rfl 4 (by decide) w_0 rfl rfl rfl rfl (Nat.le_of_ble_eq_true rfl) rfl dX2_readWord_77 (fun H locs hP hD hS => ?_)
            refine lv_goto (tgt := 4) hx hb dX2_readWord_80 (by decide) ?_
            exact ih_4 y_76 j70_L1 j70_L3 (iR_w f_76_1 (by decide +kernel)) (m_up (B := 1600) hm_4 ey_76 f_15_1 (by decide +kernel)) H locs ls hP hD hS (lv_sub hl [0, 1, 2] rfl)
          refine lv_icmp_ge (tgt := 70) hx hb dX2_readWord_41 (by decide) (fun c_41 => ?_) (fun c_41 => ?_)
          · have c_41 : 7 ≤ y_38 := c_41
            have f_70_6 : iR y_38 7 1599 := iR_leR c_41 (iR_c (n := 7) (a := 7) (b := 7) (by decide +kernel) (by decide +kernel)) f_38_5 (by decide +kernel)
            exact J_70 j4_L1 j4_L3  H locs ls hP hD hS (lv_sub hl [0, 1, 2] rfl)
          · have c_41 : y_38 < 7 := i_nle c_41
            have f_44_6 : iR y_38 (-1600) 6 := iR_ltL c_41 f_38_5 (iR_c (n := 7) (a := 7) (b := 7) (by decide +kernel) (by decide +kernel)) (by decide +kernel)
            refine lv_lload_n hx hb dX2_readWord_44 rfl (lv_at hl 1 rfl) ?_
            refine lv_aload_n hx hb dX2_readWord_45 rfl (lv_at hl 0 rfl) ?_
            refine k_get (D := (dC, dI)) (ci := 2) (v := .ref a0_0) (C := RX2) (T := TX2) (N := 11) hx hb hts hinX2 hown hK hP 0 rfl rfl 0 (by decide) w_5 rfl rfl dX2_readWord_46 ?_
            refine lv_aload_n hx hb dX2_readWord_49 rfl (lv_at hl 0 rfl) ?_
            refine k_get (D := (dC, dI)) (ci := 2) (v := .int j4_F0_4) (C := RX2) (T := TX2) (N := 11) hx hb hts hinX2 hown hK hP 0 rfl rfl 4 (by decide) w_0 rfl rfl dX2_readWord_50 ?_
            refine va_iald hx hb hK hP 1 0 rfl rfl (iR_vp f_15_1 (by decide +kernel)) dX2_readWord_53 ?_
            refine lv_bipush (v := 97) hx hb dX2_readWord_54 (by decide +kernel) ?_
            refine lv_isub hx hb dX2_readWord_56 ?_
            refine lv_topi (fun y_56 ey_56 => ?_)
            have f_56_7 : iR y_56 (-97) 158 := iR_sub ey_56 f_23_3 (iR_c (n := 97) (a := 97) (b := 97) (by decide +kernel) (by decide +kernel)) (by decide +kernel)
            refine lv_iconst (v := 1) hx hb dX2_readWord_57 (by decide +kernel) ?_
            refine lv_iadd hx hb dX2_readWord_58 ?_
            refine lv_topi (fun y_58 ey_58 => ?_)
            have f_58_8 : iR y_58 (-96) 159 := iR_add ey_58 f_56_7 (iR_c (n := 1) (a := 1) (b := 1) (by decide +kernel) (by decide +kernel)) (by decide +kernel)
            refine lv_i2l (v := y_58.toInt64) hx hb dX2_readWord_59 rfl ?_
            refine lv_topl (fun y_59 ey_59 => ?_)
            refine lv_lload_n hx hb dX2_readWord_60 rfl (lv_at hl 2 rfl) ?_
            refine lv_lmul hx hb dX2_readWord_61 ?_
            refine lv_topl (fun y_61 ey_61 => ?_)
            refine lv_ladd hx hb dX2_readWord_62 ?_
            refine lv_topl (fun y_62 ey_62 => ?_)
            refine lv_lstore_n (lv' := [(1, .long y_62), (0, .ref a0), (3, .long j4_L3)]) hx hb dX2_readWord_63 rfl hl (by decide) rfl (fun ls hl => ?_)
            refine lv_lload_n hx hb dX2_readWord_64 rfl (lv_at hl 2 rfl) ?_
            refine lv_ldc2 (v := 27) hx hb hown w_6 dX2_readWord_65 ?_
            refine lv_lmul hx hb dX2_readWord_68 ?_
            refine lv_topl (fun y_68 ey_68 => ?_)
            refine lv_lstore_n (lv' := [(3, .long y_68), (1, .long y_62), (0, .ref a0)]) hx hb dX2_readWord_69 rfl hl (by decide) rfl (fun ls hl => ?_)
            exact J_70 y_62 y_68  H locs ls hP hD hS (lv_sub hl [2, 1, 0] rfl)
  refine lv_lstore_n (lv' := [(3, .long 1), (1, .long 0), (0, .ref a0)]) hx hb dX2_readWord_3 rfl hl (by decide) rfl (fun ls hl => ?_)
  exact J_4 _ v0_4 0 1 hv0_4 (Nat.lt_succ_self _) H locs ls hP hD hS (lv_sub hl [2, 1, 0] rfl)
set_option maxHeartbeats 8000000 in
set_option maxRecDepth 100000 in
theorem s_X2_step_v14 (l : Launch) (dC : Nat → ClassId) (dI : Nat → Nat → Nat) (cI cJ cZ cM : ClassId) (a0 : Nat) (a0_0 : Nat) (f0_0 : Nat → Int32) (a0_1 : Nat) (g0_1 : Nat → Int64) (a0_2 : Nat) (v0_3 : Int32) (v0_4 : Int32) (v0_5 : Int32) (v0_6 : Int32) (v0_7 : Int32) (v0_9 : Int32) (v0_10 : Int32) (hv0_3 : iR v0_3 0 1600) (hv0_4 : iR v0_4 0 1600) (hv0_5 : iR v0_5 0 1600) (hv0_6 : iR v0_6 0 324) (hv0_9 : iR v0_9 0 6) (hf0_0 : aR f0_0 0 255) (hpg0 : (v0_9 = 0) ∨ ((v0_6 = 259))) : k_Mv l yX2_step wsX2_step ({ frames := 3, cells := 0, slots := 0, locals := 89 }) (dC, dI) vwCl (tyy cI cJ cZ cM) [(a0, .inr (2, [.ref a0_0, .ref a0_1, .ref a0_2, .int v0_3, .int v0_4, .int v0_5, .int v0_6, .int v0_7, .int 7, .int v0_9, .int v0_10])), (a0_0, .inl (cI, 1600, .inl f0_0)), (a0_1, .inl (cJ, 25, .inr (.inl g0_1)))] [.ref a0] 0 0 (fun (u9 : SU) => [(a0, .inr (2, [.ref a0_0, .ref a0_1, .ref a0_2, .int v0_3, .int (u9.1 0), .int (u9.1 1), .int (u9.1 2), .int (u9.1 3), .int 7, .int (u9.1 4), .int (u9.1 5)])), (a0_0, .inl (cI, 1600, .inl f0_0)), (a0_1, .inl (cJ, 25, .inr (.inl g0_1)))]) (fun (u9 : SU) => (iR (u9.1 0) 0 1600) ∧ (iR (u9.1 1) 0 1600) ∧ (iR (u9.1 2) 0 324) ∧ (iR (u9.1 4) 0 6) ∧ ((0 : Int32) < v0_9 → (0 : Int32) < (u9.1 4)) ∧ (((u9.1 4) = 0) ∨ (((u9.1 2) = 259)))) := by
  refine fun sz => k_enter (cc := cX2_step) (maxL := 3) (ret := none) (Qc := fun A => va_Qv (fun (u9 : SU) => (iR (u9.1 0) 0 1600) ∧ (iR (u9.1 1) 0 1600) ∧ (iR (u9.1 2) 0 324) ∧ (iR (u9.1 4) 0 6) ∧ ((0 : Int32) < v0_9 → (0 : Int32) < (u9.1 4)) ∧ (((u9.1 4) = 0) ∨ (((u9.1 2) = 259)))) (fun u => k_B (dC, dI) vwCl (tyy cI cJ cZ cM) A ((fun (u9 : SU) => [(a0, .inr (2, [.ref a0_0, .ref a0_1, .ref a0_2, .int v0_3, .int (u9.1 0), .int (u9.1 1), .int (u9.1 2), .int (u9.1 3), .int 7, .int (u9.1 4), .int (u9.1 5)])), (a0_0, .inl (cI, 1600, .inl f0_0)), (a0_1, .inl (cJ, 25, .inr (.inl g0_1)))]) u)) A) sz (by decide +kernel) rfl (Nat.le_of_ble_eq_true rfl) (fun p e s m args below meth c A ls H locs B hP hD hS hl => ?_)
  obtain ⟨hx, hb, hml, hown, hts, hr, hlk, hnm, hK, hA, hN, hC⟩ := id B
  have hown : s.vm.findClass RX2 = some m.cls := hown
  have hl : lv_has ls 3 [(0, .ref a0)] := hl
  have w_0 : (Cond.fieldLink RX2 63 "WishSea$Reader" "fault" "I").before args s = true := hts _ (List.mem_of_getElem? (i := 1) rfl)
  have w_1 : (Cond.fieldLink RX2 57 "WishSea$Reader" "position" "I").before args s = true := hts _ (List.mem_of_getElem? (i := 2) rfl)
  have w_2 : (Cond.fieldLink RX2 15 "WishSea$Reader" "token" "I").before args s = true := hts _ (List.mem_of_getElem? (i := 3) rfl)
  have w_3 : (Cond.fieldLink RX2 55 "WishSea$Reader" "length" "I").before args s = true := hts _ (List.mem_of_getElem? (i := 4) rfl)
  have w_4 : (Cond.fieldLink RX2 73 "WishSea$Reader" "start" "I").before args s = true := hts _ (List.mem_of_getElem? (i := 6) rfl)
  have w_5 : (Cond.fieldLink RX2 22 "WishSea$Reader" "text" "[I").before args s = true := hts _ (List.mem_of_getElem? (i := 5) rfl)
  have hinX2 : ∀ w ∈ u_ws RX2 TX2 11, w ∈ wsX2_step := fun _ h => List.mem_cons_of_mem _ (List.mem_append_right _ h)
  refine lv_aload_n hx hb dX2_step_0 rfl (lv_at hl 0 rfl) ?_
  refine k_get (D := (dC, dI)) (ci := 2) (v := .int v0_9) (C := RX2) (T := TX2) (N := 11) hx hb hts hinX2 hown hK hP 0 rfl rfl 9 (by decide) w_0 rfl rfl dX2_step_1 ?_
  refine lv_if_eq (tgt := 8) hx hb dX2_step_4 (by decide) (fun c_4 => ?_) (fun c_4 => ?_)
  · have c_4 : v0_9 = 0 := c_4
    have f_8_1 : iR v0_9 0 0 := iR_eqL c_4 hv0_9 (iR_c (n := 0) (a := 0) (b := 0) (by decide +kernel) (by decide +kernel)) (by decide +kernel)
    refine lv_aload_n hx hb dX2_step_8 rfl (lv_at hl 0 rfl) ?_
    refine k_get (D := (dC, dI)) (ci := 2) (v := .int v0_4) (C := RX2) (T := TX2) (N := 11) hx hb hts hinX2 hown hK hP 0 rfl rfl 4 (by decide) w_1 rfl rfl dX2_step_9 ?_
    refine lv_istore_n (lv' := [(1, .int v0_4), (0, .ref a0)]) hx hb dX2_step_12 rfl hl (by decide) rfl (fun ls hl => ?_)
    refine lv_aload_n hx hb dX2_step_13 rfl (lv_at hl 1 rfl) ?_
    refine k_get (D := (dC, dI)) (ci := 2) (v := .int v0_6) (C := RX2) (T := TX2) (N := 11) hx hb hts hinX2 hown hK hP 0 rfl rfl 6 (by decide) w_2 rfl rfl dX2_step_14 ?_
    refine k_ci (wc := []) (wr := [(a0, .inr (2, [.ref a0_0, .ref a0_1, .ref a0_2, .int v0_3, .int v0_4, .int v0_5, .int v0_6, .int v0_7, .int 7, .int v0_9, .int v0_10])), (a0_0, .inl (cI, 1600, .inl f0_0)), (a0_1, .inl (cJ, 25, .inr (.inl g0_1)))]) (fun hPc hDc hFc => va_runS (As := [.int v0_6]) (rest := []) ⟨hx, hb, hml, hown, hts⟩ (s_X2_isWhole_v0 l dC dI cI cJ cZ cM v0_6 H.size) (va_cwS 1 hts gX2_step_X2_isWhole rfl rfl rfl (by decide +kernel) ⟨(Nat.le_of_ble_eq_true rfl), (Nat.le_of_ble_eq_true rfl)⟩) (k_pS hPc hDc hK hN hC hS hFc) rfl rfl hl.1 rfl (lv_room (Nat.le_of_ble_eq_true rfl)) dX2_step_17 ⟨(Nat.le_of_ble_eq_true rfl), (Nat.le_of_ble_eq_true rfl)⟩) hP hD hS hA [] [0, 1, 2] rfl rfl rfl rfl (by decide) (fun _ => rfl) 0 0 rfl rfl (fun r_17 u_17 H locs hw hP hD hS => ?_)
    have g_17_0 := hw
    have hP : va_P (dC, dI) vwCl [(a0, .inr (2, [.ref a0_0, .ref a0_1, .ref a0_2, .int v0_3, .int v0_4, .int v0_5, .int v0_6, .int v0_7, .int 7, .int v0_9, .int v0_10])), (a0_0, .inl (cI, 1600, .inl f0_0)), (a0_1, .inl (cJ, 25, .inr (.inl g0_1)))] H := hP
    have hD : va_D A [(a0, .inr (2, [.ref a0_0, .ref a0_1, .ref a0_2, .int v0_3, .int v0_4, .int v0_5, .int v0_6, .int v0_7, .int 7, .int v0_9, .int v0_10])), (a0_0, .inl (cI, 1600, .inl f0_0)), (a0_1, .inl (cJ, 25, .inr (.inl g0_1)))] := hD
    have J_21 : ∀ (n_21 : Nat) (j21_F0_4 : Int32) (hj21_F0_4 : iR j21_F0_4 0 1600) (hm_21 : (1600 - j21_F0_4.toInt).toNat < n_21) (H : Heap) (locs : List Loc) (ls : Array Slot), va_P (dC, dI) vwCl [(a0, .inr (2, [.ref a0_0, .ref a0_1, .ref a0_2, .int v0_3, .int j21_F0_4, .int v0_5, .int v0_6, .int v0_7, .int 7, .int v0_9, .int v0_10])), (a0_0, .inl (cI, 1600, .inl f0_0)), (a0_1, .inl (cJ, 25, .inr (.inl g0_1)))] H → va_D A [(a0, .inr (2, [.ref a0_0, .ref a0_1, .ref a0_2, .int v0_3, .int j21_F0_4, .int v0_5, .int v0_6, .int v0_7, .int 7, .int v0_9, .int v0_10])), (a0_0, .inl (cI, 1600, .inl f0_0)), (a0_1, .inl (cJ, 25, .inr (.inl g0_1)))] → va_S A s.heap H locs → lv_has ls 3 [(0, .ref a0), (1, .int v0_4), (2, .int r_17)] → W p l e ({ frames := 3, cells := 0, slots := 0, locals := 89 }) s m args below meth c H locs 0 0 (MQ below (va_Qv (fun (u9 : SU) => (iR (u9.1 0) 0 1600) ∧ (iR (u9.1 1) 0 1600) ∧ (iR (u9.1 2) 0 324) ∧ (iR (u9.1 4) 0 6) ∧ ((0 : Int32) < v0_9 → (0 : Int32) < (u9.1 4)) ∧ (((u9.1 4) = 0) ∨ (((u9.1 2) = 259)))) (fun u => k_B (dC, dI) vwCl (tyy cI cJ cZ cM) A ((fun (u9 : SU) => [(a0, .inr (2, [.ref a0_0, .ref a0_1, .ref a0_2, .int v0_3, .int (u9.1 0), .int (u9.1 1), .int (u9.1 2), .int (u9.1 3), .int 7, .int (u9.1 4), .int (u9.1 5)])), (a0_0, .inl (cI, 1600, .inl f0_0)), (a0_1, .inl (cJ, 25, .inr (.inl g0_1)))]) u)) A) args s 0 0 A) (F0 m 21 ls []) := by
      intro n_21
      induction n_21 with
      | zero => intro j21_F0_4 hj21_F0_4 hm_21; exact absurd hm_21 (Nat.not_lt_zero _)
      | succ n_21 ih_21 =>
        intro j21_F0_4 hj21_F0_4 hm_21 H locs ls hP hD hS hl
        refine lv_aload_n hx hb dX2_step_21 rfl (lv_at hl 0 rfl) ?_
        refine k_get (D := (dC, dI)) (ci := 2) (v := .int j21_F0_4) (C := RX2) (T := TX2) (N := 11) hx hb hts hinX2 hown hK hP 0 rfl rfl 4 (by decide) w_1 rfl rfl dX2_step_22 ?_
        refine lv_aload_n hx hb dX2_step_25 rfl (lv_at hl 0 rfl) ?_
        refine k_get (D := (dC, dI)) (ci := 2) (v := .int v0_3) (C := RX2) (T := TX2) (N := 11) hx hb hts hinX2 hown hK hP 0 rfl rfl 3 (by decide) w_3 rfl rfl dX2_step_26 ?_
        have J_73 : ∀   (H : Heap) (locs : List Loc) (ls : Array Slot), va_P (dC, dI) vwCl [(a0, .inr (2, [.ref a0_0, .ref a0_1, .ref a0_2, .int v0_3, .int j21_F0_4, .int v0_5, .int v0_6, .int v0_7, .int 7, .int v0_9, .int v0_10])), (a0_0, .inl (cI, 1600, .inl f0_0)), (a0_1, .inl (cJ, 25, .inr (.inl g0_1)))] H → va_D A [(a0, .inr (2, [.ref a0_0, .ref a0_1, .ref a0_2, .int v0_3, .int j21_F0_4, .int v0_5, .int v0_6, .int v0_7, .int 7, .int v0_9, .int v0_10])), (a0_0, .inl (cI, 1600, .inl f0_0)), (a0_1, .inl (cJ, 25, .inr (.inl g0_1)))] → va_S A s.heap H locs → lv_has ls 3 [(0, .ref a0), (1, .int v0_4), (2, .int r_17)] → W p l e ({ frames := 3, cells := 0, slots := 0, locals := 89 }) s m args below meth c H locs 0 0 (MQ below (va_Qv (fun (u9 : SU) => (iR (u9.1 0) 0 1600) ∧ (iR (u9.1 1) 0 1600) ∧ (iR (u9.1 2) 0 324) ∧ (iR (u9.1 4) 0 6) ∧ ((0 : Int32) < v0_9 → (0 : Int32) < (u9.1 4)) ∧ (((u9.1 4) = 0) ∨ (((u9.1 2) = 259)))) (fun u => k_B (dC, dI) vwCl (tyy cI cJ cZ cM) A ((fun (u9 : SU) => [(a0, .inr (2, [.ref a0_0, .ref a0_1, .ref a0_2, .int v0_3, .int (u9.1 0), .int (u9.1 1), .int (u9.1 2), .int (u9.1 3), .int 7, .int (u9.1 4), .int (u9.1 5)])), (a0_0, .inl (cI, 1600, .inl f0_0)), (a0_1, .inl (cJ, 25, .inr (.inl g0_1)))]) u)) A) args s 0 0 A) (F0 m 73 ls []) := by
          intro   H locs ls hP hD hS hl
          refine lv_aload_n hx hb dX2_step_73 rfl (lv_at hl 0 rfl) ?_
          refine lv_aload_n hx hb dX2_step_74 rfl (lv_at hl 0 rfl) ?_
          refine k_get (D := (dC, dI)) (ci := 2) (v := .int j21_F0_4) (C := RX2) (T := TX2) (N := 11) hx hb hts hinX2 hown hK hP 0 rfl rfl 4 (by decide) w_1 rfl rfl dX2_step_75 ?_
          refine k_put (D := (dC, dI)) (ci := 2) (v := .int j21_F0_4) (C := RX2) (T := TX2) (N := 11) (ws' := [(a0, .inr (2, [.ref a0_0, .ref a0_1, .ref a0_2, .int v0_3, .int j21_F0_4, .int j21_F0_4, .int v0_6, .int v0_7, .int 7, .int v0_9, .int v0_10])), (a0_0, .inl (cI, 1600, .inl f0_0)), (a0_1, .inl (cJ, 25, .inr (.inl g0_1)))]) hx hb hts hinX2 tyX2 tyX2_ok nmX2 hown hK hP hD hS 0 rfl rfl 5 (by decide) w_4 rfl rfl rfl rfl (Nat.le_of_ble_eq_true rfl) rfl dX2_step_78 (fun H locs hP hD hS => ?_)
          refine lv_aload_n hx hb dX2_step_81 rfl (lv_at hl 0 rfl) ?_
          refine k_get (D := (dC, dI)) (ci := 2) (v := .int j21_F0_4) (C := RX2) (T := TX2) (N := 11) hx hb hts hinX2 hown hK hP 0 rfl rfl 4 (by decide) w_1 rfl rfl dX2_step_82 ?_
          refine lv_aload_n hx hb dX2_step_85 rfl (lv_at hl 0 rfl) ?_
          refine k_get (D := (dC, dI)) (ci := 2) (v := .int v0_3) (C := RX2) (T := TX2) (N := 11) hx hb hts hinX2 hown hK hP 0 rfl rfl 3 (by decide) w_3 rfl rfl dX2_step_86 ?_
          have J_169 : ∀ (j169_F0_4 : Int32) (j169_F0_6 : Int32) (j169_F0_7 : Int32) (j169_F0_9 : Int32) (j169_F0_10 : Int32) (hj169_F0_4 : iR j169_F0_4 0 1600) (hj169_F0_6 : iR j169_F0_6 0 324) (hj169_F0_9 : iR j169_F0_9 0 6) (t169_xf : (0 : Int32) < v0_9 → (0 : Int32) < j169_F0_9) (w169_0 : (j169_F0_9 = 0) ∨ ((j169_F0_6 = 259))) (H : Heap) (locs : List Loc) (ls : Array Slot), va_P (dC, dI) vwCl [(a0, .inr (2, [.ref a0_0, .ref a0_1, .ref a0_2, .int v0_3, .int j169_F0_4, .int j21_F0_4, .int j169_F0_6, .int j169_F0_7, .int 7, .int j169_F0_9, .int j169_F0_10])), (a0_0, .inl (cI, 1600, .inl f0_0)), (a0_1, .inl (cJ, 25, .inr (.inl g0_1)))] H → va_D A [(a0, .inr (2, [.ref a0_0, .ref a0_1, .ref a0_2, .int v0_3, .int j169_F0_4, .int j21_F0_4, .int j169_F0_6, .int j169_F0_7, .int 7, .int j169_F0_9, .int j169_F0_10])), (a0_0, .inl (cI, 1600, .inl f0_0)), (a0_1, .inl (cJ, 25, .inr (.inl g0_1)))] → va_S A s.heap H locs → lv_has ls 3 [(0, .ref a0), (1, .int v0_4), (2, .int r_17)] → W p l e ({ frames := 3, cells := 0, slots := 0, locals := 89 }) s m args below meth c H locs 0 0 (MQ below (va_Qv (fun (u9 : SU) => (iR (u9.1 0) 0 1600) ∧ (iR (u9.1 1) 0 1600) ∧ (iR (u9.1 2) 0 324) ∧ (iR (u9.1 4) 0 6) ∧ ((0 : Int32) < v0_9 → (0 : Int32) < (u9.1 4)) ∧ (((u9.1 4) = 0) ∨ (((u9.1 2) = 259)))) (fun u => k_B (dC, dI) vwCl (tyy cI cJ cZ cM) A ((fun (u9 : SU) => [(a0, .inr (2, [.ref a0_0, .ref a0_1, .ref a0_2, .int v0_3, .int (u9.1 0), .int (u9.1 1), .int (u9.1 2), .int (u9.1 3), .int 7, .int (u9.1 4), .int (u9.1 5)])), (a0_0, .inl (cI, 1600, .inl f0_0)), (a0_1, .inl (cJ, 25, .inr (.inl g0_1)))]) u)) A) args s 0 0 A) (F0 m 169 ls []) := by
            intro j169_F0_4 j169_F0_6 j169_F0_7 j169_F0_9 j169_F0_10 hj169_F0_4 hj169_F0_6 hj169_F0_9 t169_xf w169_0 H locs ls hP hD hS hl
            refine lv_iload_n hx hb dX2_step_169 rfl (lv_at hl 2 rfl) ?_
            refine lv_if_eq (tgt := 200) hx hb dX2_step_170 (by decide) (fun c_170 => ?_) (fun c_170 => ?_)
            · have c_170 : r_17 = 0 := c_170
              have f_200_1 : iR r_17 0 0 := iR_eqL c_170 g_17_0 (iR_c (n := 0) (a := 0) (b := 0) (by decide +kernel) (by decide +kernel)) (by decide +kernel)
              exact k_rv B hP hD hS dX2_step_200 ((fun k9 => match k9 with | 0 => j169_F0_4 | 1 => j21_F0_4 | 2 => j169_F0_6 | 3 => j169_F0_7 | 4 => j169_F0_9 | 5 => j169_F0_10 | _ => 0), (fun _ => 0), (fun _ => (fun _ => 0)), (fun _ => (fun _ => 0)), (fun _ => 0)) [0, 1, 2] rfl rfl (Nat.le_of_ble_eq_true rfl) (Nat.le_of_ble_eq_true rfl) ⟨(show iR j169_F0_4 0 1600 from hj169_F0_4), (show iR j21_F0_4 0 1600 from hj21_F0_4), (show iR j169_F0_6 0 324 from hj169_F0_6), (show iR j169_F0_9 0 6 from hj169_F0_9), (show (0 : Int32) < v0_9 → (0 : Int32) < j169_F0_9 from t169_xf), (show (j169_F0_9 = 0) ∨ ((j169_F0_6 = 259)) from w169_0)⟩
            · have c_170 : ¬ r_17 = 0 := c_170
              have f_173_1 : iR r_17 1 1 := iR_neL c_170 g_17_0 (iR_c (n := 0) (a := 0) (b := 0) (by decide +kernel) (by decide +kernel)) (by decide +kernel)
              refine lv_aload_n hx hb dX2_step_173 rfl (lv_at hl 0 rfl) ?_
              refine k_get (D := (dC, dI)) (ci := 2) (v := .int j21_F0_4) (C := RX2) (T := TX2) (N := 11) hx hb hts hinX2 hown hK hP 0 rfl rfl 5 (by decide) w_4 rfl rfl dX2_step_174 ?_
              refine lv_iload_n hx hb dX2_step_177 rfl (lv_at hl 1 rfl) ?_
              refine lv_icmp_ne (tgt := 200) hx hb dX2_step_178 (by decide) (fun c_178 => ?_) (fun c_178 => ?_)
              · have c_178 : ¬ j21_F0_4 = v0_4 := c_178
                exact k_rv B hP hD hS dX2_step_200 ((fun k9 => match k9 with | 0 => j169_F0_4 | 1 => j21_F0_4 | 2 => j169_F0_6 | 3 => j169_F0_7 | 4 => j169_F0_9 | 5 => j169_F0_10 | _ => 0), (fun _ => 0), (fun _ => (fun _ => 0)), (fun _ => (fun _ => 0)), (fun _ => 0)) [0, 1, 2] rfl rfl (Nat.le_of_ble_eq_true rfl) (Nat.le_of_ble_eq_true rfl) ⟨(show iR j169_F0_4 0 1600 from hj169_F0_4), (show iR j21_F0_4 0 1600 from hj21_F0_4), (show iR j169_F0_6 0 324 from hj169_F0_6), (show iR j169_F0_9 0 6 from hj169_F0_9), (show (0 : Int32) < v0_9 → (0 : Int32) < j169_F0_9 from t169_xf), (show (j169_F0_9 = 0) ∨ ((j169_F0_6 = 259)) from w169_0)⟩
              · have c_178 : j21_F0_4 = v0_4 := c_178
                refine lv_aload_n hx hb dX2_step_181 rfl (lv_at hl 0 rfl) ?_
                refine k_get (D := (dC, dI)) (ci := 2) (v := .int j169_F0_6) (C := RX2) (T := TX2) (N := 11) hx hb hts hinX2 hown hK hP 0 rfl rfl 6 (by decide) w_2 rfl rfl dX2_step_182 ?_
                refine k_ci (wc := []) (wr := [(a0, .inr (2, [.ref a0_0, .ref a0_1, .ref a0_2, .int v0_3, .int j169_F0_4, .int j21_F0_4, .int j169_F0_6, .int j169_F0_7, .int 7, .int j169_F0_9, .int j169_F0_10])), (a0_0, .inl (cI, 1600, .inl f0_0)), (a0_1, .inl (cJ, 25, .inr (.inl g0_1)))]) (fun hPc hDc hFc => va_runS (As := [.int j169_F0_6]) (rest := []) ⟨hx, hb, hml, hown, hts⟩ (s_X2_isWhole_v0 l dC dI cI cJ cZ cM j169_F0_6 H.size) (va_cwS 1 hts gX2_step_X2_isWhole rfl rfl rfl (by decide +kernel) ⟨(Nat.le_of_ble_eq_true rfl), (Nat.le_of_ble_eq_true rfl)⟩) (k_pS hPc hDc hK hN hC hS hFc) rfl rfl hl.1 rfl (lv_room (Nat.le_of_ble_eq_true rfl)) dX2_step_185 ⟨(Nat.le_of_ble_eq_true rfl), (Nat.le_of_ble_eq_true rfl)⟩) hP hD hS hA [] [0, 1, 2] rfl rfl rfl rfl (by decide) (fun _ => rfl) 0 0 rfl rfl (fun r_185 u_185 H locs hw hP hD hS => ?_)
                have g_185_0 := hw
                have hP : va_P (dC, dI) vwCl [(a0, .inr (2, [.ref a0_0, .ref a0_1, .ref a0_2, .int v0_3, .int j169_F0_4, .int j21_F0_4, .int j169_F0_6, .int j169_F0_7, .int 7, .int j169_F0_9, .int j169_F0_10])), (a0_0, .inl (cI, 1600, .inl f0_0)), (a0_1, .inl (cJ, 25, .inr (.inl g0_1)))] H := hP
                have hD : va_D A [(a0, .inr (2, [.ref a0_0, .ref a0_1, .ref a0_2, .int v0_3, .int j169_F0_4, .int j21_F0_4, .int j169_F0_6, .int j169_F0_7, .int 7, .int j169_F0_9, .int j169_F0_10])), (a0_0, .inl (cI, 1600, .inl f0_0)), (a0_1, .inl (cJ, 25, .inr (.inl g0_1)))] := hD
                refine lv_if_eq (tgt := 200) hx hb dX2_step_188 (by decide) (fun c_188 => ?_) (fun c_188 => ?_)
                · have c_188 : r_185 = 0 := c_188
                  have f_200_2 : iR r_185 0 0 := iR_eqL c_188 g_185_0 (iR_c (n := 0) (a := 0) (b := 0) (by decide +kernel) (by decide +kernel)) (by decide +kernel)
                  exact k_rv B hP hD hS dX2_step_200 ((fun k9 => match k9 with | 0 => j169_F0_4 | 1 => j21_F0_4 | 2 => j169_F0_6 | 3 => j169_F0_7 | 4 => j169_F0_9 | 5 => j169_F0_10 | _ => 0), (fun _ => 0), (fun _ => (fun _ => 0)), (fun _ => (fun _ => 0)), (fun _ => 0)) [0, 1, 2] rfl rfl (Nat.le_of_ble_eq_true rfl) (Nat.le_of_ble_eq_true rfl) ⟨(show iR j169_F0_4 0 1600 from hj169_F0_4), (show iR j21_F0_4 0 1600 from hj21_F0_4), (show iR j169_F0_6 0 324 from hj169_F0_6), (show iR j169_F0_9 0 6 from hj169_F0_9), (show (0 : Int32) < v0_9 → (0 : Int32) < j169_F0_9 from t169_xf), (show (j169_F0_9 = 0) ∨ ((j169_F0_6 = 259)) from w169_0)⟩
                · have c_188 : ¬ r_185 = 0 := c_188
                  have f_191_2 : iR r_185 1 1 := iR_neL c_188 g_185_0 (iR_c (n := 0) (a := 0) (b := 0) (by decide +kernel) (by decide +kernel)) (by decide +kernel)
                  refine lv_aload_n hx hb dX2_step_191 rfl (lv_at hl 0 rfl) ?_
                  refine lv_iconst (v := 1) hx hb dX2_step_192 (by decide +kernel) ?_
                  refine lv_aload_n hx hb dX2_step_193 rfl (lv_at hl 0 rfl) ?_
                  refine k_get (D := (dC, dI)) (ci := 2) (v := .int j21_F0_4) (C := RX2) (T := TX2) (N := 11) hx hb hts hinX2 hown hK hP 0 rfl rfl 5 (by decide) w_4 rfl rfl dX2_step_194 ?_
                  refine k_cv (wc := [(a0, .inr (2, [.ref a0_0, .ref a0_1, .ref a0_2, .int v0_3, .int j169_F0_4, .int j21_F0_4, .int j169_F0_6, .int j169_F0_7, .int 7, .int j169_F0_9, .int j169_F0_10]))]) (wr := [(a0_0, .inl (cI, 1600, .inl f0_0)), (a0_1, .inl (cJ, 25, .inr (.inl g0_1)))]) (fun hPc hDc hFc => va_runV (As := [.int 1, .int j21_F0_4]) (rest := []) ⟨hx, hb, hml, hown, hts⟩ (s_X2_blame_v23 l dC dI cI cJ cZ cM a0 1 j21_F0_4 a0_0 a0_1 a0_2 v0_3 j169_F0_4 j21_F0_4 j169_F0_6 j169_F0_7 j169_F0_9 j169_F0_10 (iR_c (n := 1) (a := 1) (b := 6) (by decide +kernel) (by decide +kernel)) hv0_3 hj169_F0_4 hj21_F0_4 hj169_F0_6 hj169_F0_9 w169_0 H.size) (cwV 2 hts gX2_step_X2_blame rfl rfl rfl (by decide +kernel) ⟨(Nat.le_of_ble_eq_true rfl), (Nat.le_of_ble_eq_true rfl)⟩) (k_pV hPc hDc hK hN hC hS hFc hP (q0 := 0) (ci := 2) rfl rfl) rfl rfl hl.1 rfl (lv_room (Nat.le_of_ble_eq_true rfl)) dX2_step_197 ⟨(Nat.le_of_ble_eq_true rfl), (Nat.le_of_ble_eq_true rfl)⟩) hP hD hS hA [0] [1, 2] rfl rfl rfl rfl (by decide) (fun _ => rfl) 0 0 rfl rfl (fun u_197 H locs hw hP hD hS => ?_)
                  obtain ⟨g_197_0, g_197_1, g_197_2, g_197_3⟩ := hw
                  have hP : va_P (dC, dI) vwCl [(a0_0, .inl (cI, 1600, .inl f0_0)), (a0_1, .inl (cJ, 25, .inr (.inl g0_1))), (a0, .inr (2, [.ref a0_0, .ref a0_1, .ref a0_2, .int v0_3, .int j169_F0_4, .int j21_F0_4, .int (u_197.1 0), .int j169_F0_7, .int 7, .int (u_197.1 1), .int (u_197.1 2)]))] H := hP
                  have hD : va_D A [(a0_0, .inl (cI, 1600, .inl f0_0)), (a0_1, .inl (cJ, 25, .inr (.inl g0_1))), (a0, .inr (2, [.ref a0_0, .ref a0_1, .ref a0_2, .int v0_3, .int j169_F0_4, .int j21_F0_4, .int (u_197.1 0), .int j169_F0_7, .int 7, .int (u_197.1 1), .int (u_197.1 2)]))] := hD
                  have g_197_2 : (0 : Int32) < j169_F0_9 → (0 : Int32) < (u_197.1 1) := g_197_2
                  have g_197_3 : ((u_197.1 1) = 0) ∨ (((u_197.1 0) = 259)) := g_197_3
                  obtain d197_1_0 := g_197_3.resolve_left (i_nef g_197_1 (iR_c (n := 0) (a := 0) (b := 0) (by decide +kernel) (by decide +kernel)) (by decide +kernel))
                  exact k_rv B hP hD hS dX2_step_200 ((fun k9 => match k9 with | 0 => j169_F0_4 | 1 => j21_F0_4 | 2 => (u_197.1 0) | 3 => j169_F0_7 | 4 => (u_197.1 1) | 5 => (u_197.1 2) | _ => 0), (fun _ => 0), (fun _ => (fun _ => 0)), (fun _ => (fun _ => 0)), (fun _ => 0)) [2, 0, 1] rfl rfl (Nat.le_of_ble_eq_true rfl) (Nat.le_of_ble_eq_true rfl) ⟨(show iR j169_F0_4 0 1600 from hj169_F0_4), (show iR j21_F0_4 0 1600 from hj21_F0_4), (show iR (u_197.1 0) 0 324 from (iR_w g_197_0 (by decide +kernel))), (show iR (u_197.1 1) 0 6 from (iR_w g_197_1 (by decide +kernel))), (show (0 : Int32) < v0_9 → (0 : Int32) < (u_197.1 1) from (fun h => g_197_2 (t169_xf h))), (show ((u_197.1 1) = 0) ∨ (((u_197.1 0) = 259)) from (Or.inr d197_1_0))⟩
          refine lv_icmp_lt (tgt := 102) hx hb dX2_step_89 (by decide) (fun c_89 => ?_) (fun c_89 => ?_)
          · have c_89 : j21_F0_4 < v0_3 := c_89
            have f_102_1 : iR j21_F0_4 0 1599 := iR_ltL c_89 hj21_F0_4 hv0_3 (by decide +kernel)
            have f_102_2 : iR v0_3 1 1600 := iR_ltR c_89 hj21_F0_4 hv0_3 (by decide +kernel)
            refine lv_aload_n hx hb dX2_step_102 rfl (lv_at hl 0 rfl) ?_
            refine k_get (D := (dC, dI)) (ci := 2) (v := .ref a0_0) (C := RX2) (T := TX2) (N := 11) hx hb hts hinX2 hown hK hP 0 rfl rfl 0 (by decide) w_5 rfl rfl dX2_step_103 ?_
            refine lv_aload_n hx hb dX2_step_106 rfl (lv_at hl 0 rfl) ?_
            refine k_get (D := (dC, dI)) (ci := 2) (v := .int j21_F0_4) (C := RX2) (T := TX2) (N := 11) hx hb hts hinX2 hown hK hP 0 rfl rfl 4 (by decide) w_1 rfl rfl dX2_step_107 ?_
            refine va_iald hx hb hK hP 1 0 rfl rfl (iR_vp f_102_1 (by decide +kernel)) dX2_step_110 ?_
            have f_110_3 : iR (f0_0 j21_F0_4.toNatClampNeg) 0 255 := hf0_0 _
            refine k_ci (wc := []) (wr := [(a0, .inr (2, [.ref a0_0, .ref a0_1, .ref a0_2, .int v0_3, .int j21_F0_4, .int j21_F0_4, .int v0_6, .int v0_7, .int 7, .int v0_9, .int v0_10])), (a0_0, .inl (cI, 1600, .inl f0_0)), (a0_1, .inl (cJ, 25, .inr (.inl g0_1)))]) (fun hPc hDc hFc => va_runS (As := [.int (f0_0 j21_F0_4.toNatClampNeg)]) (rest := []) ⟨hx, hb, hml, hown, hts⟩ (s_X2_isLetter_v0 l dC dI cI cJ cZ cM (f0_0 j21_F0_4.toNatClampNeg) H.size) (va_cwS 1 hts gX2_step_X2_isLetter rfl rfl rfl (by decide +kernel) ⟨(Nat.le_of_ble_eq_true rfl), (Nat.le_of_ble_eq_true rfl)⟩) (k_pS hPc hDc hK hN hC hS hFc) rfl rfl hl.1 rfl (lv_room (Nat.le_of_ble_eq_true rfl)) dX2_step_111 ⟨(Nat.le_of_ble_eq_true rfl), (Nat.le_of_ble_eq_true rfl)⟩) hP hD hS hA [] [0, 1, 2] rfl rfl rfl rfl (by decide) (fun _ => rfl) 0 0 rfl rfl (fun r_111 u_111 H locs hw hP hD hS => ?_)
            have g_111_0 := hw
            have hP : va_P (dC, dI) vwCl [(a0, .inr (2, [.ref a0_0, .ref a0_1, .ref a0_2, .int v0_3, .int j21_F0_4, .int j21_F0_4, .int v0_6, .int v0_7, .int 7, .int v0_9, .int v0_10])), (a0_0, .inl (cI, 1600, .inl f0_0)), (a0_1, .inl (cJ, 25, .inr (.inl g0_1)))] H := hP
            have hD : va_D A [(a0, .inr (2, [.ref a0_0, .ref a0_1, .ref a0_2, .int v0_3, .int j21_F0_4, .int j21_F0_4, .int v0_6, .int v0_7, .int 7, .int v0_9, .int v0_10])), (a0_0, .inl (cI, 1600, .inl f0_0)), (a0_1, .inl (cJ, 25, .inr (.inl g0_1)))] := hD
            refine lv_if_eq (tgt := 124) hx hb dX2_step_114 (by decide) (fun c_114 => ?_) (fun c_114 => ?_)
            · have c_114 : r_111 = 0 := c_114
              have f_124_4 : iR r_111 0 0 := iR_eqL c_114 g_111_0 (iR_c (n := 0) (a := 0) (b := 0) (by decide +kernel) (by decide +kernel)) (by decide +kernel)
              refine lv_aload_n hx hb dX2_step_124 rfl (lv_at hl 0 rfl) ?_
              refine k_get (D := (dC, dI)) (ci := 2) (v := .ref a0_0) (C := RX2) (T := TX2) (N := 11) hx hb hts hinX2 hown hK hP 0 rfl rfl 0 (by decide) w_5 rfl rfl dX2_step_125 ?_
              refine lv_aload_n hx hb dX2_step_128 rfl (lv_at hl 0 rfl) ?_
              refine k_get (D := (dC, dI)) (ci := 2) (v := .int j21_F0_4) (C := RX2) (T := TX2) (N := 11) hx hb hts hinX2 hown hK hP 0 rfl rfl 4 (by decide) w_1 rfl rfl dX2_step_129 ?_
              refine va_iald hx hb hK hP 1 0 rfl rfl (iR_vp f_102_1 (by decide +kernel)) dX2_step_132 ?_
              refine k_ci (wc := []) (wr := [(a0, .inr (2, [.ref a0_0, .ref a0_1, .ref a0_2, .int v0_3, .int j21_F0_4, .int j21_F0_4, .int v0_6, .int v0_7, .int 7, .int v0_9, .int v0_10])), (a0_0, .inl (cI, 1600, .inl f0_0)), (a0_1, .inl (cJ, 25, .inr (.inl g0_1)))]) (fun hPc hDc hFc => va_runS (As := [.int (f0_0 j21_F0_4.toNatClampNeg)]) (rest := []) ⟨hx, hb, hml, hown, hts⟩ (s_X2_isDigit_v0 l dC dI cI cJ cZ cM (f0_0 j21_F0_4.toNatClampNeg) H.size) (va_cwS 1 hts gX2_step_X2_isDigit rfl rfl rfl (by decide +kernel) ⟨(Nat.le_of_ble_eq_true rfl), (Nat.le_of_ble_eq_true rfl)⟩) (k_pS hPc hDc hK hN hC hS hFc) rfl rfl hl.1 rfl (lv_room (Nat.le_of_ble_eq_true rfl)) dX2_step_133 ⟨(Nat.le_of_ble_eq_true rfl), (Nat.le_of_ble_eq_true rfl)⟩) hP hD hS hA [] [0, 1, 2] rfl rfl rfl rfl (by decide) (fun _ => rfl) 0 0 rfl rfl (fun r_133 u_133 H locs hw hP hD hS => ?_)
              have g_133_0 := hw
              have hP : va_P (dC, dI) vwCl [(a0, .inr (2, [.ref a0_0, .ref a0_1, .ref a0_2, .int v0_3, .int j21_F0_4, .int j21_F0_4, .int v0_6, .int v0_7, .int 7, .int v0_9, .int v0_10])), (a0_0, .inl (cI, 1600, .inl f0_0)), (a0_1, .inl (cJ, 25, .inr (.inl g0_1)))] H := hP
              have hD : va_D A [(a0, .inr (2, [.ref a0_0, .ref a0_1, .ref a0_2, .int v0_3, .int j21_F0_4, .int j21_F0_4, .int v0_6, .int v0_7, .int 7, .int v0_9, .int v0_10])), (a0_0, .inl (cI, 1600, .inl f0_0)), (a0_1, .inl (cJ, 25, .inr (.inl g0_1)))] := hD
              refine lv_if_eq (tgt := 146) hx hb dX2_step_136 (by decide) (fun c_136 => ?_) (fun c_136 => ?_)
              · have c_136 : r_133 = 0 := c_136
                have f_146_5 : iR r_133 0 0 := iR_eqL c_136 g_133_0 (iR_c (n := 0) (a := 0) (b := 0) (by decide +kernel) (by decide +kernel)) (by decide +kernel)
                refine lv_aload_n hx hb dX2_step_146 rfl (lv_at hl 0 rfl) ?_
                refine lv_aload_n hx hb dX2_step_147 rfl (lv_at hl 0 rfl) ?_
                refine k_get (D := (dC, dI)) (ci := 2) (v := .ref a0_0) (C := RX2) (T := TX2) (N := 11) hx hb hts hinX2 hown hK hP 0 rfl rfl 0 (by decide) w_5 rfl rfl dX2_step_148 ?_
                refine lv_aload_n hx hb dX2_step_151 rfl (lv_at hl 0 rfl) ?_
                refine k_get (D := (dC, dI)) (ci := 2) (v := .int j21_F0_4) (C := RX2) (T := TX2) (N := 11) hx hb hts hinX2 hown hK hP 0 rfl rfl 4 (by decide) w_1 rfl rfl dX2_step_152 ?_
                refine va_iald hx hb hK hP 1 0 rfl rfl (iR_vp f_102_1 (by decide +kernel)) dX2_step_155 ?_
                refine k_put (D := (dC, dI)) (ci := 2) (v := .int (f0_0 j21_F0_4.toNatClampNeg)) (C := RX2) (T := TX2) (N := 11) (ws' := [(a0, .inr (2, [.ref a0_0, .ref a0_1, .ref a0_2, .int v0_3, .int j21_F0_4, .int j21_F0_4, .int (f0_0 j21_F0_4.toNatClampNeg), .int v0_7, .int 7, .int v0_9, .int v0_10])), (a0_0, .inl (cI, 1600, .inl f0_0)), (a0_1, .inl (cJ, 25, .inr (.inl g0_1)))]) hx hb hts hinX2 tyX2 tyX2_ok nmX2 hown hK hP hD hS 0 rfl rfl 6 (by decide) w_2 rfl rfl rfl rfl (Nat.le_of_ble_eq_true rfl) rfl dX2_step_156 (fun H locs hP hD hS => ?_)
                refine lv_aload_n hx hb dX2_step_159 rfl (lv_at hl 0 rfl) ?_
                refine lv_dup hx hb dX2_step_160 rfl ?_
                refine k_get (D := (dC, dI)) (ci := 2) (v := .int j21_F0_4) (C := RX2) (T := TX2) (N := 11) hx hb hts hinX2 hown hK hP 0 rfl rfl 4 (by decide) w_1 rfl rfl dX2_step_161 ?_
                refine lv_iconst (v := 1) hx hb dX2_step_164 (by decide +kernel) ?_
                refine lv_iadd hx hb dX2_step_165 ?_
                refine lv_topi (fun y_165 ey_165 => ?_)
                have f_165_6 : iR y_165 1 1600 := iR_add ey_165 f_102_1 (iR_c (n := 1) (a := 1) (b := 1) (by decide +kernel) (by decide +kernel)) (by decide +kernel)
                refine k_put (D := (dC, dI)) (ci := 2) (v := .int y_165) (C := RX2) (T := TX2) (N := 11) (ws' := [(a0, .inr (2, [.ref a0_0, .ref a0_1, .ref a0_2, .int v0_3, .int y_165, .int j21_F0_4, .int (f0_0 j21_F0_4.toNatClampNeg), .int v0_7, .int 7, .int v0_9, .int v0_10])), (a0_0, .inl (cI, 1600, .inl f0_0)), (a0_1, .inl (cJ, 25, .inr (.inl g0_1)))]) hx hb hts hinX2 tyX2 tyX2_ok nmX2 hown hK hP hD hS 0 rfl rfl 4 (by decide) w_1 rfl rfl rfl rfl (Nat.le_of_ble_eq_true rfl) rfl dX2_step_166 (fun H locs hP hD hS => ?_)
                exact J_169 y_165 (f0_0 j21_F0_4.toNatClampNeg) v0_7 v0_9 v0_10 (iR_w f_165_6 (by decide +kernel)) (iR_w f_110_3 (by decide +kernel)) (iR_w f_8_1 (by decide +kernel)) (fun h => h) (Or.inl c_4) H locs ls hP hD hS (lv_sub hl [0, 1, 2] rfl)
              · have c_136 : ¬ r_133 = 0 := c_136
                have f_139_5 : iR r_133 1 1 := iR_neL c_136 g_133_0 (iR_c (n := 0) (a := 0) (b := 0) (by decide +kernel) (by decide +kernel)) (by decide +kernel)
                refine lv_aload_n hx hb dX2_step_139 rfl (lv_at hl 0 rfl) ?_
                refine k_cv (wc := [(a0, .inr (2, [.ref a0_0, .ref a0_1, .ref a0_2, .int v0_3, .int j21_F0_4, .int j21_F0_4, .int v0_6, .int v0_7, .int 7, .int v0_9, .int v0_10])), (a0_0, .inl (cI, 1600, .inl f0_0))]) (wr := [(a0_1, .inl (cJ, 25, .inr (.inl g0_1)))]) (fun hPc hDc hFc => va_runV (As := []) (rest := []) ⟨hx, hb, hml, hown, hts⟩ (s_X2_readNumber_v15 l dC dI cI cJ cZ cM a0 a0_0 f0_0 a0_1 a0_2 v0_3 j21_F0_4 j21_F0_4 v0_6 v0_7 v0_9 v0_10 (show iR v0_9 0 0 from f_8_1) (iR_w f_102_2 (by decide +kernel)) (iR_w f_102_1 (by decide +kernel)) (iR_w f_102_1 (by decide +kernel)) hv0_6 (iR_w f_8_1 (by decide +kernel)) hf0_0 hpg0 H.size) (cwV 0 hts gX2_step_X2_readNumber rfl rfl rfl (by decide +kernel) ⟨(Nat.le_of_ble_eq_true rfl), (Nat.le_of_ble_eq_true rfl)⟩) (k_pV hPc hDc hK hN hC hS hFc hP (q0 := 0) (ci := 2) rfl rfl) rfl rfl hl.1 rfl (lv_room (Nat.le_of_ble_eq_true rfl)) dX2_step_140 ⟨(Nat.le_of_ble_eq_true rfl), (Nat.le_of_ble_eq_true rfl)⟩) hP hD hS hA [0, 1] [2] rfl rfl rfl rfl (by decide) (fun _ => rfl) 0 0 rfl rfl (fun u_140 H locs hw hP hD hS => ?_)
                obtain ⟨g_140_0, g_140_1, g_140_2, g_140_3, g_140_4⟩ := hw
                have hP : va_P (dC, dI) vwCl [(a0_1, .inl (cJ, 25, .inr (.inl g0_1))), (a0, .inr (2, [.ref a0_0, .ref a0_1, .ref a0_2, .int v0_3, .int (u_140.1 0), .int j21_F0_4, .int (u_140.1 1), .int (u_140.1 2), .int 7, .int (u_140.1 3), .int (u_140.1 4)])), (a0_0, .inl (cI, 1600, .inl f0_0))] H := hP
                have hD : va_D A [(a0_1, .inl (cJ, 25, .inr (.inl g0_1))), (a0, .inr (2, [.ref a0_0, .ref a0_1, .ref a0_2, .int v0_3, .int (u_140.1 0), .int j21_F0_4, .int (u_140.1 1), .int (u_140.1 2), .int 7, .int (u_140.1 3), .int (u_140.1 4)])), (a0_0, .inl (cI, 1600, .inl f0_0))] := hD
                have g_140_3 : (0 : Int32) < v0_9 → (0 : Int32) < (u_140.1 3) := g_140_3
                have g_140_4 : ((u_140.1 3) = 0) ∨ (((u_140.1 1) = 259)) := g_140_4
                refine lv_goto (tgt := 169) hx hb dX2_step_143 (by decide) ?_
                exact J_169 (u_140.1 0) (u_140.1 1) (u_140.1 2) (u_140.1 3) (u_140.1 4) g_140_0 (iR_w g_140_1 (by decide +kernel)) g_140_2 (fun h => g_140_3 ((fun h => h) h)) g_140_4 H locs ls (hP.sub [1, 2, 0] rfl) (hD.sub [1, 2, 0] (by decide +kernel) rfl) hS (lv_sub hl [0, 1, 2] rfl)
            · have c_114 : ¬ r_111 = 0 := c_114
              have f_117_4 : iR r_111 1 1 := iR_neL c_114 g_111_0 (iR_c (n := 0) (a := 0) (b := 0) (by decide +kernel) (by decide +kernel)) (by decide +kernel)
              refine lv_aload_n hx hb dX2_step_117 rfl (lv_at hl 0 rfl) ?_
              refine k_cv (wc := [(a0, .inr (2, [.ref a0_0, .ref a0_1, .ref a0_2, .int v0_3, .int j21_F0_4, .int j21_F0_4, .int v0_6, .int v0_7, .int 7, .int v0_9, .int v0_10])), (a0_0, .inl (cI, 1600, .inl f0_0)), (a0_1, .inl (cJ, 25, .inr (.inl g0_1)))]) (wr := []) (fun hPc hDc hFc => va_runV (As := []) (rest := []) ⟨hx, hb, hml, hown, hts⟩ (s_X2_readWord_v15 l dC dI cI cJ cZ cM a0 a0_0 f0_0 a0_1 g0_1 a0_2 v0_3 j21_F0_4 j21_F0_4 v0_6 v0_7 v0_9 v0_10 (show iR v0_9 0 0 from f_8_1) (iR_w f_102_2 (by decide +kernel)) (iR_w f_102_1 (by decide +kernel)) (iR_w f_102_1 (by decide +kernel)) hv0_6 (iR_w f_8_1 (by decide +kernel)) hf0_0 hpg0 H.size) (cwV 0 hts gX2_step_X2_readWord rfl rfl rfl (by decide +kernel) ⟨(Nat.le_of_ble_eq_true rfl), (Nat.le_of_ble_eq_true rfl)⟩) (k_pV hPc hDc hK hN hC hS hFc hP (q0 := 0) (ci := 2) rfl rfl) rfl rfl hl.1 rfl (lv_room (Nat.le_of_ble_eq_true rfl)) dX2_step_118 ⟨(Nat.le_of_ble_eq_true rfl), (Nat.le_of_ble_eq_true rfl)⟩) hP hD hS hA [0, 1, 2] [] rfl rfl rfl rfl (by decide) (fun _ => rfl) 0 0 rfl rfl (fun u_118 H locs hw hP hD hS => ?_)
              obtain ⟨g_118_0, g_118_1, g_118_2, g_118_3, g_118_4⟩ := hw
              have hP : va_P (dC, dI) vwCl [(a0, .inr (2, [.ref a0_0, .ref a0_1, .ref a0_2, .int v0_3, .int (u_118.1 0), .int j21_F0_4, .int (u_118.1 1), .int (u_118.1 2), .int 7, .int (u_118.1 3), .int (u_118.1 4)])), (a0_0, .inl (cI, 1600, .inl f0_0)), (a0_1, .inl (cJ, 25, .inr (.inl g0_1)))] H := hP
              have hD : va_D A [(a0, .inr (2, [.ref a0_0, .ref a0_1, .ref a0_2, .int v0_3, .int (u_118.1 0), .int j21_F0_4, .int (u_118.1 1), .int (u_118.1 2), .int 7, .int (u_118.1 3), .int (u_118.1 4)])), (a0_0, .inl (cI, 1600, .inl f0_0)), (a0_1, .inl (cJ, 25, .inr (.inl g0_1)))] := hD
              have g_118_3 : (0 : Int32) < v0_9 → (0 : Int32) < (u_118.1 3) := g_118_3
              have g_118_4 : ((u_118.1 3) = 0) ∨ (((u_118.1 1) = 259)) := g_118_4
              refine lv_goto (tgt := 169) hx hb dX2_step_121 (by decide) ?_
              exact J_169 (u_118.1 0) (u_118.1 1) (u_118.1 2) (u_118.1 3) (u_118.1 4) g_118_0 (iR_w g_118_1 (by decide +kernel)) g_118_2 (fun h => g_118_3 ((fun h => h) h)) g_118_4 H locs ls hP hD hS (lv_sub hl [0, 1, 2] rfl)
          · have c_89 : v0_3 ≤ j21_F0_4 := i_nlt c_89
            refine lv_aload_n hx hb dX2_step_92 rfl (lv_at hl 0 rfl) ?_
            refine lv_sipush (v := 256) hx hb dX2_step_93 (by decide +kernel) ?_
            refine k_put (D := (dC, dI)) (ci := 2) (v := .int 256) (C := RX2) (T := TX2) (N := 11) (ws' := [(a0, .inr (2, [.ref a0_0, .ref a0_1, .ref a0_2, .int v0_3, .int j21_F0_4, .int j21_F0_4, .int 256, .int v0_7, .int 7, .int v0_9, .int v0_10])), (a0_0, .inl (cI, 1600, .inl f0_0)), (a0_1, .inl (cJ, 25, .inr (.inl g0_1)))]) hx hb hts hinX2 tyX2 tyX2_ok nmX2 hown hK hP hD hS 0 rfl rfl 6 (by decide) w_2 rfl rfl rfl rfl (Nat.le_of_ble_eq_true rfl) rfl dX2_step_96 (fun H locs hP hD hS => ?_)
            refine lv_goto (tgt := 169) hx hb dX2_step_99 (by decide) ?_
            exact J_169 j21_F0_4 256 v0_7 v0_9 v0_10 hj21_F0_4 (iR_c (n := 256) (a := 0) (b := 324) (by decide +kernel) (by decide +kernel)) (iR_w f_8_1 (by decide +kernel)) (fun h => h) (Or.inl c_4) H locs ls hP hD hS (lv_sub hl [0, 1, 2] rfl)
        refine lv_icmp_ge (tgt := 73) hx hb dX2_step_29 (by decide) (fun c_29 => ?_) (fun c_29 => ?_)
        · have c_29 : v0_3 ≤ j21_F0_4 := c_29
          exact J_73   H locs ls hP hD hS (lv_sub hl [0, 1, 2] rfl)
        · have c_29 : j21_F0_4 < v0_3 := i_nle c_29
          have f_32_1 : iR j21_F0_4 0 1599 := iR_ltL c_29 hj21_F0_4 hv0_3 (by decide +kernel)
          have f_32_2 : iR v0_3 1 1600 := iR_ltR c_29 hj21_F0_4 hv0_3 (by decide +kernel)
          refine lv_aload_n hx hb dX2_step_32 rfl (lv_at hl 0 rfl) ?_
          refine k_get (D := (dC, dI)) (ci := 2) (v := .ref a0_0) (C := RX2) (T := TX2) (N := 11) hx hb hts hinX2 hown hK hP 0 rfl rfl 0 (by decide) w_5 rfl rfl dX2_step_33 ?_
          refine lv_aload_n hx hb dX2_step_36 rfl (lv_at hl 0 rfl) ?_
          refine k_get (D := (dC, dI)) (ci := 2) (v := .int j21_F0_4) (C := RX2) (T := TX2) (N := 11) hx hb hts hinX2 hown hK hP 0 rfl rfl 4 (by decide) w_1 rfl rfl dX2_step_37 ?_
          refine va_iald hx hb hK hP 1 0 rfl rfl (iR_vp f_32_1 (by decide +kernel)) dX2_step_40 ?_
          have f_40_3 : iR (f0_0 j21_F0_4.toNatClampNeg) 0 255 := hf0_0 _
          refine lv_bipush (v := 32) hx hb dX2_step_41 (by decide +kernel) ?_
          have J_60 : ∀  (k60_0 : iR (f0_0 j21_F0_4.toNatClampNeg) 10 32) (H : Heap) (locs : List Loc) (ls : Array Slot), va_P (dC, dI) vwCl [(a0, .inr (2, [.ref a0_0, .ref a0_1, .ref a0_2, .int v0_3, .int j21_F0_4, .int v0_5, .int v0_6, .int v0_7, .int 7, .int v0_9, .int v0_10])), (a0_0, .inl (cI, 1600, .inl f0_0)), (a0_1, .inl (cJ, 25, .inr (.inl g0_1)))] H → va_D A [(a0, .inr (2, [.ref a0_0, .ref a0_1, .ref a0_2, .int v0_3, .int j21_F0_4, .int v0_5, .int v0_6, .int v0_7, .int 7, .int v0_9, .int v0_10])), (a0_0, .inl (cI, 1600, .inl f0_0)), (a0_1, .inl (cJ, 25, .inr (.inl g0_1)))] → va_S A s.heap H locs → lv_has ls 3 [(0, .ref a0), (1, .int v0_4), (2, .int r_17)] → W p l e ({ frames := 3, cells := 0, slots := 0, locals := 89 }) s m args below meth c H locs 0 0 (MQ below (va_Qv (fun (u9 : SU) => (iR (u9.1 0) 0 1600) ∧ (iR (u9.1 1) 0 1600) ∧ (iR (u9.1 2) 0 324) ∧ (iR (u9.1 4) 0 6) ∧ ((0 : Int32) < v0_9 → (0 : Int32) < (u9.1 4)) ∧ (((u9.1 4) = 0) ∨ (((u9.1 2) = 259)))) (fun u => k_B (dC, dI) vwCl (tyy cI cJ cZ cM) A ((fun (u9 : SU) => [(a0, .inr (2, [.ref a0_0, .ref a0_1, .ref a0_2, .int v0_3, .int (u9.1 0), .int (u9.1 1), .int (u9.1 2), .int (u9.1 3), .int 7, .int (u9.1 4), .int (u9.1 5)])), (a0_0, .inl (cI, 1600, .inl f0_0)), (a0_1, .inl (cJ, 25, .inr (.inl g0_1)))]) u)) A) args s 0 0 A) (F0 m 60 ls []) := by
            intro  k60_0 H locs ls hP hD hS hl
            refine lv_aload_n hx hb dX2_step_60 rfl (lv_at hl 0 rfl) ?_
            refine lv_dup hx hb dX2_step_61 rfl ?_
            refine k_get (D := (dC, dI)) (ci := 2) (v := .int j21_F0_4) (C := RX2) (T := TX2) (N := 11) hx hb hts hinX2 hown hK hP 0 rfl rfl 4 (by decide) w_1 rfl rfl dX2_step_62 ?_
            refine lv_iconst (v := 1) hx hb dX2_step_65 (by decide +kernel) ?_
            refine lv_iadd hx hb dX2_step_66 ?_
            refine lv_topi (fun y_66 ey_66 => ?_)
            have f_66_1 : iR y_66 1 1600 := iR_add ey_66 f_32_1 (iR_c (n := 1) (a := 1) (b := 1) (by decide +kernel) (by decide +kernel)) (by decide +kernel)
            refine k_put (D := (dC, dI)) (ci := 2) (v := .int y_66) (C := RX2) (T := TX2) (N := 11) (ws' := [(a0, .inr (2, [.ref a0_0, .ref a0_1, .ref a0_2, .int v0_3, .int y_66, .int v0_5, .int v0_6, .int v0_7, .int 7, .int v0_9, .int v0_10])), (a0_0, .inl (cI, 1600, .inl f0_0)), (a0_1, .inl (cJ, 25, .inr (.inl g0_1)))]) hx hb hts hinX2 tyX2 tyX2_ok nmX2 hown hK hP hD hS 0 rfl rfl 4 (by decide) w_1 rfl rfl rfl rfl (Nat.le_of_ble_eq_true rfl) rfl dX2_step_67 (fun H locs hP hD hS => ?_)
            refine lv_goto (tgt := 21) hx hb dX2_step_70 (by decide) ?_
            exact ih_21 y_66 (iR_w f_66_1 (by decide +kernel)) (m_up (B := 1600) hm_21 ey_66 f_32_1 (by decide +kernel)) H locs ls hP hD hS (lv_sub hl [0, 1, 2] rfl)
          refine lv_icmp_eq (tgt := 60) hx hb dX2_step_43 (by decide) (fun c_43 => ?_) (fun c_43 => ?_)
          · have c_43 : (f0_0 j21_F0_4.toNatClampNeg) = 32 := c_43
            have f_60_4 : iR (f0_0 j21_F0_4.toNatClampNeg) 32 32 := iR_eqL c_43 f_40_3 (iR_c (n := 32) (a := 32) (b := 32) (by decide +kernel) (by decide +kernel)) (by decide +kernel)
            exact J_60  (iR_w f_60_4 (by decide +kernel)) H locs ls hP hD hS (lv_sub hl [0, 1, 2] rfl)
          · have c_43 : ¬ (f0_0 j21_F0_4.toNatClampNeg) = 32 := c_43
            refine lv_aload_n hx hb dX2_step_46 rfl (lv_at hl 0 rfl) ?_
            refine k_get (D := (dC, dI)) (ci := 2) (v := .ref a0_0) (C := RX2) (T := TX2) (N := 11) hx hb hts hinX2 hown hK hP 0 rfl rfl 0 (by decide) w_5 rfl rfl dX2_step_47 ?_
            refine lv_aload_n hx hb dX2_step_50 rfl (lv_at hl 0 rfl) ?_
            refine k_get (D := (dC, dI)) (ci := 2) (v := .int j21_F0_4) (C := RX2) (T := TX2) (N := 11) hx hb hts hinX2 hown hK hP 0 rfl rfl 4 (by decide) w_1 rfl rfl dX2_step_51 ?_
            refine va_iald hx hb hK hP 1 0 rfl rfl (iR_vp f_32_1 (by decide +kernel)) dX2_step_54 ?_
            refine lv_bipush (v := 10) hx hb dX2_step_55 (by decide +kernel) ?_
            refine lv_icmp_ne (tgt := 73) hx hb dX2_step_57 (by decide) (fun c_57 => ?_) (fun c_57 => ?_)
            · have c_57 : ¬ (f0_0 j21_F0_4.toNatClampNeg) = 10 := c_57
              exact J_73   H locs ls hP hD hS (lv_sub hl [0, 1, 2] rfl)
            · have c_57 : (f0_0 j21_F0_4.toNatClampNeg) = 10 := c_57
              have f_60_4 : iR (f0_0 j21_F0_4.toNatClampNeg) 10 10 := iR_eqL c_57 f_40_3 (iR_c (n := 10) (a := 10) (b := 10) (by decide +kernel) (by decide +kernel)) (by decide +kernel)
              exact J_60  (iR_w f_60_4 (by decide +kernel)) H locs ls hP hD hS (lv_sub hl [0, 1, 2] rfl)
    refine lv_istore_n (lv' := [(2, .int r_17), (1, .int v0_4), (0, .ref a0)]) hx hb dX2_step_20 rfl hl (by decide) rfl (fun ls hl => ?_)
    exact J_21 _ v0_4 hv0_4 (Nat.lt_succ_self _) H locs ls hP hD hS (lv_sub hl [2, 1, 0] rfl)
  · have c_4 : ¬ v0_9 = 0 := c_4
    have f_7_1 : iR v0_9 1 6 := iR_neL c_4 hv0_9 (iR_c (n := 0) (a := 0) (b := 0) (by decide +kernel) (by decide +kernel)) (by decide +kernel)
    obtain d_4_1_0 := hpg0.resolve_left c_4
    have f_7_2 : iR v0_6 259 259 := iR_eqL d_4_1_0 hv0_6 (iR_c (n := 259) (a := 259) (b := 259) (by decide +kernel) (by decide +kernel)) (by decide +kernel)
    exact k_rv B hP hD hS dX2_step_7 ((fun k9 => match k9 with | 0 => v0_4 | 1 => v0_5 | 2 => v0_6 | 3 => v0_7 | 4 => v0_9 | 5 => v0_10 | _ => 0), (fun _ => 0), (fun _ => (fun _ => 0)), (fun _ => (fun _ => 0)), (fun _ => 0)) [0, 1, 2] rfl rfl (Nat.le_of_ble_eq_true rfl) (Nat.le_of_ble_eq_true rfl) ⟨(show iR v0_4 0 1600 from hv0_4), (show iR v0_5 0 1600 from hv0_5), (show iR v0_6 0 324 from (iR_w f_7_2 (by decide +kernel))), (show iR v0_9 0 6 from (iR_w f_7_1 (by decide +kernel))), (show (0 : Int32) < v0_9 → (0 : Int32) < v0_9 from (fun h => h)), (show (v0_9 = 0) ∨ ((v0_6 = 259)) from (Or.inr d_4_1_0))⟩
