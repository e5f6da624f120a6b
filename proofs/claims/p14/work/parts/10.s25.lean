set_option maxHeartbeats 8000000 in
set_option maxRecDepth 100000 in
theorem s_X7_rowOf_v0 (l : Launch) (dC : Nat → ClassId) (dI : Nat → Nat → Nat) (cI cJ cZ cM : ClassId) (h : Nat) (r : Nat → Nat) (i : Nat → Int32) (j : Nat → Int64) (x1 : Int32) (f0 : Nat → Int32) (f14 : Nat → Int32) (g34 : Nat → Int64) (hI : mR i) (hf0 : aR f0 0 255) (hf14 : aR f14 0 10) : k_Mi l yX7_rowOf wsX7_rowOf ({ frames := 4, cells := 0, slots := 0, locals := 108 }) (dC, dI) vwCl (tyy cI cJ cZ cM) [(h, .inr (7, oM r i j)), ((r 0), .inl (cI, 1800, .inl f0)), ((r 14), .inl (cI, 2, .inl f14)), ((r 34), .inl (cJ, 20, .inr (.inl g34)))] [.ref h, .int x1] 0 0 (fun (u9 : SU) => [(h, .inr (7, oM r (upd (upd (upd (upd (upd (upd (upd i 3 (u9.1 0)) 4 (u9.1 1)) 5 (u9.1 2)) 6 (u9.1 3)) 8 (u9.1 4)) 9 (u9.1 5)) 12 (u9.1 6)) (vp_updL j 7 (u9.2.1 0)))), ((r 0), .inl (cI, 1800, .inl f0)), ((r 14), .inl (cI, 2, .inl f14)), ((r 34), .inl (cJ, 20, .inr (.inl g34)))]) (fun (r9 : Int32) (u9 : SU) => (iR r9 0 1023) ∧ (iR (u9.1 0) 0 3) ∧ (iR (u9.1 1) 0 1600) ∧ (iR (u9.1 2) 0 1600) ∧ (iR (u9.1 3) 0 9999) ∧ (iR (u9.1 4) 0 6)) := by
  refine fun sz => k_enter (cc := cX7_rowOf) (maxL := 5) (ret := some (.int)) (Qc := fun A => va_Qi (fun (r9 : Int32) (u9 : SU) => (iR r9 0 1023) ∧ (iR (u9.1 0) 0 3) ∧ (iR (u9.1 1) 0 1600) ∧ (iR (u9.1 2) 0 1600) ∧ (iR (u9.1 3) 0 9999) ∧ (iR (u9.1 4) 0 6)) (fun u => k_B (dC, dI) vwCl (tyy cI cJ cZ cM) A ((fun (u9 : SU) => [(h, .inr (7, oM r (upd (upd (upd (upd (upd (upd (upd i 3 (u9.1 0)) 4 (u9.1 1)) 5 (u9.1 2)) 6 (u9.1 3)) 8 (u9.1 4)) 9 (u9.1 5)) 12 (u9.1 6)) (vp_updL j 7 (u9.2.1 0)))), ((r 0), .inl (cI, 1800, .inl f0)), ((r 14), .inl (cI, 2, .inl f14)), ((r 34), .inl (cJ, 20, .inr (.inl g34)))]) u)) A) sz (by decide +kernel) rfl (Nat.le_of_ble_eq_true rfl) (fun p e s m args below meth c A ls H locs B hP hD hS hl => ?_)
  obtain ⟨hx, hb, hml, hown, hts, hr, hlk, hnm, hK, hA, hN, hC⟩ := id B
  have hown : s.vm.findClass RX7 = some m.cls := hown
  have hl : lv_has ls 5 [(0, .ref h), (1, .int x1)] := hl
  have w_0 : (Cond.fieldLink RX7 36 "WishSeaModel" "faultKind" "I").before args s = true := hts _ (List.mem_of_getElem? (i := 1) rfl)
  have w_1 : (Cond.fieldLink RX7 20 "WishSeaModel" "sign" "I").before args s = true := hts _ (List.mem_of_getElem? (i := 3) rfl)
  have w_2 : (Cond.fieldLink RX7 32 "WishSeaModel" "word" "J").before args s = true := hts _ (List.mem_of_getElem? (i := 4) rfl)
  have w_3 : (Cond.fieldLink RX7 23 "WishSeaModel" "signAt" "I").before args s = true := hts _ (List.mem_of_getElem? (i := 2) rfl)
  have hinX7 : ∀ w ∈ u_ws RX7 TX7 92, w ∈ wsX7_rowOf := fun _ h => List.mem_cons_of_mem _ (List.mem_append_right _ h)
  refine lv_iconst (v := 0) hx hb dX7_rowOf_0 (by decide +kernel) ?_
  refine lv_istore_n (lv' := [(2, .int 0), (0, .ref h), (1, .int x1)]) hx hb dX7_rowOf_1 rfl hl (by decide) rfl (fun ls hl => ?_)
  refine lv_iconst (v := 1) hx hb dX7_rowOf_2 (by decide +kernel) ?_
  have J_4 : ∀ (n_4 : Nat) (j4_L2 : Int32) (j4_L3 : Int32) (j4_M0_3 : Int32) (j4_M0_4 : Int32) (j4_M0_5 : Int32) (j4_M0_6 : Int32) (j4_M0_7 : Int64) (j4_M0_8 : Int32) (j4_M0_9 : Int32) (j4_M0_12 : Int32) (hj4_L2 : iR j4_L2 0 1023) (hj4_L3 : iR j4_L3 0 1) (hj4_M0_3 : iR j4_M0_3 0 3) (hj4_M0_4 : iR j4_M0_4 0 1600) (hj4_M0_5 : iR j4_M0_5 0 1600) (hj4_M0_6 : iR j4_M0_6 0 9999) (hj4_M0_8 : iR j4_M0_8 0 6) (hm_4 : (1600 - j4_M0_5.toInt).toNat < n_4) (H : Heap) (locs : List Loc) (ls : Array Slot), va_P (dC, dI) vwCl [(h, .inr (7, oM r (upd (upd (upd (upd (upd (upd (upd i 3 j4_M0_3) 4 j4_M0_4) 5 j4_M0_5) 6 j4_M0_6) 8 j4_M0_8) 9 j4_M0_9) 12 j4_M0_12) (vp_updL j 7 j4_M0_7))), ((r 0), .inl (cI, 1800, .inl f0)), ((r 14), .inl (cI, 2, .inl f14)), ((r 34), .inl (cJ, 20, .inr (.inl g34)))] H → va_D A [(h, .inr (7, oM r (upd (upd (upd (upd (upd (upd (upd i 3 j4_M0_3) 4 j4_M0_4) 5 j4_M0_5) 6 j4_M0_6) 8 j4_M0_8) 9 j4_M0_9) 12 j4_M0_12) (vp_updL j 7 j4_M0_7))), ((r 0), .inl (cI, 1800, .inl f0)), ((r 14), .inl (cI, 2, .inl f14)), ((r 34), .inl (cJ, 20, .inr (.inl g34)))] → va_S A s.heap H locs → lv_has ls 5 [(0, .ref h), (1, .int x1), (2, .int j4_L2), (3, .int j4_L3)] → W p l e ({ frames := 4, cells := 0, slots := 0, locals := 108 }) s m args below meth c H locs 0 0 (MQ below (va_Qi (fun (r9 : Int32) (u9 : SU) => (iR r9 0 1023) ∧ (iR (u9.1 0) 0 3) ∧ (iR (u9.1 1) 0 1600) ∧ (iR (u9.1 2) 0 1600) ∧ (iR (u9.1 3) 0 9999) ∧ (iR (u9.1 4) 0 6)) (fun u => k_B (dC, dI) vwCl (tyy cI cJ cZ cM) A ((fun (u9 : SU) => [(h, .inr (7, oM r (upd (upd (upd (upd (upd (upd (upd i 3 (u9.1 0)) 4 (u9.1 1)) 5 (u9.1 2)) 6 (u9.1 3)) 8 (u9.1 4)) 9 (u9.1 5)) 12 (u9.1 6)) (vp_updL j 7 (u9.2.1 0)))), ((r 0), .inl (cI, 1800, .inl f0)), ((r 14), .inl (cI, 2, .inl f14)), ((r 34), .inl (cJ, 20, .inr (.inl g34)))]) u)) A) args s 0 0 A) (F0 m 4 ls []) := by
    intro n_4
    induction n_4 with
    | zero => intro j4_L2 j4_L3 j4_M0_3 j4_M0_4 j4_M0_5 j4_M0_6 j4_M0_7 j4_M0_8 j4_M0_9 j4_M0_12 hj4_L2 hj4_L3 hj4_M0_3 hj4_M0_4 hj4_M0_5 hj4_M0_6 hj4_M0_8 hm_4; exact absurd hm_4 (Nat.not_lt_zero _)
    | succ n_4 ih_4 =>
      intro j4_L2 j4_L3 j4_M0_3 j4_M0_4 j4_M0_5 j4_M0_6 j4_M0_7 j4_M0_8 j4_M0_9 j4_M0_12 hj4_L2 hj4_L3 hj4_M0_3 hj4_M0_4 hj4_M0_5 hj4_M0_6 hj4_M0_8 hm_4 H locs ls hP hD hS hl
      refine lv_iload_n hx hb dX7_rowOf_4 rfl (lv_at hl 3 rfl) ?_
      refine lv_if_eq (tgt := 99) hx hb dX7_rowOf_5 (by decide) (fun c_5 => ?_) (fun c_5 => ?_)
      · have c_5 : j4_L3 = 0 := c_5
        have f_99_1 : iR j4_L3 0 0 := iR_eqL c_5 hj4_L3 (iR_c (n := 0) (a := 0) (b := 0) (by decide +kernel) (by decide +kernel)) (by decide +kernel)
        refine lv_iload_n hx hb dX7_rowOf_99 rfl (lv_at hl 2 rfl) ?_
        exact k_ri B hP hD hS dX7_rowOf_100 ((fun k9 => match k9 with | 0 => j4_M0_3 | 1 => j4_M0_4 | 2 => j4_M0_5 | 3 => j4_M0_6 | 4 => j4_M0_8 | 5 => j4_M0_9 | 6 => j4_M0_12 | _ => 0), (fun k9 => match k9 with | 0 => j4_M0_7 | _ => 0), (fun _ => (fun _ => 0)), (fun _ => (fun _ => 0)), (fun _ => 0)) [0, 1, 2, 3] rfl rfl rfl (Nat.le_of_ble_eq_true rfl) (Nat.le_of_ble_eq_true rfl) ⟨(show iR j4_L2 0 1023 from hj4_L2), (show iR j4_M0_3 0 3 from hj4_M0_3), (show iR j4_M0_4 0 1600 from hj4_M0_4), (show iR j4_M0_5 0 1600 from hj4_M0_5), (show iR j4_M0_6 0 9999 from hj4_M0_6), (show iR j4_M0_8 0 6 from hj4_M0_8)⟩
      · have c_5 : ¬ j4_L3 = 0 := c_5
        have f_8_1 : iR j4_L3 1 1 := iR_neL c_5 hj4_L3 (iR_c (n := 0) (a := 0) (b := 0) (by decide +kernel) (by decide +kernel)) (by decide +kernel)
        refine lv_aload_n hx hb dX7_rowOf_8 rfl (lv_at hl 0 rfl) ?_
        refine k_ci (wc := [(h, .inr (7, oM r (upd (upd (upd (upd (upd (upd (upd i 3 j4_M0_3) 4 j4_M0_4) 5 j4_M0_5) 6 j4_M0_6) 8 j4_M0_8) 9 j4_M0_9) 12 j4_M0_12) (vp_updL j 7 j4_M0_7))), ((r 14), .inl (cI, 2, .inl f14)), ((r 34), .inl (cJ, 20, .inr (.inl g34)))]) (wr := [((r 0), .inl (cI, 1800, .inl f0))]) (fun hPc hDc hFc => va_runV (As := []) (rest := []) ⟨hx, hb, hml, hown, hts⟩ (s_X7_looked_v1 l dC dI cI cJ cZ cM h r (upd (upd (upd (upd (upd (upd (upd i 3 j4_M0_3) 4 j4_M0_4) 5 j4_M0_5) 6 j4_M0_6) 8 j4_M0_8) 9 j4_M0_9) 12 j4_M0_12) (vp_updL j 7 j4_M0_7) f14 g34 (mR_upd 12 (mR_upd 9 (mR_upd 8 (mR_upd 6 (mR_upd 5 (mR_upd 4 (mR_upd 3 hI (show iR _ (loI 3) (hiI 3) from hj4_M0_3)) (show iR _ (loI 4) (hiI 4) from hj4_M0_4)) (show iR _ (loI 5) (hiI 5) from hj4_M0_5)) (show iR _ (loI 6) (hiI 6) from hj4_M0_6)) (show iR _ (loI 8) (hiI 8) from hj4_M0_8)) (show iR _ (loI 9) (hiI 9) from (iR_top _))) (show iR _ (loI 12) (hiI 12) from (iR_top _))) hf14 H.size) (cwV 0 hts gX7_rowOf_X7_looked rfl rfl rfl (by decide +kernel) ⟨(Nat.le_of_ble_eq_true rfl), (Nat.le_of_ble_eq_true rfl)⟩) (k_pV hPc hDc hK hN hC hS hFc hP (q0 := 0) (ci := 7) rfl rfl) rfl rfl hl.1 rfl (lv_room (Nat.le_of_ble_eq_true rfl)) dX7_rowOf_9 ⟨(Nat.le_of_ble_eq_true rfl), (Nat.le_of_ble_eq_true rfl)⟩) hP hD hS hA [0, 2, 3] [1] rfl rfl rfl rfl (by decide) (fun _ => rfl) 0 0 rfl rfl (fun r_9 u_9 H locs hw hP hD hS => ?_)
        obtain ⟨g_9_0, g_9_1⟩ := hw
        have hP : va_P (dC, dI) vwCl [((r 0), .inl (cI, 1800, .inl f0)), (h, .inr (7, oM r (upd (upd (upd (upd (upd (upd (upd i 3 j4_M0_3) 4 j4_M0_4) 5 j4_M0_5) 6 j4_M0_6) 8 (u_9.1 0)) 9 (u_9.1 1)) 12 j4_M0_12) (vp_updL j 7 j4_M0_7))), ((r 14), .inl (cI, 2, .inl f14)), ((r 34), .inl (cJ, 20, .inr (.inl g34)))] H := hP
        have hD : va_D A [((r 0), .inl (cI, 1800, .inl f0)), (h, .inr (7, oM r (upd (upd (upd (upd (upd (upd (upd i 3 j4_M0_3) 4 j4_M0_4) 5 j4_M0_5) 6 j4_M0_6) 8 (u_9.1 0)) 9 (u_9.1 1)) 12 j4_M0_12) (vp_updL j 7 j4_M0_7))), ((r 14), .inl (cI, 2, .inl f14)), ((r 34), .inl (cJ, 20, .inr (.inl g34)))] := hD
        refine lv_istore (lv' := [(4, .int r_9), (0, .ref h), (1, .int x1), (2, .int j4_L2), (3, .int j4_L3)]) hx hb dX7_rowOf_12 hl (by decide) rfl (fun ls hl => ?_)
        refine lv_aload_n hx hb dX7_rowOf_14 rfl (lv_at hl 1 rfl) ?_
        refine k_get (D := (dC, dI)) (ci := 7) (v := .int (u_9.1 0)) (C := RX7) (T := TX7) (N := 92) hx hb hts hinX7 hown hK hP 1 rfl rfl 8 (by decide) w_0 rfl rfl dX7_rowOf_15 ?_
        refine lv_if_ne (tgt := 42) hx hb dX7_rowOf_18 (by decide) (fun c_18 => ?_) (fun c_18 => ?_)
        · have c_18 : ¬ (u_9.1 0) = 0 := c_18
          have f_42_2 : iR (u_9.1 0) 1 6 := iR_neL c_18 g_9_1 (iR_c (n := 0) (a := 0) (b := 0) (by decide +kernel) (by decide +kernel)) (by decide +kernel)
          refine lv_aload_n hx hb dX7_rowOf_42 rfl (lv_at hl 1 rfl) ?_
          refine k_get (D := (dC, dI)) (ci := 7) (v := .int (u_9.1 0)) (C := RX7) (T := TX7) (N := 92) hx hb hts hinX7 hown hK hP 1 rfl rfl 8 (by decide) w_0 rfl rfl dX7_rowOf_43 ?_
          refine lv_if_ne (tgt := 60) hx hb dX7_rowOf_46 (by decide) (fun c_46p18 => ?_) (fun c_46p18 => ?_)
          · have c_46p18 : ¬ (u_9.1 0) = 0 := c_46p18
            refine lv_aload_n hx hb dX7_rowOf_60 rfl (lv_at hl 1 rfl) ?_
            refine k_cv (wc := [(h, .inr (7, oM r (upd (upd (upd (upd (upd (upd (upd i 3 j4_M0_3) 4 j4_M0_4) 5 j4_M0_5) 6 j4_M0_6) 8 (u_9.1 0)) 9 (u_9.1 1)) 12 j4_M0_12) (vp_updL j 7 j4_M0_7)))]) (wr := [((r 0), .inl (cI, 1800, .inl f0)), ((r 14), .inl (cI, 2, .inl f14)), ((r 34), .inl (cJ, 20, .inr (.inl g34)))]) (fun hPc hDc hFc => va_runV (As := []) (rest := []) ⟨hx, hb, hml, hown, hts⟩ (s_X7_lex_v7 l dC dI cI cJ cZ cM h r (upd (upd (upd (upd (upd (upd (upd i 3 j4_M0_3) 4 j4_M0_4) 5 j4_M0_5) 6 j4_M0_6) 8 (u_9.1 0)) 9 (u_9.1 1)) 12 j4_M0_12) (vp_updL j 7 j4_M0_7) (mR_upd 12 (mR_upd 9 (mR_upd 8 (mR_upd 6 (mR_upd 5 (mR_upd 4 (mR_upd 3 hI (show iR _ (loI 3) (hiI 3) from hj4_M0_3)) (show iR _ (loI 4) (hiI 4) from hj4_M0_4)) (show iR _ (loI 5) (hiI 5) from hj4_M0_5)) (show iR _ (loI 6) (hiI 6) from hj4_M0_6)) (show iR _ (loI 8) (hiI 8) from (iR_w f_42_2 (by decide +kernel)))) (show iR _ (loI 9) (hiI 9) from (iR_top _))) (show iR _ (loI 12) (hiI 12) from (iR_top _))) H.size) (cwV 0 hts gX7_rowOf_X7_lex rfl rfl rfl (by decide +kernel) ⟨(Nat.le_of_ble_eq_true rfl), (Nat.le_of_ble_eq_true rfl)⟩) (k_pV hPc hDc hK hN hC hS hFc hP (q0 := 1) (ci := 7) rfl rfl) rfl rfl hl.1 rfl (lv_room (Nat.le_of_ble_eq_true rfl)) dX7_rowOf_61 ⟨(Nat.le_of_ble_eq_true rfl), (Nat.le_of_ble_eq_true rfl)⟩) hP hD hS hA [1] [0, 2, 3] rfl rfl rfl rfl (by decide) (fun _ => rfl) 0 0 rfl rfl (fun u_61p18p46 H locs hw hP hD hS => ?_)
            have g_61p18p46_0 := hw
            have hP : va_P (dC, dI) vwCl [((r 0), .inl (cI, 1800, .inl f0)), ((r 14), .inl (cI, 2, .inl f14)), ((r 34), .inl (cJ, 20, .inr (.inl g34))), (h, .inr (7, oM r (upd (upd (upd (upd (upd (upd (upd i 3 j4_M0_3) 4 j4_M0_4) 5 j4_M0_5) 6 j4_M0_6) 8 (u_61p18p46.1 0)) 9 (u_61p18p46.1 1)) 12 j4_M0_12) (vp_updL j 7 j4_M0_7)))] H := hP
            have hD : va_D A [((r 0), .inl (cI, 1800, .inl f0)), ((r 14), .inl (cI, 2, .inl f14)), ((r 34), .inl (cJ, 20, .inr (.inl g34))), (h, .inr (7, oM r (upd (upd (upd (upd (upd (upd (upd i 3 j4_M0_3) 4 j4_M0_4) 5 j4_M0_5) 6 j4_M0_6) 8 (u_61p18p46.1 0)) 9 (u_61p18p46.1 1)) 12 j4_M0_12) (vp_updL j 7 j4_M0_7)))] := hD
            refine lv_aload_n hx hb dX7_rowOf_64 rfl (lv_at hl 1 rfl) ?_
            refine k_get (D := (dC, dI)) (ci := 7) (v := .int (u_61p18p46.1 0)) (C := RX7) (T := TX7) (N := 92) hx hb hts hinX7 hown hK hP 3 rfl rfl 8 (by decide) w_0 rfl rfl dX7_rowOf_65 ?_
            have J_94p18p46 : ∀   (H : Heap) (locs : List Loc) (ls : Array Slot), va_P (dC, dI) vwCl [(h, .inr (7, oM r (upd (upd (upd (upd (upd (upd (upd i 3 j4_M0_3) 4 j4_M0_4) 5 j4_M0_5) 6 j4_M0_6) 8 (u_61p18p46.1 0)) 9 (u_61p18p46.1 1)) 12 j4_M0_12) (vp_updL j 7 j4_M0_7))), ((r 0), .inl (cI, 1800, .inl f0)), ((r 14), .inl (cI, 2, .inl f14)), ((r 34), .inl (cJ, 20, .inr (.inl g34)))] H → va_D A [(h, .inr (7, oM r (upd (upd (upd (upd (upd (upd (upd i 3 j4_M0_3) 4 j4_M0_4) 5 j4_M0_5) 6 j4_M0_6) 8 (u_61p18p46.1 0)) 9 (u_61p18p46.1 1)) 12 j4_M0_12) (vp_updL j 7 j4_M0_7))), ((r 0), .inl (cI, 1800, .inl f0)), ((r 14), .inl (cI, 2, .inl f14)), ((r 34), .inl (cJ, 20, .inr (.inl g34)))] → va_S A s.heap H locs → lv_has ls 5 [(0, .ref h), (1, .int x1), (2, .int j4_L2)] → W p l e ({ frames := 4, cells := 0, slots := 0, locals := 108 }) s m args below meth c H locs 0 0 (MQ below (va_Qi (fun (r9 : Int32) (u9 : SU) => (iR r9 0 1023) ∧ (iR (u9.1 0) 0 3) ∧ (iR (u9.1 1) 0 1600) ∧ (iR (u9.1 2) 0 1600) ∧ (iR (u9.1 3) 0 9999) ∧ (iR (u9.1 4) 0 6)) (fun u => k_B (dC, dI) vwCl (tyy cI cJ cZ cM) A ((fun (u9 : SU) => [(h, .inr (7, oM r (upd (upd (upd (upd (upd (upd (upd i 3 (u9.1 0)) 4 (u9.1 1)) 5 (u9.1 2)) 6 (u9.1 3)) 8 (u9.1 4)) 9 (u9.1 5)) 12 (u9.1 6)) (vp_updL j 7 (u9.2.1 0)))), ((r 0), .inl (cI, 1800, .inl f0)), ((r 14), .inl (cI, 2, .inl f14)), ((r 34), .inl (cJ, 20, .inr (.inl g34)))]) u)) A) args s 0 0 A) (F0 m 94 ls []) := by
              intro   H locs ls hP hD hS hl
              refine lv_iconst (v := 0) hx hb dX7_rowOf_94 (by decide +kernel) ?_
              refine lv_istore_n (lv' := [(3, .int 0), (0, .ref h), (1, .int x1), (2, .int j4_L2)]) hx hb dX7_rowOf_95 rfl hl (by decide) rfl (fun ls hl => ?_)
              refine lv_goto (tgt := 4) hx hb dX7_rowOf_96 (by decide) ?_
              exact ih_4 j4_L2 0 j4_M0_3 j4_M0_4 j4_M0_5 j4_M0_6 j4_M0_7 (u_61p18p46.1 0) (u_61p18p46.1 1) j4_M0_12 hj4_L2 (iR_c (n := 0) (a := 0) (b := 1) (by decide +kernel) (by decide +kernel)) hj4_M0_3 hj4_M0_4 hj4_M0_5 hj4_M0_6 g_61p18p46_0 (by have q0 : 0 ≤ j4_M0_5.toInt ∧ j4_M0_5.toInt ≤ 1600 := hj4_M0_5; have h9 := hm_4; omega) H locs ls hP hD hS (lv_sub hl [1, 2, 3, 0] rfl)
            refine lv_if_ne (tgt := 94) hx hb dX7_rowOf_68 (by decide) (fun c_68p18p46 => ?_) (fun c_68p18p46 => ?_)
            · have c_68p18p46 : ¬ (u_61p18p46.1 0) = 0 := c_68p18p46
              have f_94p18p46_3 : iR (u_61p18p46.1 0) 1 6 := iR_neL c_68p18p46 g_61p18p46_0 (iR_c (n := 0) (a := 0) (b := 0) (by decide +kernel) (by decide +kernel)) (by decide +kernel)
              exact J_94p18p46   H locs ls (hP.sub [3, 0, 1, 2] rfl) (hD.sub [3, 0, 1, 2] (by decide +kernel) rfl) hS (lv_sub hl [1, 2, 3] rfl)
            · have c_68p18p46 : (u_61p18p46.1 0) = 0 := c_68p18p46
              have f_71p18p46_3 : iR (u_61p18p46.1 0) 0 0 := iR_eqL c_68p18p46 g_61p18p46_0 (iR_c (n := 0) (a := 0) (b := 0) (by decide +kernel) (by decide +kernel)) (by decide +kernel)
              refine lv_aload_n hx hb dX7_rowOf_71 rfl (lv_at hl 1 rfl) ?_
              refine k_get (D := (dC, dI)) (ci := 7) (v := .int j4_M0_3) (C := RX7) (T := TX7) (N := 92) hx hb hts hinX7 hown hK hP 3 rfl rfl 3 (by decide) w_1 rfl rfl dX7_rowOf_72 ?_
              refine lv_iconst (v := 1) hx hb dX7_rowOf_75 (by decide +kernel) ?_
              refine lv_icmp_ne (tgt := 94) hx hb dX7_rowOf_76 (by decide) (fun c_76p18p46 => ?_) (fun c_76p18p46 => ?_)
              · have c_76p18p46 : ¬ j4_M0_3 = 1 := c_76p18p46
                exact J_94p18p46   H locs ls (hP.sub [3, 0, 1, 2] rfl) (hD.sub [3, 0, 1, 2] (by decide +kernel) rfl) hS (lv_sub hl [1, 2, 3] rfl)
              · have c_76p18p46 : j4_M0_3 = 1 := c_76p18p46
                have f_79p18p46_4 : iR j4_M0_3 1 1 := iR_eqL c_76p18p46 hj4_M0_3 (iR_c (n := 1) (a := 1) (b := 1) (by decide +kernel) (by decide +kernel)) (by decide +kernel)
                refine lv_aload_n hx hb dX7_rowOf_79 rfl (lv_at hl 1 rfl) ?_
                refine lv_aload_n hx hb dX7_rowOf_80 rfl (lv_at hl 1 rfl) ?_
                refine k_get (D := (dC, dI)) (ci := 7) (v := .long j4_M0_7) (C := RX7) (T := TX7) (N := 92) hx hb hts hinX7 hown hK hP 3 rfl rfl 7 (by decide) w_2 rfl rfl dX7_rowOf_81 ?_
                refine k_ci (wc := []) (wr := [((r 0), .inl (cI, 1800, .inl f0)), ((r 14), .inl (cI, 2, .inl f14)), ((r 34), .inl (cJ, 20, .inr (.inl g34))), (h, .inr (7, oM r (upd (upd (upd (upd (upd (upd (upd i 3 j4_M0_3) 4 j4_M0_4) 5 j4_M0_5) 6 j4_M0_6) 8 (u_61p18p46.1 0)) 9 (u_61p18p46.1 1)) 12 j4_M0_12) (vp_updL j 7 j4_M0_7)))]) (fun hPc hDc hFc => va_runV (As := [.long j4_M0_7]) (rest := []) ⟨hx, hb, hml, hown, hts⟩ (s_X7_isOwn_v8 l dC dI cI cJ cZ cM h j4_M0_7 H.size) (cwV 1 hts gX7_rowOf_X7_isOwn rfl rfl rfl (by decide +kernel) ⟨(Nat.le_of_ble_eq_true rfl), (Nat.le_of_ble_eq_true rfl)⟩) (k_pV hPc hDc hK hN hC hS hFc hP (q0 := 3) (ci := 7) rfl rfl) rfl rfl hl.1 rfl (lv_room (Nat.le_of_ble_eq_true rfl)) dX7_rowOf_84 ⟨(Nat.le_of_ble_eq_true rfl), (Nat.le_of_ble_eq_true rfl)⟩) hP hD hS hA [] [0, 1, 2, 3] rfl rfl rfl rfl (by decide) (fun _ => rfl) 0 0 rfl rfl (fun r_84p18p46 u_84p18p46 H locs hw hP hD hS => ?_)
                have g_84p18p46_0 := hw
                have hP : va_P (dC, dI) vwCl [((r 0), .inl (cI, 1800, .inl f0)), ((r 14), .inl (cI, 2, .inl f14)), ((r 34), .inl (cJ, 20, .inr (.inl g34))), (h, .inr (7, oM r (upd (upd (upd (upd (upd (upd (upd i 3 j4_M0_3) 4 j4_M0_4) 5 j4_M0_5) 6 j4_M0_6) 8 (u_61p18p46.1 0)) 9 (u_61p18p46.1 1)) 12 j4_M0_12) (vp_updL j 7 j4_M0_7)))] H := hP
                have hD : va_D A [((r 0), .inl (cI, 1800, .inl f0)), ((r 14), .inl (cI, 2, .inl f14)), ((r 34), .inl (cJ, 20, .inr (.inl g34))), (h, .inr (7, oM r (upd (upd (upd (upd (upd (upd (upd i 3 j4_M0_3) 4 j4_M0_4) 5 j4_M0_5) 6 j4_M0_6) 8 (u_61p18p46.1 0)) 9 (u_61p18p46.1 1)) 12 j4_M0_12) (vp_updL j 7 j4_M0_7)))] := hD
                refine lv_if_ne (tgt := 94) hx hb dX7_rowOf_87 (by decide) (fun c_87p18p46 => ?_) (fun c_87p18p46 => ?_)
                · have c_87p18p46 : ¬ r_84p18p46 = 0 := c_87p18p46
                  have f_94p18p46_5 : iR r_84p18p46 1 1 := iR_neL c_87p18p46 g_84p18p46_0 (iR_c (n := 0) (a := 0) (b := 0) (by decide +kernel) (by decide +kernel)) (by decide +kernel)
                  exact J_94p18p46   H locs ls (hP.sub [3, 0, 1, 2] rfl) (hD.sub [3, 0, 1, 2] (by decide +kernel) rfl) hS (lv_sub hl [1, 2, 3] rfl)
                · have c_87p18p46 : r_84p18p46 = 0 := c_87p18p46
                  have f_90p18p46_5 : iR r_84p18p46 0 0 := iR_eqL c_87p18p46 g_84p18p46_0 (iR_c (n := 0) (a := 0) (b := 0) (by decide +kernel) (by decide +kernel)) (by decide +kernel)
                  refine lv_iconst (v := 1) hx hb dX7_rowOf_90 (by decide +kernel) ?_
                  refine lv_goto (tgt := 95) hx hb dX7_rowOf_91 (by decide) ?_
                  refine lv_istore_n (lv' := [(3, .int 1), (4, .int r_9), (0, .ref h), (1, .int x1), (2, .int j4_L2)]) hx hb dX7_rowOf_95 rfl hl (by decide) rfl (fun ls hl => ?_)
                  refine lv_goto (tgt := 4) hx hb dX7_rowOf_96 (by decide) ?_
                  exact ih_4 j4_L2 1 j4_M0_3 j4_M0_4 j4_M0_5 j4_M0_6 j4_M0_7 (u_61p18p46.1 0) (u_61p18p46.1 1) j4_M0_12 hj4_L2 (iR_c (n := 1) (a := 0) (b := 1) (by decide +kernel) (by decide +kernel)) (iR_w f_79p18p46_4 (by decide +kernel)) hj4_M0_4 hj4_M0_5 hj4_M0_6 (iR_w f_71p18p46_3 (by decide +kernel)) (by have q0 : 0 ≤ j4_M0_5.toInt ∧ j4_M0_5.toInt ≤ 1600 := hj4_M0_5; have h9 := hm_4; omega) H locs ls (hP.sub [3, 0, 1, 2] rfl) (hD.sub [3, 0, 1, 2] (by decide +kernel) rfl) hS (lv_sub hl [2, 3, 4, 0] rfl)
          · exact iR_cl (iR_eqL (a' := 1) (b' := 0) c_46p18 f_42_2 (iR_c (n := 0) (a := 0) (b := 0) (by decide +kernel) (by decide +kernel)) (by decide +kernel)) (by decide +kernel)
        · have c_18 : (u_9.1 0) = 0 := c_18
          have f_21_2 : iR (u_9.1 0) 0 0 := iR_eqL c_18 g_9_1 (iR_c (n := 0) (a := 0) (b := 0) (by decide +kernel) (by decide +kernel)) (by decide +kernel)
          refine lv_iload_n hx hb dX7_rowOf_21 rfl (lv_at hl 3 rfl) ?_
          refine lv_iload_n hx hb dX7_rowOf_22 rfl (lv_at hl 2 rfl) ?_
          refine lv_ior hx hb dX7_rowOf_23 ?_
          refine lv_topi (fun y_23 ey_23 => ?_)
          refine lv_iload hx hb dX7_rowOf_24 (lv_at hl 0 rfl) ?_
          refine lv_ishr hx hb dX7_rowOf_26 ?_
          refine lv_topi (fun y_26 ey_26 => ?_)
          refine lv_iconst (v := 1) hx hb dX7_rowOf_27 (by decide +kernel) ?_
          refine lv_iand hx hb dX7_rowOf_28 ?_
          refine lv_topi (fun y_28 ey_28 => ?_)
          have f_28_3 : iR y_28 0 1 := iR_andR ey_28 (iR_c (n := 1) (a := 1) (b := 1) (by decide +kernel) (by decide +kernel)) (by decide +kernel)
          refine lv_iconst (v := 1) hx hb dX7_rowOf_29 (by decide +kernel) ?_
          refine lv_icmp_ne (tgt := 42) hx hb dX7_rowOf_30 (by decide) (fun c_30 => ?_) (fun c_30 => ?_)
          · have c_30 : ¬ y_28 = 1 := c_30
            have f_42_4 : iR y_28 0 0 := iR_neL c_30 f_28_3 (iR_c (n := 1) (a := 1) (b := 1) (by decide +kernel) (by decide +kernel)) (by decide +kernel)
            refine lv_aload_n hx hb dX7_rowOf_42 rfl (lv_at hl 1 rfl) ?_
            refine k_get (D := (dC, dI)) (ci := 7) (v := .int (u_9.1 0)) (C := RX7) (T := TX7) (N := 92) hx hb hts hinX7 hown hK hP 1 rfl rfl 8 (by decide) w_0 rfl rfl dX7_rowOf_43 ?_
            refine lv_if_ne (tgt := 60) hx hb dX7_rowOf_46 (by decide) (fun c_46p30 => ?_) (fun c_46p30 => ?_)
            · exact absurd (i_eqc f_21_2 (iR_c (n := 0) (a := 0) (b := 0) (by decide +kernel) (by decide +kernel))) c_46p30
            · have c_46p30 : (u_9.1 0) = 0 := c_46p30
              refine lv_iload_n hx hb dX7_rowOf_49 rfl (lv_at hl 3 rfl) ?_
              refine lv_iconst (v := 1) hx hb dX7_rowOf_50 (by decide +kernel) ?_
              refine lv_iload hx hb dX7_rowOf_51 (lv_at hl 0 rfl) ?_
              refine lv_ishl hx hb dX7_rowOf_53 ?_
              refine lv_topi (fun y_53p30 ey_53p30 => ?_)
              have f_53p30_5 : iR y_53p30 1 512 := iR_shl 9 ey_53p30 (iR_c (n := 1) (a := 1) (b := 1) (by decide +kernel) (by decide +kernel)) g_9_0 (by decide +kernel)
              refine lv_ior hx hb dX7_rowOf_54 ?_
              refine lv_topi (fun y_54p30 ey_54p30 => ?_)
              have f_54p30_6 : iR y_54p30 0 1023 := iR_or 10 ey_54p30 hj4_L2 f_53p30_5 (by decide +kernel)
              refine lv_istore_n (lv' := [(2, .int y_54p30), (4, .int r_9), (0, .ref h), (1, .int x1), (3, .int j4_L3)]) hx hb dX7_rowOf_55 rfl hl (by decide) rfl (fun ls hl => ?_)
              refine lv_aload_n hx hb dX7_rowOf_56 rfl (lv_at hl 2 rfl) ?_
              refine k_cv (wc := [(h, .inr (7, oM r (upd (upd (upd (upd (upd (upd (upd i 3 j4_M0_3) 4 j4_M0_4) 5 j4_M0_5) 6 j4_M0_6) 8 (u_9.1 0)) 9 (u_9.1 1)) 12 j4_M0_12) (vp_updL j 7 j4_M0_7))), ((r 0), .inl (cI, 1800, .inl f0))]) (wr := [((r 14), .inl (cI, 2, .inl f14)), ((r 34), .inl (cJ, 20, .inr (.inl g34)))]) (fun hPc hDc hFc => va_runV (As := []) (rest := []) ⟨hx, hb, hml, hown, hts⟩ (s_X7_ahead_v7 l dC dI cI cJ cZ cM h r (upd (upd (upd (upd (upd (upd (upd i 3 j4_M0_3) 4 j4_M0_4) 5 j4_M0_5) 6 j4_M0_6) 8 (u_9.1 0)) 9 (u_9.1 1)) 12 j4_M0_12) (vp_updL j 7 j4_M0_7) f0 (mR_upd 12 (mR_upd 9 (mR_upd 8 (mR_upd 6 (mR_upd 5 (mR_upd 4 (mR_upd 3 hI (show iR _ (loI 3) (hiI 3) from hj4_M0_3)) (show iR _ (loI 4) (hiI 4) from hj4_M0_4)) (show iR _ (loI 5) (hiI 5) from hj4_M0_5)) (show iR _ (loI 6) (hiI 6) from hj4_M0_6)) (show iR _ (loI 8) (hiI 8) from (iR_w f_21_2 (by decide +kernel)))) (show iR _ (loI 9) (hiI 9) from (iR_top _))) (show iR _ (loI 12) (hiI 12) from (iR_top _))) hf0 H.size) (cwV 0 hts gX7_rowOf_X7_ahead rfl rfl rfl (by decide +kernel) ⟨(Nat.le_of_ble_eq_true rfl), (Nat.le_of_ble_eq_true rfl)⟩) (k_pV hPc hDc hK hN hC hS hFc hP (q0 := 1) (ci := 7) rfl rfl) rfl rfl hl.1 rfl (lv_room (Nat.le_of_ble_eq_true rfl)) dX7_rowOf_57 ⟨(Nat.le_of_ble_eq_true rfl), (Nat.le_of_ble_eq_true rfl)⟩) hP hD hS hA [1, 0] [2, 3] rfl rfl rfl rfl (by decide) (fun _ => rfl) 0 0 rfl rfl (fun u_57p30 H locs hw hP hD hS => ?_)
              obtain ⟨g_57p30_0, g_57p30_1, g_57p30_2, g_57p30_3, g_57p30_4, g_57p30_5, g_57p30_6, g_57p30_7, g_57p30_8, g_57p30_9⟩ := hw
              have hP : va_P (dC, dI) vwCl [((r 14), .inl (cI, 2, .inl f14)), ((r 34), .inl (cJ, 20, .inr (.inl g34))), (h, .inr (7, oM r (upd (upd (upd (upd (upd (upd (upd i 3 (u_57p30.1 0)) 4 (u_57p30.1 1)) 5 (u_57p30.1 2)) 6 (u_57p30.1 3)) 8 (u_9.1 0)) 9 (u_9.1 1)) 12 (u_57p30.1 4)) (vp_updL j 7 (u_57p30.2.1 0)))), ((r 0), .inl (cI, 1800, .inl f0))] H := hP
              have hD : va_D A [((r 14), .inl (cI, 2, .inl f14)), ((r 34), .inl (cJ, 20, .inr (.inl g34))), (h, .inr (7, oM r (upd (upd (upd (upd (upd (upd (upd i 3 (u_57p30.1 0)) 4 (u_57p30.1 1)) 5 (u_57p30.1 2)) 6 (u_57p30.1 3)) 8 (u_9.1 0)) 9 (u_9.1 1)) 12 (u_57p30.1 4)) (vp_updL j 7 (u_57p30.2.1 0)))), ((r 0), .inl (cI, 1800, .inl f0))] := hD
              have g_57p30_0 : j4_M0_5 ≤ (u_57p30.1 1) := g_57p30_0
              have g_57p30_1 : (u_57p30.1 1) ≤ (u_57p30.1 2) := g_57p30_1
              have g_57p30_7 : TM (u_57p30.1 2) (u_57p30.1 0) ≤ TM j4_M0_5 j4_M0_3 := g_57p30_7
              have g_57p30_8 : ((u_57p30.1 0) = 0) ∨ ((j4_M0_5 < (u_57p30.1 2)) ∧ ((u_57p30.1 1) < (u_57p30.1 2)) ∧ ((u_57p30.1 1) < (i 2))) := g_57p30_8
              have g_57p30_9 : (j4_M0_3 = 0) ∨ ((TM (u_57p30.1 2) (u_57p30.1 0) < TM j4_M0_5 j4_M0_3)) := g_57p30_9
              refine lv_aload_n hx hb dX7_rowOf_60 rfl (lv_at hl 2 rfl) ?_
              refine k_cv (wc := [(h, .inr (7, oM r (upd (upd (upd (upd (upd (upd (upd i 3 (u_57p30.1 0)) 4 (u_57p30.1 1)) 5 (u_57p30.1 2)) 6 (u_57p30.1 3)) 8 (u_9.1 0)) 9 (u_9.1 1)) 12 (u_57p30.1 4)) (vp_updL j 7 (u_57p30.2.1 0))))]) (wr := [((r 14), .inl (cI, 2, .inl f14)), ((r 34), .inl (cJ, 20, .inr (.inl g34))), ((r 0), .inl (cI, 1800, .inl f0))]) (fun hPc hDc hFc => va_runV (As := []) (rest := []) ⟨hx, hb, hml, hown, hts⟩ (s_X7_lex_v7 l dC dI cI cJ cZ cM h r (upd (upd (upd (upd (upd (upd (upd i 3 (u_57p30.1 0)) 4 (u_57p30.1 1)) 5 (u_57p30.1 2)) 6 (u_57p30.1 3)) 8 (u_9.1 0)) 9 (u_9.1 1)) 12 (u_57p30.1 4)) (vp_updL j 7 (u_57p30.2.1 0)) (mR_upd 12 (mR_upd 9 (mR_upd 8 (mR_upd 6 (mR_upd 5 (mR_upd 4 (mR_upd 3 hI (show iR _ (loI 3) (hiI 3) from g_57p30_2)) (show iR _ (loI 4) (hiI 4) from g_57p30_3)) (show iR _ (loI 5) (hiI 5) from g_57p30_4)) (show iR _ (loI 6) (hiI 6) from g_57p30_5)) (show iR _ (loI 8) (hiI 8) from (iR_w f_21_2 (by decide +kernel)))) (show iR _ (loI 9) (hiI 9) from (iR_top _))) (show iR _ (loI 12) (hiI 12) from (iR_top _))) H.size) (cwV 0 hts gX7_rowOf_X7_lex rfl rfl rfl (by decide +kernel) ⟨(Nat.le_of_ble_eq_true rfl), (Nat.le_of_ble_eq_true rfl)⟩) (k_pV hPc hDc hK hN hC hS hFc hP (q0 := 2) (ci := 7) rfl rfl) rfl rfl hl.1 rfl (lv_room (Nat.le_of_ble_eq_true rfl)) dX7_rowOf_61 ⟨(Nat.le_of_ble_eq_true rfl), (Nat.le_of_ble_eq_true rfl)⟩) hP hD hS hA [2] [0, 1, 3] rfl rfl rfl rfl (by decide) (fun _ => rfl) 0 0 rfl rfl (fun u_61p30p57 H locs hw hP hD hS => ?_)
              have g_61p30p57_0 := hw
              have hP : va_P (dC, dI) vwCl [((r 14), .inl (cI, 2, .inl f14)), ((r 34), .inl (cJ, 20, .inr (.inl g34))), ((r 0), .inl (cI, 1800, .inl f0)), (h, .inr (7, oM r (upd (upd (upd (upd (upd (upd (upd i 3 (u_57p30.1 0)) 4 (u_57p30.1 1)) 5 (u_57p30.1 2)) 6 (u_57p30.1 3)) 8 (u_61p30p57.1 0)) 9 (u_61p30p57.1 1)) 12 (u_57p30.1 4)) (vp_updL j 7 (u_57p30.2.1 0))))] H := hP
              have hD : va_D A [((r 14), .inl (cI, 2, .inl f14)), ((r 34), .inl (cJ, 20, .inr (.inl g34))), ((r 0), .inl (cI, 1800, .inl f0)), (h, .inr (7, oM r (upd (upd (upd (upd (upd (upd (upd i 3 (u_57p30.1 0)) 4 (u_57p30.1 1)) 5 (u_57p30.1 2)) 6 (u_57p30.1 3)) 8 (u_61p30p57.1 0)) 9 (u_61p30p57.1 1)) 12 (u_57p30.1 4)) (vp_updL j 7 (u_57p30.2.1 0))))] := hD
              refine lv_aload_n hx hb dX7_rowOf_64 rfl (lv_at hl 2 rfl) ?_
              refine k_get (D := (dC, dI)) (ci := 7) (v := .int (u_61p30p57.1 0)) (C := RX7) (T := TX7) (N := 92) hx hb hts hinX7 hown hK hP 3 rfl rfl 8 (by decide) w_0 rfl rfl dX7_rowOf_65 ?_
              have J_94p30p57 : ∀   (H : Heap) (locs : List Loc) (ls : Array Slot), va_P (dC, dI) vwCl [(h, .inr (7, oM r (upd (upd (upd (upd (upd (upd (upd i 3 (u_57p30.1 0)) 4 (u_57p30.1 1)) 5 (u_57p30.1 2)) 6 (u_57p30.1 3)) 8 (u_61p30p57.1 0)) 9 (u_61p30p57.1 1)) 12 (u_57p30.1 4)) (vp_updL j 7 (u_57p30.2.1 0)))), ((r 0), .inl (cI, 1800, .inl f0)), ((r 14), .inl (cI, 2, .inl f14)), ((r 34), .inl (cJ, 20, .inr (.inl g34)))] H → va_D A [(h, .inr (7, oM r (upd (upd (upd (upd (upd (upd (upd i 3 (u_57p30.1 0)) 4 (u_57p30.1 1)) 5 (u_57p30.1 2)) 6 (u_57p30.1 3)) 8 (u_61p30p57.1 0)) 9 (u_61p30p57.1 1)) 12 (u_57p30.1 4)) (vp_updL j 7 (u_57p30.2.1 0)))), ((r 0), .inl (cI, 1800, .inl f0)), ((r 14), .inl (cI, 2, .inl f14)), ((r 34), .inl (cJ, 20, .inr (.inl g34)))] → va_S A s.heap H locs → lv_has ls 5 [(0, .ref h), (1, .int x1), (2, .int y_54p30)] → W p l e ({ frames := 4, cells := 0, slots := 0, locals := 108 }) s m args below meth c H locs 0 0 (MQ below (va_Qi (fun (r9 : Int32) (u9 : SU) => (iR r9 0 1023) ∧ (iR (u9.1 0) 0 3) ∧ (iR (u9.1 1) 0 1600) ∧ (iR (u9.1 2) 0 1600) ∧ (iR (u9.1 3) 0 9999) ∧ (iR (u9.1 4) 0 6)) (fun u => k_B (dC, dI) vwCl (tyy cI cJ cZ cM) A ((fun (u9 : SU) => [(h, .inr (7, oM r (upd (upd (upd (upd (upd (upd (upd i 3 (u9.1 0)) 4 (u9.1 1)) 5 (u9.1 2)) 6 (u9.1 3)) 8 (u9.1 4)) 9 (u9.1 5)) 12 (u9.1 6)) (vp_updL j 7 (u9.2.1 0)))), ((r 0), .inl (cI, 1800, .inl f0)), ((r 14), .inl (cI, 2, .inl f14)), ((r 34), .inl (cJ, 20, .inr (.inl g34)))]) u)) A) args s 0 0 A) (F0 m 94 ls []) := by
                intro   H locs ls hP hD hS hl
                refine lv_iconst (v := 0) hx hb dX7_rowOf_94 (by decide +kernel) ?_
                refine lv_istore_n (lv' := [(3, .int 0), (0, .ref h), (1, .int x1), (2, .int y_54p30)]) hx hb dX7_rowOf_95 rfl hl (by decide) rfl (fun ls hl => ?_)
                refine lv_goto (tgt := 4) hx hb dX7_rowOf_96 (by decide) ?_
                exact ih_4 y_54p30 0 (u_57p30.1 0) (u_57p30.1 1) (u_57p30.1 2) (u_57p30.1 3) (u_57p30.2.1 0) (u_61p30p57.1 0) (u_61p30p57.1 1) (u_57p30.1 4) f_54p30_6 (iR_c (n := 0) (a := 0) (b := 1) (by decide +kernel) (by decide +kernel)) g_57p30_2 g_57p30_3 g_57p30_4 g_57p30_5 g_61p30p57_0 (by have q0 : 0 ≤ j4_M0_5.toInt ∧ j4_M0_5.toInt ≤ 1600 := hj4_M0_5; have q1 : 0 ≤ (u_57p30.1 2).toInt ∧ (u_57p30.1 2).toInt ≤ 1600 := g_57p30_4; have h9 := hm_4; omega) H locs ls hP hD hS (lv_sub hl [1, 2, 3, 0] rfl)
              refine lv_if_ne (tgt := 94) hx hb dX7_rowOf_68 (by decide) (fun c_68p30p57 => ?_) (fun c_68p30p57 => ?_)
              · have c_68p30p57 : ¬ (u_61p30p57.1 0) = 0 := c_68p30p57
                have f_94p30p57_7 : iR (u_61p30p57.1 0) 1 6 := iR_neL c_68p30p57 g_61p30p57_0 (iR_c (n := 0) (a := 0) (b := 0) (by decide +kernel) (by decide +kernel)) (by decide +kernel)
                exact J_94p30p57   H locs ls (hP.sub [3, 2, 0, 1] rfl) (hD.sub [3, 2, 0, 1] (by decide +kernel) rfl) hS (lv_sub hl [2, 3, 0] rfl)
              · have c_68p30p57 : (u_61p30p57.1 0) = 0 := c_68p30p57
                have f_71p30p57_7 : iR (u_61p30p57.1 0) 0 0 := iR_eqL c_68p30p57 g_61p30p57_0 (iR_c (n := 0) (a := 0) (b := 0) (by decide +kernel) (by decide +kernel)) (by decide +kernel)
                refine lv_aload_n hx hb dX7_rowOf_71 rfl (lv_at hl 2 rfl) ?_
                refine k_get (D := (dC, dI)) (ci := 7) (v := .int (u_57p30.1 0)) (C := RX7) (T := TX7) (N := 92) hx hb hts hinX7 hown hK hP 3 rfl rfl 3 (by decide) w_1 rfl rfl dX7_rowOf_72 ?_
                refine lv_iconst (v := 1) hx hb dX7_rowOf_75 (by decide +kernel) ?_
                refine lv_icmp_ne (tgt := 94) hx hb dX7_rowOf_76 (by decide) (fun c_76p30p57 => ?_) (fun c_76p30p57 => ?_)
                · have c_76p30p57 : ¬ (u_57p30.1 0) = 1 := c_76p30p57
                  exact J_94p30p57   H locs ls (hP.sub [3, 2, 0, 1] rfl) (hD.sub [3, 2, 0, 1] (by decide +kernel) rfl) hS (lv_sub hl [2, 3, 0] rfl)
                · have c_76p30p57 : (u_57p30.1 0) = 1 := c_76p30p57
                  have f_79p30p57_8 : iR (u_57p30.1 0) 1 1 := iR_eqL c_76p30p57 g_57p30_2 (iR_c (n := 1) (a := 1) (b := 1) (by decide +kernel) (by decide +kernel)) (by decide +kernel)
                  obtain ⟨d_76p30p57_1_0, d_76p30p57_1_1, d_76p30p57_1_2⟩ := g_57p30_8.resolve_left (i_nef f_79p30p57_8 (iR_c (n := 0) (a := 0) (b := 0) (by decide +kernel) (by decide +kernel)) (by decide +kernel))
                  have f_79p30p57_9 : iR j4_M0_5 0 1599 := iR_ltL d_76p30p57_1_0 hj4_M0_5 g_57p30_4 (by decide +kernel)
                  have f_79p30p57_10 : iR (u_57p30.1 2) 1 1600 := iR_ltR d_76p30p57_1_0 hj4_M0_5 g_57p30_4 (by decide +kernel)
                  have f_79p30p57_11 : iR (u_57p30.1 1) 0 1599 := iR_ltL d_76p30p57_1_1 g_57p30_3 f_79p30p57_10 (by decide +kernel)
                  have f_79p30p57_12 : iR (i 2) 1 1600 := iR_ltR d_76p30p57_1_2 f_79p30p57_11 (show iR (i 2) 0 1600 from hI 2) (by decide +kernel)
                  refine lv_aload_n hx hb dX7_rowOf_79 rfl (lv_at hl 2 rfl) ?_
                  refine lv_aload_n hx hb dX7_rowOf_80 rfl (lv_at hl 2 rfl) ?_
                  refine k_get (D := (dC, dI)) (ci := 7) (v := .long (u_57p30.2.1 0)) (C := RX7) (T := TX7) (N := 92) hx hb hts hinX7 hown hK hP 3 rfl rfl 7 (by decide) w_2 rfl rfl dX7_rowOf_81 ?_
                  refine k_ci (wc := []) (wr := [((r 14), .inl (cI, 2, .inl f14)), ((r 34), .inl (cJ, 20, .inr (.inl g34))), ((r 0), .inl (cI, 1800, .inl f0)), (h, .inr (7, oM r (upd (upd (upd (upd (upd (upd (upd i 3 (u_57p30.1 0)) 4 (u_57p30.1 1)) 5 (u_57p30.1 2)) 6 (u_57p30.1 3)) 8 (u_61p30p57.1 0)) 9 (u_61p30p57.1 1)) 12 (u_57p30.1 4)) (vp_updL j 7 (u_57p30.2.1 0))))]) (fun hPc hDc hFc => va_runV (As := [.long (u_57p30.2.1 0)]) (rest := []) ⟨hx, hb, hml, hown, hts⟩ (s_X7_isOwn_v8 l dC dI cI cJ cZ cM h (u_57p30.2.1 0) H.size) (cwV 1 hts gX7_rowOf_X7_isOwn rfl rfl rfl (by decide +kernel) ⟨(Nat.le_of_ble_eq_true rfl), (Nat.le_of_ble_eq_true rfl)⟩) (k_pV hPc hDc hK hN hC hS hFc hP (q0 := 3) (ci := 7) rfl rfl) rfl rfl hl.1 rfl (lv_room (Nat.le_of_ble_eq_true rfl)) dX7_rowOf_84 ⟨(Nat.le_of_ble_eq_true rfl), (Nat.le_of_ble_eq_true rfl)⟩) hP hD hS hA [] [0, 1, 2, 3] rfl rfl rfl rfl (by decide) (fun _ => rfl) 0 0 rfl rfl (fun r_84p30p57 u_84p30p57 H locs hw hP hD hS => ?_)
                  have g_84p30p57_0 := hw
                  have hP : va_P (dC, dI) vwCl [((r 14), .inl (cI, 2, .inl f14)), ((r 34), .inl (cJ, 20, .inr (.inl g34))), ((r 0), .inl (cI, 1800, .inl f0)), (h, .inr (7, oM r (upd (upd (upd (upd (upd (upd (upd i 3 (u_57p30.1 0)) 4 (u_57p30.1 1)) 5 (u_57p30.1 2)) 6 (u_57p30.1 3)) 8 (u_61p30p57.1 0)) 9 (u_61p30p57.1 1)) 12 (u_57p30.1 4)) (vp_updL j 7 (u_57p30.2.1 0))))] H := hP
                  have hD : va_D A [((r 14), .inl (cI, 2, .inl f14)), ((r 34), .inl (cJ, 20, .inr (.inl g34))), ((r 0), .inl (cI, 1800, .inl f0)), (h, .inr (7, oM r (upd (upd (upd (upd (upd (upd (upd i 3 (u_57p30.1 0)) 4 (u_57p30.1 1)) 5 (u_57p30.1 2)) 6 (u_57p30.1 3)) 8 (u_61p30p57.1 0)) 9 (u_61p30p57.1 1)) 12 (u_57p30.1 4)) (vp_updL j 7 (u_57p30.2.1 0))))] := hD
                  refine lv_if_ne (tgt := 94) hx hb dX7_rowOf_87 (by decide) (fun c_87p30p57 => ?_) (fun c_87p30p57 => ?_)
                  · have c_87p30p57 : ¬ r_84p30p57 = 0 := c_87p30p57
                    have f_94p30p57_13 : iR r_84p30p57 1 1 := iR_neL c_87p30p57 g_84p30p57_0 (iR_c (n := 0) (a := 0) (b := 0) (by decide +kernel) (by decide +kernel)) (by decide +kernel)
                    exact J_94p30p57   H locs ls (hP.sub [3, 2, 0, 1] rfl) (hD.sub [3, 2, 0, 1] (by decide +kernel) rfl) hS (lv_sub hl [2, 3, 0] rfl)
                  · have c_87p30p57 : r_84p30p57 = 0 := c_87p30p57
                    have f_90p30p57_13 : iR r_84p30p57 0 0 := iR_eqL c_87p30p57 g_84p30p57_0 (iR_c (n := 0) (a := 0) (b := 0) (by decide +kernel) (by decide +kernel)) (by decide +kernel)
                    refine lv_iconst (v := 1) hx hb dX7_rowOf_90 (by decide +kernel) ?_
                    refine lv_goto (tgt := 95) hx hb dX7_rowOf_91 (by decide) ?_
                    refine lv_istore_n (lv' := [(3, .int 1), (2, .int y_54p30), (4, .int r_9), (0, .ref h), (1, .int x1)]) hx hb dX7_rowOf_95 rfl hl (by decide) rfl (fun ls hl => ?_)
                    refine lv_goto (tgt := 4) hx hb dX7_rowOf_96 (by decide) ?_
                    exact ih_4 y_54p30 1 (u_57p30.1 0) (u_57p30.1 1) (u_57p30.1 2) (u_57p30.1 3) (u_57p30.2.1 0) (u_61p30p57.1 0) (u_61p30p57.1 1) (u_57p30.1 4) f_54p30_6 (iR_c (n := 1) (a := 0) (b := 1) (by decide +kernel) (by decide +kernel)) (iR_w f_79p30p57_8 (by decide +kernel)) (iR_w f_79p30p57_11 (by decide +kernel)) (iR_w f_79p30p57_10 (by decide +kernel)) g_57p30_5 (iR_w f_71p30p57_7 (by decide +kernel)) (by have q0 : 0 ≤ j4_M0_5.toInt ∧ j4_M0_5.toInt ≤ 1599 := f_79p30p57_9; have q1 : 1 ≤ (u_57p30.1 2).toInt ∧ (u_57p30.1 2).toInt ≤ 1600 := f_79p30p57_10; have r1 : j4_M0_5.toInt < (u_57p30.1 2).toInt := i_ti_lt rfl rfl d_76p30p57_1_0; have h9 := hm_4; omega) H locs ls (hP.sub [3, 2, 0, 1] rfl) (hD.sub [3, 2, 0, 1] (by decide +kernel) rfl) hS (lv_sub hl [3, 4, 1, 0] rfl)
          · have c_30 : y_28 = 1 := c_30
            have f_33_4 : iR y_28 1 1 := iR_eqL c_30 f_28_3 (iR_c (n := 1) (a := 1) (b := 1) (by decide +kernel) (by decide +kernel)) (by decide +kernel)
            refine lv_aload_n hx hb dX7_rowOf_33 rfl (lv_at hl 1 rfl) ?_
            refine lv_iconst (v := 3) hx hb dX7_rowOf_34 (by decide +kernel) ?_
            refine lv_aload_n hx hb dX7_rowOf_35 rfl (lv_at hl 1 rfl) ?_
            refine k_get (D := (dC, dI)) (ci := 7) (v := .int j4_M0_4) (C := RX7) (T := TX7) (N := 92) hx hb hts hinX7 hown hK hP 1 rfl rfl 4 (by decide) w_3 rfl rfl dX7_rowOf_36 ?_
            refine k_cv (wc := [(h, .inr (7, oM r (upd (upd (upd (upd (upd (upd (upd i 3 j4_M0_3) 4 j4_M0_4) 5 j4_M0_5) 6 j4_M0_6) 8 (u_9.1 0)) 9 (u_9.1 1)) 12 j4_M0_12) (vp_updL j 7 j4_M0_7)))]) (wr := [((r 0), .inl (cI, 1800, .inl f0)), ((r 14), .inl (cI, 2, .inl f14)), ((r 34), .inl (cJ, 20, .inr (.inl g34)))]) (fun hPc hDc hFc => va_runV (As := [.int 3, .int j4_M0_4]) (rest := []) ⟨hx, hb, hml, hown, hts⟩ (s_X7_blame_v9 l dC dI cI cJ cZ cM h r (upd (upd (upd (upd (upd (upd (upd i 3 j4_M0_3) 4 j4_M0_4) 5 j4_M0_5) 6 j4_M0_6) 8 (u_9.1 0)) 9 (u_9.1 1)) 12 j4_M0_12) (vp_updL j 7 j4_M0_7) 3 j4_M0_4 (iR_c (n := 3) (a := 1) (b := 6) (by decide +kernel) (by decide +kernel)) (mR_upd 12 (mR_upd 9 (mR_upd 8 (mR_upd 6 (mR_upd 5 (mR_upd 4 (mR_upd 3 hI (show iR _ (loI 3) (hiI 3) from hj4_M0_3)) (show iR _ (loI 4) (hiI 4) from hj4_M0_4)) (show iR _ (loI 5) (hiI 5) from hj4_M0_5)) (show iR _ (loI 6) (hiI 6) from hj4_M0_6)) (show iR _ (loI 8) (hiI 8) from (iR_w f_21_2 (by decide +kernel)))) (show iR _ (loI 9) (hiI 9) from (iR_top _))) (show iR _ (loI 12) (hiI 12) from (iR_top _))) H.size) (cwV 2 hts gX7_rowOf_X7_blame rfl rfl rfl (by decide +kernel) ⟨(Nat.le_of_ble_eq_true rfl), (Nat.le_of_ble_eq_true rfl)⟩) (k_pV hPc hDc hK hN hC hS hFc hP (q0 := 1) (ci := 7) rfl rfl) rfl rfl hl.1 rfl (lv_room (Nat.le_of_ble_eq_true rfl)) dX7_rowOf_39 ⟨(Nat.le_of_ble_eq_true rfl), (Nat.le_of_ble_eq_true rfl)⟩) hP hD hS hA [1] [0, 2, 3] rfl rfl rfl rfl (by decide) (fun _ => rfl) 0 0 rfl rfl (fun u_39 H locs hw hP hD hS => ?_)
            have g_39_0 := hw
            have hP : va_P (dC, dI) vwCl [((r 0), .inl (cI, 1800, .inl f0)), ((r 14), .inl (cI, 2, .inl f14)), ((r 34), .inl (cJ, 20, .inr (.inl g34))), (h, .inr (7, oM r (upd (upd (upd (upd (upd (upd (upd i 3 j4_M0_3) 4 j4_M0_4) 5 j4_M0_5) 6 j4_M0_6) 8 (u_39.1 0)) 9 (u_39.1 1)) 12 j4_M0_12) (vp_updL j 7 j4_M0_7)))] H := hP
            have hD : va_D A [((r 0), .inl (cI, 1800, .inl f0)), ((r 14), .inl (cI, 2, .inl f14)), ((r 34), .inl (cJ, 20, .inr (.inl g34))), (h, .inr (7, oM r (upd (upd (upd (upd (upd (upd (upd i 3 j4_M0_3) 4 j4_M0_4) 5 j4_M0_5) 6 j4_M0_6) 8 (u_39.1 0)) 9 (u_39.1 1)) 12 j4_M0_12) (vp_updL j 7 j4_M0_7)))] := hD
            refine lv_aload_n hx hb dX7_rowOf_42 rfl (lv_at hl 1 rfl) ?_
            refine k_get (D := (dC, dI)) (ci := 7) (v := .int (u_39.1 0)) (C := RX7) (T := TX7) (N := 92) hx hb hts hinX7 hown hK hP 3 rfl rfl 8 (by decide) w_0 rfl rfl dX7_rowOf_43 ?_
            refine lv_if_ne (tgt := 60) hx hb dX7_rowOf_46 (by decide) (fun c_46p39 => ?_) (fun c_46p39 => ?_)
            · have c_46p39 : ¬ (u_39.1 0) = 0 := c_46p39
              refine lv_aload_n hx hb dX7_rowOf_60 rfl (lv_at hl 1 rfl) ?_
              refine k_cv (wc := [(h, .inr (7, oM r (upd (upd (upd (upd (upd (upd (upd i 3 j4_M0_3) 4 j4_M0_4) 5 j4_M0_5) 6 j4_M0_6) 8 (u_39.1 0)) 9 (u_39.1 1)) 12 j4_M0_12) (vp_updL j 7 j4_M0_7)))]) (wr := [((r 0), .inl (cI, 1800, .inl f0)), ((r 14), .inl (cI, 2, .inl f14)), ((r 34), .inl (cJ, 20, .inr (.inl g34)))]) (fun hPc hDc hFc => va_runV (As := []) (rest := []) ⟨hx, hb, hml, hown, hts⟩ (s_X7_lex_v7 l dC dI cI cJ cZ cM h r (upd (upd (upd (upd (upd (upd (upd i 3 j4_M0_3) 4 j4_M0_4) 5 j4_M0_5) 6 j4_M0_6) 8 (u_39.1 0)) 9 (u_39.1 1)) 12 j4_M0_12) (vp_updL j 7 j4_M0_7) (mR_upd 12 (mR_upd 9 (mR_upd 8 (mR_upd 6 (mR_upd 5 (mR_upd 4 (mR_upd 3 hI (show iR _ (loI 3) (hiI 3) from hj4_M0_3)) (show iR _ (loI 4) (hiI 4) from hj4_M0_4)) (show iR _ (loI 5) (hiI 5) from hj4_M0_5)) (show iR _ (loI 6) (hiI 6) from hj4_M0_6)) (show iR _ (loI 8) (hiI 8) from (iR_w g_39_0 (by decide +kernel)))) (show iR _ (loI 9) (hiI 9) from (iR_top _))) (show iR _ (loI 12) (hiI 12) from (iR_top _))) H.size) (cwV 0 hts gX7_rowOf_X7_lex rfl rfl rfl (by decide +kernel) ⟨(Nat.le_of_ble_eq_true rfl), (Nat.le_of_ble_eq_true rfl)⟩) (k_pV hPc hDc hK hN hC hS hFc hP (q0 := 3) (ci := 7) rfl rfl) rfl rfl hl.1 rfl (lv_room (Nat.le_of_ble_eq_true rfl)) dX7_rowOf_61 ⟨(Nat.le_of_ble_eq_true rfl), (Nat.le_of_ble_eq_true rfl)⟩) hP hD hS hA [3] [0, 1, 2] rfl rfl rfl rfl (by decide) (fun _ => rfl) 0 0 rfl rfl (fun u_61p39p46 H locs hw hP hD hS => ?_)
              have g_61p39p46_0 := hw
              have hP : va_P (dC, dI) vwCl [((r 0), .inl (cI, 1800, .inl f0)), ((r 14), .inl (cI, 2, .inl f14)), ((r 34), .inl (cJ, 20, .inr (.inl g34))), (h, .inr (7, oM r (upd (upd (upd (upd (upd (upd (upd i 3 j4_M0_3) 4 j4_M0_4) 5 j4_M0_5) 6 j4_M0_6) 8 (u_61p39p46.1 0)) 9 (u_61p39p46.1 1)) 12 j4_M0_12) (vp_updL j 7 j4_M0_7)))] H := hP
              have hD : va_D A [((r 0), .inl (cI, 1800, .inl f0)), ((r 14), .inl (cI, 2, .inl f14)), ((r 34), .inl (cJ, 20, .inr (.inl g34))), (h, .inr (7, oM r (upd (upd (upd (upd (upd (upd (upd i 3 j4_M0_3) 4 j4_M0_4) 5 j4_M0_5) 6 j4_M0_6) 8 (u_61p39p46.1 0)) 9 (u_61p39p46.1 1)) 12 j4_M0_12) (vp_updL j 7 j4_M0_7)))] := hD
              refine lv_aload_n hx hb dX7_rowOf_64 rfl (lv_at hl 1 rfl) ?_
              refine k_get (D := (dC, dI)) (ci := 7) (v := .int (u_61p39p46.1 0)) (C := RX7) (T := TX7) (N := 92) hx hb hts hinX7 hown hK hP 3 rfl rfl 8 (by decide) w_0 rfl rfl dX7_rowOf_65 ?_
              have J_94p39p46 : ∀   (H : Heap) (locs : List Loc) (ls : Array Slot), va_P (dC, dI) vwCl [(h, .inr (7, oM r (upd (upd (upd (upd (upd (upd (upd i 3 j4_M0_3) 4 j4_M0_4) 5 j4_M0_5) 6 j4_M0_6) 8 (u_61p39p46.1 0)) 9 (u_61p39p46.1 1)) 12 j4_M0_12) (vp_updL j 7 j4_M0_7))), ((r 0), .inl (cI, 1800, .inl f0)), ((r 14), .inl (cI, 2, .inl f14)), ((r 34), .inl (cJ, 20, .inr (.inl g34)))] H → va_D A [(h, .inr (7, oM r (upd (upd (upd (upd (upd (upd (upd i 3 j4_M0_3) 4 j4_M0_4) 5 j4_M0_5) 6 j4_M0_6) 8 (u_61p39p46.1 0)) 9 (u_61p39p46.1 1)) 12 j4_M0_12) (vp_updL j 7 j4_M0_7))), ((r 0), .inl (cI, 1800, .inl f0)), ((r 14), .inl (cI, 2, .inl f14)), ((r 34), .inl (cJ, 20, .inr (.inl g34)))] → va_S A s.heap H locs → lv_has ls 5 [(0, .ref h), (1, .int x1), (2, .int j4_L2)] → W p l e ({ frames := 4, cells := 0, slots := 0, locals := 108 }) s m args below meth c H locs 0 0 (MQ below (va_Qi (fun (r9 : Int32) (u9 : SU) => (iR r9 0 1023) ∧ (iR (u9.1 0) 0 3) ∧ (iR (u9.1 1) 0 1600) ∧ (iR (u9.1 2) 0 1600) ∧ (iR (u9.1 3) 0 9999) ∧ (iR (u9.1 4) 0 6)) (fun u => k_B (dC, dI) vwCl (tyy cI cJ cZ cM) A ((fun (u9 : SU) => [(h, .inr (7, oM r (upd (upd (upd (upd (upd (upd (upd i 3 (u9.1 0)) 4 (u9.1 1)) 5 (u9.1 2)) 6 (u9.1 3)) 8 (u9.1 4)) 9 (u9.1 5)) 12 (u9.1 6)) (vp_updL j 7 (u9.2.1 0)))), ((r 0), .inl (cI, 1800, .inl f0)), ((r 14), .inl (cI, 2, .inl f14)), ((r 34), .inl (cJ, 20, .inr (.inl g34)))]) u)) A) args s 0 0 A) (F0 m 94 ls []) := by
                intro   H locs ls hP hD hS hl
                refine lv_iconst (v := 0) hx hb dX7_rowOf_94 (by decide +kernel) ?_
                refine lv_istore_n (lv' := [(3, .int 0), (0, .ref h), (1, .int x1), (2, .int j4_L2)]) hx hb dX7_rowOf_95 rfl hl (by decide) rfl (fun ls hl => ?_)
                refine lv_goto (tgt := 4) hx hb dX7_rowOf_96 (by decide) ?_
                exact ih_4 j4_L2 0 j4_M0_3 j4_M0_4 j4_M0_5 j4_M0_6 j4_M0_7 (u_61p39p46.1 0) (u_61p39p46.1 1) j4_M0_12 hj4_L2 (iR_c (n := 0) (a := 0) (b := 1) (by decide +kernel) (by decide +kernel)) hj4_M0_3 hj4_M0_4 hj4_M0_5 hj4_M0_6 g_61p39p46_0 (by have q0 : 0 ≤ j4_M0_5.toInt ∧ j4_M0_5.toInt ≤ 1600 := hj4_M0_5; have h9 := hm_4; omega) H locs ls hP hD hS (lv_sub hl [1, 2, 3, 0] rfl)
              refine lv_if_ne (tgt := 94) hx hb dX7_rowOf_68 (by decide) (fun c_68p39p46 => ?_) (fun c_68p39p46 => ?_)
              · have c_68p39p46 : ¬ (u_61p39p46.1 0) = 0 := c_68p39p46
                have f_94p39p46_5 : iR (u_61p39p46.1 0) 1 6 := iR_neL c_68p39p46 g_61p39p46_0 (iR_c (n := 0) (a := 0) (b := 0) (by decide +kernel) (by decide +kernel)) (by decide +kernel)
                exact J_94p39p46   H locs ls (hP.sub [3, 0, 1, 2] rfl) (hD.sub [3, 0, 1, 2] (by decide +kernel) rfl) hS (lv_sub hl [1, 2, 3] rfl)
              · have c_68p39p46 : (u_61p39p46.1 0) = 0 := c_68p39p46
                have f_71p39p46_5 : iR (u_61p39p46.1 0) 0 0 := iR_eqL c_68p39p46 g_61p39p46_0 (iR_c (n := 0) (a := 0) (b := 0) (by decide +kernel) (by decide +kernel)) (by decide +kernel)
                refine lv_aload_n hx hb dX7_rowOf_71 rfl (lv_at hl 1 rfl) ?_
                refine k_get (D := (dC, dI)) (ci := 7) (v := .int j4_M0_3) (C := RX7) (T := TX7) (N := 92) hx hb hts hinX7 hown hK hP 3 rfl rfl 3 (by decide) w_1 rfl rfl dX7_rowOf_72 ?_
                refine lv_iconst (v := 1) hx hb dX7_rowOf_75 (by decide +kernel) ?_
                refine lv_icmp_ne (tgt := 94) hx hb dX7_rowOf_76 (by decide) (fun c_76p39p46 => ?_) (fun c_76p39p46 => ?_)
                · have c_76p39p46 : ¬ j4_M0_3 = 1 := c_76p39p46
                  exact J_94p39p46   H locs ls (hP.sub [3, 0, 1, 2] rfl) (hD.sub [3, 0, 1, 2] (by decide +kernel) rfl) hS (lv_sub hl [1, 2, 3] rfl)
                · have c_76p39p46 : j4_M0_3 = 1 := c_76p39p46
                  have f_79p39p46_6 : iR j4_M0_3 1 1 := iR_eqL c_76p39p46 hj4_M0_3 (iR_c (n := 1) (a := 1) (b := 1) (by decide +kernel) (by decide +kernel)) (by decide +kernel)
                  refine lv_aload_n hx hb dX7_rowOf_79 rfl (lv_at hl 1 rfl) ?_
                  refine lv_aload_n hx hb dX7_rowOf_80 rfl (lv_at hl 1 rfl) ?_
                  refine k_get (D := (dC, dI)) (ci := 7) (v := .long j4_M0_7) (C := RX7) (T := TX7) (N := 92) hx hb hts hinX7 hown hK hP 3 rfl rfl 7 (by decide) w_2 rfl rfl dX7_rowOf_81 ?_
                  refine k_ci (wc := []) (wr := [((r 0), .inl (cI, 1800, .inl f0)), ((r 14), .inl (cI, 2, .inl f14)), ((r 34), .inl (cJ, 20, .inr (.inl g34))), (h, .inr (7, oM r (upd (upd (upd (upd (upd (upd (upd i 3 j4_M0_3) 4 j4_M0_4) 5 j4_M0_5) 6 j4_M0_6) 8 (u_61p39p46.1 0)) 9 (u_61p39p46.1 1)) 12 j4_M0_12) (vp_updL j 7 j4_M0_7)))]) (fun hPc hDc hFc => va_runV (As := [.long j4_M0_7]) (rest := []) ⟨hx, hb, hml, hown, hts⟩ (s_X7_isOwn_v8 l dC dI cI cJ cZ cM h j4_M0_7 H.size) (cwV 1 hts gX7_rowOf_X7_isOwn rfl rfl rfl (by decide +kernel) ⟨(Nat.le_of_ble_eq_true rfl), (Nat.le_of_ble_eq_true rfl)⟩) (k_pV hPc hDc hK hN hC hS hFc hP (q0 := 3) (ci := 7) rfl rfl) rfl rfl hl.1 rfl (lv_room (Nat.le_of_ble_eq_true rfl)) dX7_rowOf_84 ⟨(Nat.le_of_ble_eq_true rfl), (Nat.le_of_ble_eq_true rfl)⟩) hP hD hS hA [] [0, 1, 2, 3] rfl rfl rfl rfl (by decide) (fun _ => rfl) 0 0 rfl rfl (fun r_84p39p46 u_84p39p46 H locs hw hP hD hS => ?_)
                  have g_84p39p46_0 := hw
                  have hP : va_P (dC, dI) vwCl [((r 0), .inl (cI, 1800, .inl f0)), ((r 14), .inl (cI, 2, .inl f14)), ((r 34), .inl (cJ, 20, .inr (.inl g34))), (h, .inr (7, oM r (upd (upd (upd (upd (upd (upd (upd i 3 j4_M0_3) 4 j4_M0_4) 5 j4_M0_5) 6 j4_M0_6) 8 (u_61p39p46.1 0)) 9 (u_61p39p46.1 1)) 12 j4_M0_12) (vp_updL j 7 j4_M0_7)))] H := hP
                  have hD : va_D A [((r 0), .inl (cI, 1800, .inl f0)), ((r 14), .inl (cI, 2, .inl f14)), ((r 34), .inl (cJ, 20, .inr (.inl g34))), (h, .inr (7, oM r (upd (upd (upd (upd (upd (upd (upd i 3 j4_M0_3) 4 j4_M0_4) 5 j4_M0_5) 6 j4_M0_6) 8 (u_61p39p46.1 0)) 9 (u_61p39p46.1 1)) 12 j4_M0_12) (vp_updL j 7 j4_M0_7)))] := hD
                  refine lv_if_ne (tgt := 94) hx hb dX7_rowOf_87 (by decide) (fun c_87p39p46 => ?_) (fun c_87p39p46 => ?_)
                  · have c_87p39p46 : ¬ r_84p39p46 = 0 := c_87p39p46
                    have f_94p39p46_7 : iR r_84p39p46 1 1 := iR_neL c_87p39p46 g_84p39p46_0 (iR_c (n := 0) (a := 0) (b := 0) (by decide +kernel) (by decide +kernel)) (by decide +kernel)
                    exact J_94p39p46   H locs ls (hP.sub [3, 0, 1, 2] rfl) (hD.sub [3, 0, 1, 2] (by decide +kernel) rfl) hS (lv_sub hl [1, 2, 3] rfl)
                  · have c_87p39p46 : r_84p39p46 = 0 := c_87p39p46
                    have f_90p39p46_7 : iR r_84p39p46 0 0 := iR_eqL c_87p39p46 g_84p39p46_0 (iR_c (n := 0) (a := 0) (b := 0) (by decide +kernel) (by decide +kernel)) (by decide +kernel)
                    refine lv_iconst (v := 1) hx hb dX7_rowOf_90 (by decide +kernel) ?_
                    refine lv_goto (tgt := 95) hx hb dX7_rowOf_91 (by decide) ?_
                    refine lv_istore_n (lv' := [(3, .int 1), (4, .int r_9), (0, .ref h), (1, .int x1), (2, .int j4_L2)]) hx hb dX7_rowOf_95 rfl hl (by decide) rfl (fun ls hl => ?_)
                    refine lv_goto (tgt := 4) hx hb dX7_rowOf_96 (by decide) ?_
                    exact ih_4 j4_L2 1 j4_M0_3 j4_M0_4 j4_M0_5 j4_M0_6 j4_M0_7 (u_61p39p46.1 0) (u_61p39p46.1 1) j4_M0_12 hj4_L2 (iR_c (n := 1) (a := 0) (b := 1) (by decide +kernel) (by decide +kernel)) (iR_w f_79p39p46_6 (by decide +kernel)) hj4_M0_4 hj4_M0_5 hj4_M0_6 (iR_w f_71p39p46_5 (by decide +kernel)) (by have q0 : 0 ≤ j4_M0_5.toInt ∧ j4_M0_5.toInt ≤ 1600 := hj4_M0_5; have h9 := hm_4; omega) H locs ls (hP.sub [3, 0, 1, 2] rfl) (hD.sub [3, 0, 1, 2] (by decide +kernel) rfl) hS (lv_sub hl [2, 3, 4, 0] rfl)
            · exact iR_cl (iR_eqL (a' := 1) (b' := 0) c_46p39 g_39_0 (iR_c (n := 0) (a := 0) (b := 0) (by decide +kernel) (by decide +kernel)) (by decide +kernel)) (by decide +kernel)
  refine lv_istore_n (lv' := [(3, .int 1), (2, .int 0), (0, .ref h), (1, .int x1)]) hx hb dX7_rowOf_3 rfl hl (by decide) rfl (fun ls hl => ?_)
  exact J_4 _ 0 1 (i 3) (i 4) (i 5) (i 6) (j 7) (i 8) (i 9) (i 12) (iR_c (n := 0) (a := 0) (b := 1023) (by decide +kernel) (by decide +kernel)) (iR_c (n := 1) (a := 0) (b := 1) (by decide +kernel) (by decide +kernel)) (show iR (i 3) 0 3 from hI 3) (show iR (i 4) 0 1600 from hI 4) (show iR (i 5) 0 1600 from hI 5) (show iR (i 6) 0 9999 from hI 6) (show iR (i 8) 0 6 from hI 8) (Nat.lt_succ_self _) H locs ls hP hD hS (lv_sub hl [2, 3, 1, 0] rfl)
set_option maxHeartbeats 8000000 in
set_option maxRecDepth 100000 in
theorem s_X7_wayTo_v0 (l : Launch) (dC : Nat → ClassId) (dI : Nat → Nat → Nat) (cI cJ cZ cM : ClassId) (h : Nat) (r : Nat → Nat) (i : Nat → Int32) (j : Nat → Int64) (x1 : Int32) (f73 : Nat → Int32) (f74 : Nat → Int32) (hx1 : iR x1 0 7) (hI : mR i) (hf73 : aR f73 0 1023) (hf74 : aR f74 0 11) : k_Mi l yX7_wayTo wsX7_wayTo ({ frames := 1, cells := 0, slots := 0, locals := 40 }) (dC, dI) vwCl (tyy cI cJ cZ cM) [(h, .inr (7, oM r i j)), ((r 73), .inl (cI, 9216, .inl f73)), ((r 74), .inl (cI, 9216, .inl f74))] [.ref h, .int x1] 0 0 (fun (u9 : Unit) => [(h, .inr (7, oM r i j)), ((r 73), .inl (cI, 9216, .inl f73)), ((r 74), .inl (cI, 9216, .inl f74))]) (fun (r9 : Int32) (u9 : Unit) => (iR r9 0 11)) := by
  refine fun sz => k_enter (cc := cX7_wayTo) (maxL := 4) (ret := some (.int)) (Qc := fun A => va_Qi (fun (r9 : Int32) (u9 : Unit) => (iR r9 0 11)) (fun u => k_B (dC, dI) vwCl (tyy cI cJ cZ cM) A ((fun (u9 : Unit) => [(h, .inr (7, oM r i j)), ((r 73), .inl (cI, 9216, .inl f73)), ((r 74), .inl (cI, 9216, .inl f74))]) u)) A) sz (by decide +kernel) rfl (Nat.le_of_ble_eq_true rfl) (fun p e s m args below meth c A ls H locs B hP hD hS hl => ?_)
  obtain ⟨hx, hb, hml, hown, hts, hr, hlk, hnm, hK, hA, hN, hC⟩ := id B
  have hown : s.vm.findClass RX7 = some m.cls := hown
  have hl : lv_has ls 4 [(0, .ref h), (1, .int x1)] := hl
  have w_0 : (Cond.fieldLink RX7 243 "WishSeaModel" "foundSet" "I").before args s = true := hts _ (List.mem_of_getElem? (i := 1) rfl)
  have w_1 : (Cond.fieldLink RX7 240 "WishSeaModel" "foundRung" "I").before args s = true := hts _ (List.mem_of_getElem? (i := 2) rfl)
  have w_2 : (Cond.fieldLink RX7 237 "WishSeaModel" "rungBy" "[I").before args s = true := hts _ (List.mem_of_getElem? (i := 4) rfl)
  have w_3 : (Cond.fieldLink RX7 234 "WishSeaModel" "rungFrom" "[I").before args s = true := hts _ (List.mem_of_getElem? (i := 3) rfl)
  have hinX7 : ∀ w ∈ u_ws RX7 TX7 92, w ∈ wsX7_wayTo := fun _ h => List.mem_cons_of_mem _ (List.mem_append_right _ h)
  refine lv_aload_n hx hb dX7_wayTo_0 rfl (lv_at hl 0 rfl) ?_
  have f_1_1 : iR (i 76) 0 1023 := hI 76
  refine k_get (D := (dC, dI)) (ci := 7) (v := .int (i 76)) (C := RX7) (T := TX7) (N := 92) hx hb hts hinX7 hown hK hP 0 rfl rfl 76 (by decide) w_0 rfl rfl dX7_wayTo_1 ?_
  refine lv_istore_n (lv' := [(2, .int (i 76)), (0, .ref h), (1, .int x1)]) hx hb dX7_wayTo_4 rfl hl (by decide) rfl (fun ls hl => ?_)
  refine lv_aload_n hx hb dX7_wayTo_5 rfl (lv_at hl 1 rfl) ?_
  have f_6_2 : iR (i 75) (-1) 8 := hI 75
  refine k_get (D := (dC, dI)) (ci := 7) (v := .int (i 75)) (C := RX7) (T := TX7) (N := 92) hx hb hts hinX7 hown hK hP 0 rfl rfl 75 (by decide) w_1 rfl rfl dX7_wayTo_6 ?_
  have J_10 : ∀ (n_10 : Nat) (j10_L2 : Int32) (j10_L3 : Int32) (hj10_L2 : iR j10_L2 0 1023) (hj10_L3 : iR j10_L3 (-1) 8) (hm_10 : (j10_L3.toInt - (-1)).toNat < n_10) (H : Heap) (locs : List Loc) (ls : Array Slot), va_P (dC, dI) vwCl [(h, .inr (7, oM r i j)), ((r 73), .inl (cI, 9216, .inl f73)), ((r 74), .inl (cI, 9216, .inl f74))] H → va_D A [(h, .inr (7, oM r i j)), ((r 73), .inl (cI, 9216, .inl f73)), ((r 74), .inl (cI, 9216, .inl f74))] → va_S A s.heap H locs → lv_has ls 4 [(0, .ref h), (1, .int x1), (2, .int j10_L2), (3, .int j10_L3)] → W p l e ({ frames := 1, cells := 0, slots := 0, locals := 40 }) s m args below meth c H locs 0 0 (MQ below (va_Qi (fun (r9 : Int32) (u9 : Unit) => (iR r9 0 11)) (fun u => k_B (dC, dI) vwCl (tyy cI cJ cZ cM) A ((fun (u9 : Unit) => [(h, .inr (7, oM r i j)), ((r 73), .inl (cI, 9216, .inl f73)), ((r 74), .inl (cI, 9216, .inl f74))]) u)) A) args s 0 0 A) (F0 m 10 ls []) := by
    intro n_10
    induction n_10 with
    | zero => intro j10_L2 j10_L3 hj10_L2 hj10_L3 hm_10; exact absurd hm_10 (Nat.not_lt_zero _)
    | succ n_10 ih_10 =>
      intro j10_L2 j10_L3 hj10_L2 hj10_L3 hm_10 H locs ls hP hD hS hl
      refine lv_iload_n hx hb dX7_wayTo_10 rfl (lv_at hl 3 rfl) ?_
      refine lv_iload_n hx hb dX7_wayTo_11 rfl (lv_at hl 1 rfl) ?_
      refine lv_iconst (v := 1) hx hb dX7_wayTo_12 (by decide +kernel) ?_
      refine lv_iadd hx hb dX7_wayTo_13 ?_
      refine lv_topi (fun y_13 ey_13 => ?_)
      have f_13_1 : iR y_13 1 8 := iR_add ey_13 hx1 (iR_c (n := 1) (a := 1) (b := 1) (by decide +kernel) (by decide +kernel)) (by decide +kernel)
      refine lv_icmp_le (tgt := 36) hx hb dX7_wayTo_14 (by decide) (fun c_14 => ?_) (fun c_14 => ?_)
      · have c_14 : j10_L3 ≤ y_13 := c_14
        refine lv_aload_n hx hb dX7_wayTo_36 rfl (lv_at hl 0 rfl) ?_
        refine k_get (D := (dC, dI)) (ci := 7) (v := .ref (r 74)) (C := RX7) (T := TX7) (N := 92) hx hb hts hinX7 hown hK hP 0 rfl rfl 74 (by decide) w_2 rfl rfl dX7_wayTo_37 ?_
        refine lv_sipush (v := 1024) hx hb dX7_wayTo_40 (by decide +kernel) ?_
        refine lv_iload_n hx hb dX7_wayTo_43 rfl (lv_at hl 1 rfl) ?_
        refine lv_iconst (v := 1) hx hb dX7_wayTo_44 (by decide +kernel) ?_
        refine lv_iadd hx hb dX7_wayTo_45 ?_
        refine lv_topi (fun y_45 ey_45 => ?_)
        have f_45_2 : iR y_45 1 8 := iR_add ey_45 hx1 (iR_c (n := 1) (a := 1) (b := 1) (by decide +kernel) (by decide +kernel)) (by decide +kernel)
        refine lv_imul hx hb dX7_wayTo_46 ?_
        refine lv_topi (fun y_46 ey_46 => ?_)
        have f_46_3 : iR y_46 1024 8192 := iR_mul ey_46 (iR_c (n := 1024) (a := 1024) (b := 1024) (by decide +kernel) (by decide +kernel)) f_45_2 (by decide +kernel)
        refine lv_iload_n hx hb dX7_wayTo_47 rfl (lv_at hl 2 rfl) ?_
        refine lv_iadd hx hb dX7_wayTo_48 ?_
        refine lv_topi (fun y_48 ey_48 => ?_)
        have f_48_4 : iR y_48 1024 9215 := iR_add ey_48 f_46_3 hj10_L2 (by decide +kernel)
        refine va_iald hx hb hK hP 2 0 rfl rfl (iR_vp f_48_4 (by decide +kernel)) dX7_wayTo_49 ?_
        have f_49_5 : iR (f74 y_48.toNatClampNeg) 0 11 := hf74 _
        exact k_ri B hP hD hS dX7_wayTo_50 () [0, 1, 2] rfl rfl rfl (Nat.le_of_ble_eq_true rfl) (Nat.le_of_ble_eq_true rfl) (show iR (f74 y_48.toNatClampNeg) 0 11 from f_49_5)
      · have c_14 : y_13 < j10_L3 := i_nle c_14
        have f_17_2 : iR y_13 1 7 := iR_ltL c_14 f_13_1 hj10_L3 (by decide +kernel)
        have f_17_3 : iR x1 0 6 := iR_addB ey_13 hx1 (iR_c (n := 1) (a := 1) (b := 1) (by decide +kernel) (by decide +kernel)) f_17_2 (by decide +kernel)
        have f_17_4 : iR j10_L3 2 8 := iR_ltR c_14 f_13_1 hj10_L3 (by decide +kernel)
        refine lv_aload_n hx hb dX7_wayTo_17 rfl (lv_at hl 0 rfl) ?_
        refine k_get (D := (dC, dI)) (ci := 7) (v := .ref (r 73)) (C := RX7) (T := TX7) (N := 92) hx hb hts hinX7 hown hK hP 0 rfl rfl 73 (by decide) w_3 rfl rfl dX7_wayTo_18 ?_
        refine lv_sipush (v := 1024) hx hb dX7_wayTo_21 (by decide +kernel) ?_
        refine lv_iload_n hx hb dX7_wayTo_24 rfl (lv_at hl 3 rfl) ?_
        refine lv_imul hx hb dX7_wayTo_25 ?_
        refine lv_topi (fun y_25 ey_25 => ?_)
        have f_25_5 : iR y_25 2048 8192 := iR_mul ey_25 (iR_c (n := 1024) (a := 1024) (b := 1024) (by decide +kernel) (by decide +kernel)) f_17_4 (by decide +kernel)
        refine lv_iload_n hx hb dX7_wayTo_26 rfl (lv_at hl 2 rfl) ?_
        refine lv_iadd hx hb dX7_wayTo_27 ?_
        refine lv_topi (fun y_27 ey_27 => ?_)
        have f_27_6 : iR y_27 2048 9215 := iR_add ey_27 f_25_5 hj10_L2 (by decide +kernel)
        refine va_iald hx hb hK hP 1 0 rfl rfl (iR_vp f_27_6 (by decide +kernel)) dX7_wayTo_28 ?_
        have f_28_7 : iR (f73 y_27.toNatClampNeg) 0 1023 := hf73 _
        refine lv_istore_n (lv' := [(2, .int (f73 y_27.toNatClampNeg)), (0, .ref h), (1, .int x1), (3, .int j10_L3)]) hx hb dX7_wayTo_29 rfl hl (by decide) rfl (fun ls hl => ?_)
        obtain ⟨y_30, ey_30⟩ : ∃ y : Int32, y = j10_L3 + (-1) := ⟨_, rfl⟩
        refine lv_iinc (v := y_30) (lv' := [(3, .int y_30), (2, .int (f73 y_27.toNatClampNeg)), (0, .ref h), (1, .int x1)]) hx hb dX7_wayTo_30 hl (k := 3) rfl ey_30.symm (by decide) rfl (fun ls hl => ?_)
        have f_30_8 : iR y_30 1 7 := iR_add ey_30 f_17_4 (iR_c (n := (-1)) (a := (-1)) (b := (-1)) (by decide +kernel) (by decide +kernel)) (by decide +kernel)
        refine lv_goto (tgt := 10) hx hb dX7_wayTo_33 (by decide) ?_
        exact ih_10 (f73 y_27.toNatClampNeg) y_30 f_28_7 (iR_w f_30_8 (by decide +kernel)) (m_dn (B := (-1)) hm_10 ey_30 f_17_4 (by decide +kernel)) H locs ls hP hD hS (lv_sub hl [2, 3, 1, 0] rfl)
  refine lv_istore_n (lv' := [(3, .int (i 75)), (2, .int (i 76)), (0, .ref h), (1, .int x1)]) hx hb dX7_wayTo_9 rfl hl (by decide) rfl (fun ls hl => ?_)
  exact J_10 _ (i 76) (i 75) f_1_1 f_6_2 (Nat.lt_succ_self _) H locs ls hP hD hS (lv_sub hl [2, 3, 1, 0] rfl)
set_option maxHeartbeats 8000000 in
set_option maxRecDepth 100000 in
theorem s_X7_writesDown_v0 (l : Launch) (dC : Nat → ClassId) (dI : Nat → Nat → Nat) (cI cJ cZ cM : ClassId) (h : Nat) (r : Nat → Nat) (i : Nat → Int32) (j : Nat → Int64) (x1 : Int32) (x2 : Int32) (f50 : Nat → Int32) (f52 : Nat → Int32) (f53 : Nat → Int32) (f54 : Nat → Int32) (f55 : Nat → Int32) (f56 : Nat → Int32) (f57 : Nat → Int32) (hx1 : iR x1 0 11) (hx2 : iR x2 0 1) (hI : mR i) (hf50 : aR f50 0 999) (hf53 : aR f53 0 50) : k_Mv l yX7_writesDown wsX7_writesDown ({ frames := 1, cells := 0, slots := 0, locals := 40 }) (dC, dI) vwCl (tyy cI cJ cZ cM) [(h, .inr (7, oM r i j)), ((r 50), .inl (cI, 22, .inl f50)), ((r 52), .inl (cI, 22, .inl f52)), ((r 53), .inl (cI, 22, .inl f53)), ((r 54), .inl (cI, 1100, .inl f54)), ((r 55), .inl (cI, 1100, .inl f55)), ((r 56), .inl (cI, 1100, .inl f56)), ((r 57), .inl (cI, 1100, .inl f57))] [.ref h, .int x1, .int x2] 0 0 (fun (u9 : SU) => [(h, .inr (7, oM r i j)), ((r 50), .inl (cI, 22, .inl f50)), ((r 52), .inl (cI, 22, .inl f52)), ((r 53), .inl (cI, 22, .inl (u9.2.2.1 0))), ((r 54), .inl (cI, 1100, .inl (u9.2.2.1 1))), ((r 55), .inl (cI, 1100, .inl (u9.2.2.1 2))), ((r 56), .inl (cI, 1100, .inl (u9.2.2.1 3))), ((r 57), .inl (cI, 1100, .inl (u9.2.2.1 4)))]) (fun (u9 : SU) => (aR (u9.2.2.1 0) 0 50)) := by
  refine fun sz => k_enter (cc := cX7_writesDown) (maxL := 4) (ret := none) (Qc := fun A => va_Qv (fun (u9 : SU) => (aR (u9.2.2.1 0) 0 50)) (fun u => k_B (dC, dI) vwCl (tyy cI cJ cZ cM) A ((fun (u9 : SU) => [(h, .inr (7, oM r i j)), ((r 50), .inl (cI, 22, .inl f50)), ((r 52), .inl (cI, 22, .inl f52)), ((r 53), .inl (cI, 22, .inl (u9.2.2.1 0))), ((r 54), .inl (cI, 1100, .inl (u9.2.2.1 1))), ((r 55), .inl (cI, 1100, .inl (u9.2.2.1 2))), ((r 56), .inl (cI, 1100, .inl (u9.2.2.1 3))), ((r 57), .inl (cI, 1100, .inl (u9.2.2.1 4)))]) u)) A) sz (by decide +kernel) rfl (Nat.le_of_ble_eq_true rfl) (fun p e s m args below meth c A ls H locs B hP hD hS hl => ?_)
  obtain ⟨hx, hb, hml, hown, hts, hr, hlk, hnm, hK, hA, hN, hC⟩ := id B
  have hown : s.vm.findClass RX7 = some m.cls := hown
  have hl : lv_has ls 4 [(0, .ref h), (1, .int x1), (2, .int x2)] := hl
  have w_0 : (Cond.fieldLink RX7 174 "WishSeaModel" "keptMany" "[I").before args s = true := hts _ (List.mem_of_getElem? (i := 1) rfl)
  have w_1 : (Cond.fieldLink RX7 177 "WishSeaModel" "keptDay" "[I").before args s = true := hts _ (List.mem_of_getElem? (i := 2) rfl)
  have w_2 : (Cond.fieldLink RX7 171 "WishSeaModel" "dayOf" "[I").before args s = true := hts _ (List.mem_of_getElem? (i := 6) rfl)
  have w_3 : (Cond.fieldLink RX7 180 "WishSeaModel" "keptWish" "[I").before args s = true := hts _ (List.mem_of_getElem? (i := 3) rfl)
  have w_4 : (Cond.fieldLink RX7 183 "WishSeaModel" "keptSea" "[I").before args s = true := hts _ (List.mem_of_getElem? (i := 4) rfl)
  have w_5 : (Cond.fieldLink RX7 165 "WishSeaModel" "seaOf" "[I").before args s = true := hts _ (List.mem_of_getElem? (i := 7) rfl)
  have w_6 : (Cond.fieldLink RX7 186 "WishSeaModel" "keptFell" "[I").before args s = true := hts _ (List.mem_of_getElem? (i := 5) rfl)
  have hinX7 : ∀ w ∈ u_ws RX7 TX7 92, w ∈ wsX7_writesDown := fun _ h => List.mem_cons_of_mem _ (List.mem_append_right _ h)
  refine lv_aload_n hx hb dX7_writesDown_0 rfl (lv_at hl 0 rfl) ?_
  refine k_get (D := (dC, dI)) (ci := 7) (v := .ref (r 53)) (C := RX7) (T := TX7) (N := 92) hx hb hts hinX7 hown hK hP 0 rfl rfl 53 (by decide) w_0 rfl rfl dX7_writesDown_1 ?_
  refine lv_iconst (v := 0) hx hb dX7_writesDown_4 (by decide +kernel) ?_
  refine k_iald (v := (f53 0)) hx hb hK hP 3 0 0 rfl rfl rfl (Nat.le_of_ble_eq_true rfl) (Nat.le_of_ble_eq_true rfl) rfl dX7_writesDown_5 ?_
  have f_5_1 : iR (f53 0) 0 50 := hf53 _
  refine lv_bipush (v := 50) hx hb dX7_writesDown_6 (by decide +kernel) ?_
  refine lv_icmp_ne (tgt := 91) hx hb dX7_writesDown_8 (by decide) (fun c_8 => ?_) (fun c_8 => ?_)
  · have c_8 : ¬ (f53 0) = 50 := c_8
    have f_91_2 : iR (f53 0) 0 49 := iR_neL c_8 f_5_1 (iR_c (n := 50) (a := 50) (b := 50) (by decide +kernel) (by decide +kernel)) (by decide +kernel)
    refine lv_aload_n hx hb dX7_writesDown_91 rfl (lv_at hl 0 rfl) ?_
    refine k_get (D := (dC, dI)) (ci := 7) (v := .ref (r 53)) (C := RX7) (T := TX7) (N := 92) hx hb hts hinX7 hown hK hP 0 rfl rfl 53 (by decide) w_0 rfl rfl dX7_writesDown_92 ?_
    refine lv_iconst (v := 0) hx hb dX7_writesDown_95 (by decide +kernel) ?_
    refine k_iald (v := (f53 0)) hx hb hK hP 3 0 0 rfl rfl rfl (Nat.le_of_ble_eq_true rfl) (Nat.le_of_ble_eq_true rfl) rfl dX7_writesDown_96 ?_
    refine lv_istore_n (lv' := [(3, .int (f53 0)), (0, .ref h), (1, .int x1), (2, .int x2)]) hx hb dX7_writesDown_97 rfl hl (by decide) rfl (fun ls hl => ?_)
    refine lv_aload_n hx hb dX7_writesDown_98 rfl (lv_at hl 1 rfl) ?_
    refine k_get (D := (dC, dI)) (ci := 7) (v := .ref (r 54)) (C := RX7) (T := TX7) (N := 92) hx hb hts hinX7 hown hK hP 0 rfl rfl 54 (by decide) w_1 rfl rfl dX7_writesDown_99 ?_
    refine lv_iload_n hx hb dX7_writesDown_102 rfl (lv_at hl 0 rfl) ?_
    refine lv_aload_n hx hb dX7_writesDown_103 rfl (lv_at hl 1 rfl) ?_
    refine k_get (D := (dC, dI)) (ci := 7) (v := .ref (r 52)) (C := RX7) (T := TX7) (N := 92) hx hb hts hinX7 hown hK hP 0 rfl rfl 52 (by decide) w_2 rfl rfl dX7_writesDown_104 ?_
    refine lv_iconst (v := 0) hx hb dX7_writesDown_107 (by decide +kernel) ?_
    refine k_iald (v := (f52 0)) hx hb hK hP 2 0 0 rfl rfl rfl (Nat.le_of_ble_eq_true rfl) (Nat.le_of_ble_eq_true rfl) rfl dX7_writesDown_108 ?_
    refine s_iast (g := (upd f54 (f53 0).toNatClampNeg (f52 0))) (ws' := [(h, .inr (7, oM r i j)), ((r 50), .inl (cI, 22, .inl f50)), ((r 52), .inl (cI, 22, .inl f52)), ((r 53), .inl (cI, 22, .inl f53)), ((r 54), .inl (cI, 1100, .inl (upd f54 (f53 0).toNatClampNeg (f52 0)))), ((r 55), .inl (cI, 1100, .inl f55)), ((r 56), .inl (cI, 1100, .inl f56)), ((r 57), .inl (cI, 1100, .inl f57))]) hx hb hK hP hD hS 4 0 rfl rfl (iR_vp f_91_2 (by decide +kernel)) rfl rfl dX7_writesDown_109 (fun H locs hP hD hS => ?_)
    refine lv_aload_n hx hb dX7_writesDown_110 rfl (lv_at hl 1 rfl) ?_
    refine k_get (D := (dC, dI)) (ci := 7) (v := .ref (r 55)) (C := RX7) (T := TX7) (N := 92) hx hb hts hinX7 hown hK hP 0 rfl rfl 55 (by decide) w_3 rfl rfl dX7_writesDown_111 ?_
    refine lv_iload_n hx hb dX7_writesDown_114 rfl (lv_at hl 0 rfl) ?_
    refine lv_iload_n hx hb dX7_writesDown_115 rfl (lv_at hl 2 rfl) ?_
    refine s_iast (g := (upd f55 (f53 0).toNatClampNeg x1)) (ws' := [(h, .inr (7, oM r i j)), ((r 50), .inl (cI, 22, .inl f50)), ((r 52), .inl (cI, 22, .inl f52)), ((r 53), .inl (cI, 22, .inl f53)), ((r 54), .inl (cI, 1100, .inl (upd f54 (f53 0).toNatClampNeg (f52 0)))), ((r 55), .inl (cI, 1100, .inl (upd f55 (f53 0).toNatClampNeg x1))), ((r 56), .inl (cI, 1100, .inl f56)), ((r 57), .inl (cI, 1100, .inl f57))]) hx hb hK hP hD hS 5 0 rfl rfl (iR_vp f_91_2 (by decide +kernel)) rfl rfl dX7_writesDown_116 (fun H locs hP hD hS => ?_)
    refine lv_aload_n hx hb dX7_writesDown_117 rfl (lv_at hl 1 rfl) ?_
    refine k_get (D := (dC, dI)) (ci := 7) (v := .ref (r 56)) (C := RX7) (T := TX7) (N := 92) hx hb hts hinX7 hown hK hP 0 rfl rfl 56 (by decide) w_4 rfl rfl dX7_writesDown_118 ?_
    refine lv_iload_n hx hb dX7_writesDown_121 rfl (lv_at hl 0 rfl) ?_
    refine lv_aload_n hx hb dX7_writesDown_122 rfl (lv_at hl 1 rfl) ?_
    refine k_get (D := (dC, dI)) (ci := 7) (v := .ref (r 50)) (C := RX7) (T := TX7) (N := 92) hx hb hts hinX7 hown hK hP 0 rfl rfl 50 (by decide) w_5 rfl rfl dX7_writesDown_123 ?_
    refine lv_iconst (v := 0) hx hb dX7_writesDown_126 (by decide +kernel) ?_
    refine k_iald (v := (f50 0)) hx hb hK hP 1 0 0 rfl rfl rfl (Nat.le_of_ble_eq_true rfl) (Nat.le_of_ble_eq_true rfl) rfl dX7_writesDown_127 ?_
    have f_127p8_3 : iR (f50 0) 0 999 := hf50 _
    refine s_iast (g := (upd f56 (f53 0).toNatClampNeg (f50 0))) (ws' := [(h, .inr (7, oM r i j)), ((r 50), .inl (cI, 22, .inl f50)), ((r 52), .inl (cI, 22, .inl f52)), ((r 53), .inl (cI, 22, .inl f53)), ((r 54), .inl (cI, 1100, .inl (upd f54 (f53 0).toNatClampNeg (f52 0)))), ((r 55), .inl (cI, 1100, .inl (upd f55 (f53 0).toNatClampNeg x1))), ((r 56), .inl (cI, 1100, .inl (upd f56 (f53 0).toNatClampNeg (f50 0)))), ((r 57), .inl (cI, 1100, .inl f57))]) hx hb hK hP hD hS 6 0 rfl rfl (iR_vp f_91_2 (by decide +kernel)) rfl rfl dX7_writesDown_128 (fun H locs hP hD hS => ?_)
    refine lv_aload_n hx hb dX7_writesDown_129 rfl (lv_at hl 1 rfl) ?_
    refine k_get (D := (dC, dI)) (ci := 7) (v := .ref (r 57)) (C := RX7) (T := TX7) (N := 92) hx hb hts hinX7 hown hK hP 0 rfl rfl 57 (by decide) w_6 rfl rfl dX7_writesDown_130 ?_
    refine lv_iload_n hx hb dX7_writesDown_133 rfl (lv_at hl 0 rfl) ?_
    refine lv_iload_n hx hb dX7_writesDown_134 rfl (lv_at hl 3 rfl) ?_
    have J_143p8 : ∀ (j143p8_S0 : Int32) (hj143p8_S0 : iR j143p8_S0 0 1) (H : Heap) (locs : List Loc) (ls : Array Slot), va_P (dC, dI) vwCl [(h, .inr (7, oM r i j)), ((r 50), .inl (cI, 22, .inl f50)), ((r 52), .inl (cI, 22, .inl f52)), ((r 53), .inl (cI, 22, .inl f53)), ((r 54), .inl (cI, 1100, .inl (upd f54 (f53 0).toNatClampNeg (f52 0)))), ((r 55), .inl (cI, 1100, .inl (upd f55 (f53 0).toNatClampNeg x1))), ((r 56), .inl (cI, 1100, .inl (upd f56 (f53 0).toNatClampNeg (f50 0)))), ((r 57), .inl (cI, 1100, .inl f57))] H → va_D A [(h, .inr (7, oM r i j)), ((r 50), .inl (cI, 22, .inl f50)), ((r 52), .inl (cI, 22, .inl f52)), ((r 53), .inl (cI, 22, .inl f53)), ((r 54), .inl (cI, 1100, .inl (upd f54 (f53 0).toNatClampNeg (f52 0)))), ((r 55), .inl (cI, 1100, .inl (upd f55 (f53 0).toNatClampNeg x1))), ((r 56), .inl (cI, 1100, .inl (upd f56 (f53 0).toNatClampNeg (f50 0)))), ((r 57), .inl (cI, 1100, .inl f57))] → va_S A s.heap H locs → lv_has ls 4 [(0, .ref h)] → W p l e ({ frames := 1, cells := 0, slots := 0, locals := 40 }) s m args below meth c H locs 0 0 (MQ below (va_Qv (fun (u9 : SU) => (aR (u9.2.2.1 0) 0 50)) (fun u => k_B (dC, dI) vwCl (tyy cI cJ cZ cM) A ((fun (u9 : SU) => [(h, .inr (7, oM r i j)), ((r 50), .inl (cI, 22, .inl f50)), ((r 52), .inl (cI, 22, .inl f52)), ((r 53), .inl (cI, 22, .inl (u9.2.2.1 0))), ((r 54), .inl (cI, 1100, .inl (u9.2.2.1 1))), ((r 55), .inl (cI, 1100, .inl (u9.2.2.1 2))), ((r 56), .inl (cI, 1100, .inl (u9.2.2.1 3))), ((r 57), .inl (cI, 1100, .inl (u9.2.2.1 4)))]) u)) A) args s 0 0 A) (F0 m 143 ls [.int j143p8_S0, .int (f53 0), .ref (r 57)]) := by
      intro j143p8_S0 hj143p8_S0 H locs ls hP hD hS hl
      refine s_iast (g := (upd f57 (f53 0).toNatClampNeg j143p8_S0)) (ws' := [(h, .inr (7, oM r i j)), ((r 50), .inl (cI, 22, .inl f50)), ((r 52), .inl (cI, 22, .inl f52)), ((r 53), .inl (cI, 22, .inl f53)), ((r 54), .inl (cI, 1100, .inl (upd f54 (f53 0).toNatClampNeg (f52 0)))), ((r 55), .inl (cI, 1100, .inl (upd f55 (f53 0).toNatClampNeg x1))), ((r 56), .inl (cI, 1100, .inl (upd f56 (f53 0).toNatClampNeg (f50 0)))), ((r 57), .inl (cI, 1100, .inl (upd f57 (f53 0).toNatClampNeg j143p8_S0)))]) hx hb hK hP hD hS 7 0 rfl rfl (iR_vp f_91_2 (by decide +kernel)) rfl rfl dX7_writesDown_143 (fun H locs hP hD hS => ?_)
      refine lv_aload_n hx hb dX7_writesDown_144 rfl (lv_at hl 0 rfl) ?_
      refine k_get (D := (dC, dI)) (ci := 7) (v := .ref (r 53)) (C := RX7) (T := TX7) (N := 92) hx hb hts hinX7 hown hK hP 0 rfl rfl 53 (by decide) w_0 rfl rfl dX7_writesDown_145 ?_
      refine lv_iconst (v := 0) hx hb dX7_writesDown_148 (by decide +kernel) ?_
      refine lv_dup2_11 hx hb dX7_writesDown_149 rfl rfl ?_
      refine k_iald (v := (f53 0)) hx hb hK hP 3 0 0 rfl rfl rfl (Nat.le_of_ble_eq_true rfl) (Nat.le_of_ble_eq_true rfl) rfl dX7_writesDown_150 ?_
      refine lv_iconst (v := 1) hx hb dX7_writesDown_151 (by decide +kernel) ?_
      refine lv_iadd hx hb dX7_writesDown_152 ?_
      refine lv_topi (fun y_152p8 ey_152p8 => ?_)
      have f_152p8_1 : iR y_152p8 1 50 := iR_add ey_152p8 f_91_2 (iR_c (n := 1) (a := 1) (b := 1) (by decide +kernel) (by decide +kernel)) (by decide +kernel)
      refine k_iast (g := (upd f53 0 y_152p8)) (ws' := [(h, .inr (7, oM r i j)), ((r 50), .inl (cI, 22, .inl f50)), ((r 52), .inl (cI, 22, .inl f52)), ((r 53), .inl (cI, 22, .inl (upd f53 0 y_152p8))), ((r 54), .inl (cI, 1100, .inl (upd f54 (f53 0).toNatClampNeg (f52 0)))), ((r 55), .inl (cI, 1100, .inl (upd f55 (f53 0).toNatClampNeg x1))), ((r 56), .inl (cI, 1100, .inl (upd f56 (f53 0).toNatClampNeg (f50 0)))), ((r 57), .inl (cI, 1100, .inl (upd f57 (f53 0).toNatClampNeg j143p8_S0)))]) hx hb hK hP hD hS 3 0 0 rfl rfl rfl (Nat.le_of_ble_eq_true rfl) (Nat.le_of_ble_eq_true rfl) rfl rfl dX7_writesDown_153 (fun H locs hP hD hS => ?_)
      exact k_rv B hP hD hS dX7_writesDown_154 ((fun _ => 0), (fun _ => 0), (fun k9 => match k9 with | 0 => (upd f53 0 y_152p8) | 1 => (upd f54 (f53 0).toNatClampNeg (f52 0)) | 2 => (upd f55 (f53 0).toNatClampNeg x1) | 3 => (upd f56 (f53 0).toNatClampNeg (f50 0)) | 4 => (upd f57 (f53 0).toNatClampNeg j143p8_S0) | _ => (fun _ => 0)), (fun _ => (fun _ => 0)), (fun _ => 0)) [0, 1, 2, 3, 4, 5, 6, 7] rfl rfl (Nat.le_of_ble_eq_true rfl) (Nat.le_of_ble_eq_true rfl) (show aR (upd f53 0 y_152p8) 0 50 from (aR_upd _ hf53 (iR_w f_152p8_1 (by decide +kernel))))
    refine lv_if_eq (tgt := 142) hx hb dX7_writesDown_135 (by decide) (fun c_135p8 => ?_) (fun c_135p8 => ?_)
    · have c_135p8 : x2 = 0 := c_135p8
      have f_142p8_4 : iR x2 0 0 := iR_eqL c_135p8 hx2 (iR_c (n := 0) (a := 0) (b := 0) (by decide +kernel) (by decide +kernel)) (by decide +kernel)
      refine lv_iconst (v := 0) hx hb dX7_writesDown_142 (by decide +kernel) ?_
      exact J_143p8 0 (iR_c (n := 0) (a := 0) (b := 1) (by decide +kernel) (by decide +kernel)) H locs ls hP hD hS (lv_sub hl [1] rfl)
    · have c_135p8 : ¬ x2 = 0 := c_135p8
      have f_138p8_4 : iR x2 1 1 := iR_neL c_135p8 hx2 (iR_c (n := 0) (a := 0) (b := 0) (by decide +kernel) (by decide +kernel)) (by decide +kernel)
      refine lv_iconst (v := 1) hx hb dX7_writesDown_138 (by decide +kernel) ?_
      refine lv_goto (tgt := 143) hx hb dX7_writesDown_139 (by decide) ?_
      exact J_143p8 1 (iR_c (n := 1) (a := 0) (b := 1) (by decide +kernel) (by decide +kernel)) H locs ls hP hD hS (lv_sub hl [1] rfl)
  · have c_8 : (f53 0) = 50 := c_8
    have f_11_2 : iR (f53 0) 50 50 := iR_eqL c_8 f_5_1 (iR_c (n := 50) (a := 50) (b := 50) (by decide +kernel) (by decide +kernel)) (by decide +kernel)
    refine lv_iconst (v := 0) hx hb dX7_writesDown_11 (by decide +kernel) ?_
    have J_13 : ∀ (n_13 : Nat) (j13_A4 : Nat → Int32) (j13_A5 : Nat → Int32) (j13_A6 : Nat → Int32) (j13_A7 : Nat → Int32) (j13_L3 : Int32) (hj13_L3 : iR j13_L3 0 49) (hm_13 : (49 - j13_L3.toInt).toNat < n_13) (H : Heap) (locs : List Loc) (ls : Array Slot), va_P (dC, dI) vwCl [(h, .inr (7, oM r i j)), ((r 50), .inl (cI, 22, .inl f50)), ((r 52), .inl (cI, 22, .inl f52)), ((r 53), .inl (cI, 22, .inl f53)), ((r 54), .inl (cI, 1100, .inl j13_A4)), ((r 55), .inl (cI, 1100, .inl j13_A5)), ((r 56), .inl (cI, 1100, .inl j13_A6)), ((r 57), .inl (cI, 1100, .inl j13_A7))] H → va_D A [(h, .inr (7, oM r i j)), ((r 50), .inl (cI, 22, .inl f50)), ((r 52), .inl (cI, 22, .inl f52)), ((r 53), .inl (cI, 22, .inl f53)), ((r 54), .inl (cI, 1100, .inl j13_A4)), ((r 55), .inl (cI, 1100, .inl j13_A5)), ((r 56), .inl (cI, 1100, .inl j13_A6)), ((r 57), .inl (cI, 1100, .inl j13_A7))] → va_S A s.heap H locs → lv_has ls 4 [(0, .ref h), (1, .int x1), (2, .int x2), (3, .int j13_L3)] → W p l e ({ frames := 1, cells := 0, slots := 0, locals := 40 }) s m args below meth c H locs 0 0 (MQ below (va_Qv (fun (u9 : SU) => (aR (u9.2.2.1 0) 0 50)) (fun u => k_B (dC, dI) vwCl (tyy cI cJ cZ cM) A ((fun (u9 : SU) => [(h, .inr (7, oM r i j)), ((r 50), .inl (cI, 22, .inl f50)), ((r 52), .inl (cI, 22, .inl f52)), ((r 53), .inl (cI, 22, .inl (u9.2.2.1 0))), ((r 54), .inl (cI, 1100, .inl (u9.2.2.1 1))), ((r 55), .inl (cI, 1100, .inl (u9.2.2.1 2))), ((r 56), .inl (cI, 1100, .inl (u9.2.2.1 3))), ((r 57), .inl (cI, 1100, .inl (u9.2.2.1 4)))]) u)) A) args s 0 0 A) (F0 m 13 ls []) := by
      intro n_13
      induction n_13 with
      | zero => intro j13_A4 j13_A5 j13_A6 j13_A7 j13_L3 hj13_L3 hm_13; exact absurd hm_13 (Nat.not_lt_zero _)
      | succ n_13 ih_13 =>
        intro j13_A4 j13_A5 j13_A6 j13_A7 j13_L3 hj13_L3 hm_13 H locs ls hP hD hS hl
        refine lv_iload_n hx hb dX7_writesDown_13 rfl (lv_at hl 3 rfl) ?_
        refine lv_bipush (v := 49) hx hb dX7_writesDown_14 (by decide +kernel) ?_
        refine lv_icmp_ge (tgt := 81) hx hb dX7_writesDown_16 (by decide) (fun c_16 => ?_) (fun c_16 => ?_)
        · have c_16 : 49 ≤ j13_L3 := c_16
          have f_81_1 : iR j13_L3 49 49 := iR_leR c_16 (iR_c (n := 49) (a := 49) (b := 49) (by decide +kernel) (by decide +kernel)) hj13_L3 (by decide +kernel)
          refine lv_aload_n hx hb dX7_writesDown_81 rfl (lv_at hl 0 rfl) ?_
          refine k_get (D := (dC, dI)) (ci := 7) (v := .ref (r 53)) (C := RX7) (T := TX7) (N := 92) hx hb hts hinX7 hown hK hP 0 rfl rfl 53 (by decide) w_0 rfl rfl dX7_writesDown_82 ?_
          refine lv_iconst (v := 0) hx hb dX7_writesDown_85 (by decide +kernel) ?_
          refine lv_dup2_11 hx hb dX7_writesDown_86 rfl rfl ?_
          refine k_iald (v := (f53 0)) hx hb hK hP 3 0 0 rfl rfl rfl (Nat.le_of_ble_eq_true rfl) (Nat.le_of_ble_eq_true rfl) rfl dX7_writesDown_87 ?_
          refine lv_iconst (v := 1) hx hb dX7_writesDown_88 (by decide +kernel) ?_
          refine lv_isub hx hb dX7_writesDown_89 ?_
          refine lv_topi (fun y_89 ey_89 => ?_)
          have f_89_2 : iR y_89 49 49 := iR_sub ey_89 f_11_2 (iR_c (n := 1) (a := 1) (b := 1) (by decide +kernel) (by decide +kernel)) (by decide +kernel)
          refine k_iast (g := (upd f53 0 y_89)) (ws' := [(h, .inr (7, oM r i j)), ((r 50), .inl (cI, 22, .inl f50)), ((r 52), .inl (cI, 22, .inl f52)), ((r 53), .inl (cI, 22, .inl (upd f53 0 y_89))), ((r 54), .inl (cI, 1100, .inl j13_A4)), ((r 55), .inl (cI, 1100, .inl j13_A5)), ((r 56), .inl (cI, 1100, .inl j13_A6)), ((r 57), .inl (cI, 1100, .inl j13_A7))]) hx hb hK hP hD hS 3 0 0 rfl rfl rfl (Nat.le_of_ble_eq_true rfl) (Nat.le_of_ble_eq_true rfl) rfl rfl dX7_writesDown_90 (fun H locs hP hD hS => ?_)
          refine lv_aload_n hx hb dX7_writesDown_91 rfl (lv_at hl 0 rfl) ?_
          refine k_get (D := (dC, dI)) (ci := 7) (v := .ref (r 53)) (C := RX7) (T := TX7) (N := 92) hx hb hts hinX7 hown hK hP 0 rfl rfl 53 (by decide) w_0 rfl rfl dX7_writesDown_92 ?_
          refine lv_iconst (v := 0) hx hb dX7_writesDown_95 (by decide +kernel) ?_
          refine k_iald (v := ((upd f53 0 y_89) 0)) hx hb hK hP 3 0 0 rfl rfl rfl (Nat.le_of_ble_eq_true rfl) (Nat.le_of_ble_eq_true rfl) rfl dX7_writesDown_96 ?_
          refine k_int (v := y_89) rfl ?_
          refine lv_istore_n (lv' := [(3, .int y_89), (0, .ref h), (1, .int x1), (2, .int x2)]) hx hb dX7_writesDown_97 rfl hl (by decide) rfl (fun ls hl => ?_)
          refine lv_aload_n hx hb dX7_writesDown_98 rfl (lv_at hl 1 rfl) ?_
          refine k_get (D := (dC, dI)) (ci := 7) (v := .ref (r 54)) (C := RX7) (T := TX7) (N := 92) hx hb hts hinX7 hown hK hP 0 rfl rfl 54 (by decide) w_1 rfl rfl dX7_writesDown_99 ?_
          refine lv_iload_n hx hb dX7_writesDown_102 rfl (lv_at hl 0 rfl) ?_
          refine lv_aload_n hx hb dX7_writesDown_103 rfl (lv_at hl 1 rfl) ?_
          refine k_get (D := (dC, dI)) (ci := 7) (v := .ref (r 52)) (C := RX7) (T := TX7) (N := 92) hx hb hts hinX7 hown hK hP 0 rfl rfl 52 (by decide) w_2 rfl rfl dX7_writesDown_104 ?_
          refine lv_iconst (v := 0) hx hb dX7_writesDown_107 (by decide +kernel) ?_
          refine k_iald (v := (f52 0)) hx hb hK hP 2 0 0 rfl rfl rfl (Nat.le_of_ble_eq_true rfl) (Nat.le_of_ble_eq_true rfl) rfl dX7_writesDown_108 ?_
          refine s_iast (g := (upd j13_A4 y_89.toNatClampNeg (f52 0))) (ws' := [(h, .inr (7, oM r i j)), ((r 50), .inl (cI, 22, .inl f50)), ((r 52), .inl (cI, 22, .inl f52)), ((r 53), .inl (cI, 22, .inl (upd f53 0 y_89))), ((r 54), .inl (cI, 1100, .inl (upd j13_A4 y_89.toNatClampNeg (f52 0)))), ((r 55), .inl (cI, 1100, .inl j13_A5)), ((r 56), .inl (cI, 1100, .inl j13_A6)), ((r 57), .inl (cI, 1100, .inl j13_A7))]) hx hb hK hP hD hS 4 0 rfl rfl (iR_vp f_89_2 (by decide +kernel)) rfl rfl dX7_writesDown_109 (fun H locs hP hD hS => ?_)
          refine lv_aload_n hx hb dX7_writesDown_110 rfl (lv_at hl 1 rfl) ?_
          refine k_get (D := (dC, dI)) (ci := 7) (v := .ref (r 55)) (C := RX7) (T := TX7) (N := 92) hx hb hts hinX7 hown hK hP 0 rfl rfl 55 (by decide) w_3 rfl rfl dX7_writesDown_111 ?_
          refine lv_iload_n hx hb dX7_writesDown_114 rfl (lv_at hl 0 rfl) ?_
          refine lv_iload_n hx hb dX7_writesDown_115 rfl (lv_at hl 2 rfl) ?_
          refine s_iast (g := (upd j13_A5 y_89.toNatClampNeg x1)) (ws' := [(h, .inr (7, oM r i j)), ((r 50), .inl (cI, 22, .inl f50)), ((r 52), .inl (cI, 22, .inl f52)), ((r 53), .inl (cI, 22, .inl (upd f53 0 y_89))), ((r 54), .inl (cI, 1100, .inl (upd j13_A4 y_89.toNatClampNeg (f52 0)))), ((r 55), .inl (cI, 1100, .inl (upd j13_A5 y_89.toNatClampNeg x1))), ((r 56), .inl (cI, 1100, .inl j13_A6)), ((r 57), .inl (cI, 1100, .inl j13_A7))]) hx hb hK hP hD hS 5 0 rfl rfl (iR_vp f_89_2 (by decide +kernel)) rfl rfl dX7_writesDown_116 (fun H locs hP hD hS => ?_)
          refine lv_aload_n hx hb dX7_writesDown_117 rfl (lv_at hl 1 rfl) ?_
          refine k_get (D := (dC, dI)) (ci := 7) (v := .ref (r 56)) (C := RX7) (T := TX7) (N := 92) hx hb hts hinX7 hown hK hP 0 rfl rfl 56 (by decide) w_4 rfl rfl dX7_writesDown_118 ?_
          refine lv_iload_n hx hb dX7_writesDown_121 rfl (lv_at hl 0 rfl) ?_
          refine lv_aload_n hx hb dX7_writesDown_122 rfl (lv_at hl 1 rfl) ?_
          refine k_get (D := (dC, dI)) (ci := 7) (v := .ref (r 50)) (C := RX7) (T := TX7) (N := 92) hx hb hts hinX7 hown hK hP 0 rfl rfl 50 (by decide) w_5 rfl rfl dX7_writesDown_123 ?_
          refine lv_iconst (v := 0) hx hb dX7_writesDown_126 (by decide +kernel) ?_
          refine k_iald (v := (f50 0)) hx hb hK hP 1 0 0 rfl rfl rfl (Nat.le_of_ble_eq_true rfl) (Nat.le_of_ble_eq_true rfl) rfl dX7_writesDown_127 ?_
          have f_127p90_3 : iR (f50 0) 0 999 := hf50 _
          refine s_iast (g := (upd j13_A6 y_89.toNatClampNeg (f50 0))) (ws' := [(h, .inr (7, oM r i j)), ((r 50), .inl (cI, 22, .inl f50)), ((r 52), .inl (cI, 22, .inl f52)), ((r 53), .inl (cI, 22, .inl (upd f53 0 y_89))), ((r 54), .inl (cI, 1100, .inl (upd j13_A4 y_89.toNatClampNeg (f52 0)))), ((r 55), .inl (cI, 1100, .inl (upd j13_A5 y_89.toNatClampNeg x1))), ((r 56), .inl (cI, 1100, .inl (upd j13_A6 y_89.toNatClampNeg (f50 0)))), ((r 57), .inl (cI, 1100, .inl j13_A7))]) hx hb hK hP hD hS 6 0 rfl rfl (iR_vp f_89_2 (by decide +kernel)) rfl rfl dX7_writesDown_128 (fun H locs hP hD hS => ?_)
          refine lv_aload_n hx hb dX7_writesDown_129 rfl (lv_at hl 1 rfl) ?_
          refine k_get (D := (dC, dI)) (ci := 7) (v := .ref (r 57)) (C := RX7) (T := TX7) (N := 92) hx hb hts hinX7 hown hK hP 0 rfl rfl 57 (by decide) w_6 rfl rfl dX7_writesDown_130 ?_
          refine lv_iload_n hx hb dX7_writesDown_133 rfl (lv_at hl 0 rfl) ?_
          refine lv_iload_n hx hb dX7_writesDown_134 rfl (lv_at hl 3 rfl) ?_
          have J_143p90 : ∀ (j143p90_S0 : Int32) (hj143p90_S0 : iR j143p90_S0 0 1) (H : Heap) (locs : List Loc) (ls : Array Slot), va_P (dC, dI) vwCl [(h, .inr (7, oM r i j)), ((r 50), .inl (cI, 22, .inl f50)), ((r 52), .inl (cI, 22, .inl f52)), ((r 53), .inl (cI, 22, .inl (upd f53 0 y_89))), ((r 54), .inl (cI, 1100, .inl (upd j13_A4 y_89.toNatClampNeg (f52 0)))), ((r 55), .inl (cI, 1100, .inl (upd j13_A5 y_89.toNatClampNeg x1))), ((r 56), .inl (cI, 1100, .inl (upd j13_A6 y_89.toNatClampNeg (f50 0)))), ((r 57), .inl (cI, 1100, .inl j13_A7))] H → va_D A [(h, .inr (7, oM r i j)), ((r 50), .inl (cI, 22, .inl f50)), ((r 52), .inl (cI, 22, .inl f52)), ((r 53), .inl (cI, 22, .inl (upd f53 0 y_89))), ((r 54), .inl (cI, 1100, .inl (upd j13_A4 y_89.toNatClampNeg (f52 0)))), ((r 55), .inl (cI, 1100, .inl (upd j13_A5 y_89.toNatClampNeg x1))), ((r 56), .inl (cI, 1100, .inl (upd j13_A6 y_89.toNatClampNeg (f50 0)))), ((r 57), .inl (cI, 1100, .inl j13_A7))] → va_S A s.heap H locs → lv_has ls 4 [(0, .ref h)] → W p l e ({ frames := 1, cells := 0, slots := 0, locals := 40 }) s m args below meth c H locs 0 0 (MQ below (va_Qv (fun (u9 : SU) => (aR (u9.2.2.1 0) 0 50)) (fun u => k_B (dC, dI) vwCl (tyy cI cJ cZ cM) A ((fun (u9 : SU) => [(h, .inr (7, oM r i j)), ((r 50), .inl (cI, 22, .inl f50)), ((r 52), .inl (cI, 22, .inl f52)), ((r 53), .inl (cI, 22, .inl (u9.2.2.1 0))), ((r 54), .inl (cI, 1100, .inl (u9.2.2.1 1))), ((r 55), .inl (cI, 1100, .inl (u9.2.2.1 2))), ((r 56), .inl (cI, 1100, .inl (u9.2.2.1 3))), ((r 57), .inl (cI, 1100, .inl (u9.2.2.1 4)))]) u)) A) args s 0 0 A) (F0 m 143 ls [.int j143p90_S0, .int y_89, .ref (r 57)]) := by
            intro j143p90_S0 hj143p90_S0 H locs ls hP hD hS hl
            refine s_iast (g := (upd j13_A7 y_89.toNatClampNeg j143p90_S0)) (ws' := [(h, .inr (7, oM r i j)), ((r 50), .inl (cI, 22, .inl f50)), ((r 52), .inl (cI, 22, .inl f52)), ((r 53), .inl (cI, 22, .inl (upd f53 0 y_89))), ((r 54), .inl (cI, 1100, .inl (upd j13_A4 y_89.toNatClampNeg (f52 0)))), ((r 55), .inl (cI, 1100, .inl (upd j13_A5 y_89.toNatClampNeg x1))), ((r 56), .inl (cI, 1100, .inl (upd j13_A6 y_89.toNatClampNeg (f50 0)))), ((r 57), .inl (cI, 1100, .inl (upd j13_A7 y_89.toNatClampNeg j143p90_S0)))]) hx hb hK hP hD hS 7 0 rfl rfl (iR_vp f_89_2 (by decide +kernel)) rfl rfl dX7_writesDown_143 (fun H locs hP hD hS => ?_)
            refine lv_aload_n hx hb dX7_writesDown_144 rfl (lv_at hl 0 rfl) ?_
            refine k_get (D := (dC, dI)) (ci := 7) (v := .ref (r 53)) (C := RX7) (T := TX7) (N := 92) hx hb hts hinX7 hown hK hP 0 rfl rfl 53 (by decide) w_0 rfl rfl dX7_writesDown_145 ?_
            refine lv_iconst (v := 0) hx hb dX7_writesDown_148 (by decide +kernel) ?_
            refine lv_dup2_11 hx hb dX7_writesDown_149 rfl rfl ?_
            refine k_iald (v := ((upd f53 0 y_89) 0)) hx hb hK hP 3 0 0 rfl rfl rfl (Nat.le_of_ble_eq_true rfl) (Nat.le_of_ble_eq_true rfl) rfl dX7_writesDown_150 ?_
            refine k_int (v := y_89) rfl ?_
            refine lv_iconst (v := 1) hx hb dX7_writesDown_151 (by decide +kernel) ?_
            refine lv_iadd hx hb dX7_writesDown_152 ?_
            refine lv_topi (fun y_152p90 ey_152p90 => ?_)
            have f_152p90_1 : iR y_152p90 50 50 := iR_add ey_152p90 f_89_2 (iR_c (n := 1) (a := 1) (b := 1) (by decide +kernel) (by decide +kernel)) (by decide +kernel)
            refine k_iast (g := (upd (upd f53 0 y_89) 0 y_152p90)) (ws' := [(h, .inr (7, oM r i j)), ((r 50), .inl (cI, 22, .inl f50)), ((r 52), .inl (cI, 22, .inl f52)), ((r 53), .inl (cI, 22, .inl (upd (upd f53 0 y_89) 0 y_152p90))), ((r 54), .inl (cI, 1100, .inl (upd j13_A4 y_89.toNatClampNeg (f52 0)))), ((r 55), .inl (cI, 1100, .inl (upd j13_A5 y_89.toNatClampNeg x1))), ((r 56), .inl (cI, 1100, .inl (upd j13_A6 y_89.toNatClampNeg (f50 0)))), ((r 57), .inl (cI, 1100, .inl (upd j13_A7 y_89.toNatClampNeg j143p90_S0)))]) hx hb hK hP hD hS 3 0 0 rfl rfl rfl (Nat.le_of_ble_eq_true rfl) (Nat.le_of_ble_eq_true rfl) rfl rfl dX7_writesDown_153 (fun H locs hP hD hS => ?_)
            exact k_rv B hP hD hS dX7_writesDown_154 ((fun _ => 0), (fun _ => 0), (fun k9 => match k9 with | 0 => (upd (upd f53 0 y_89) 0 y_152p90) | 1 => (upd j13_A4 y_89.toNatClampNeg (f52 0)) | 2 => (upd j13_A5 y_89.toNatClampNeg x1) | 3 => (upd j13_A6 y_89.toNatClampNeg (f50 0)) | 4 => (upd j13_A7 y_89.toNatClampNeg j143p90_S0) | _ => (fun _ => 0)), (fun _ => (fun _ => 0)), (fun _ => 0)) [0, 1, 2, 3, 4, 5, 6, 7] rfl rfl (Nat.le_of_ble_eq_true rfl) (Nat.le_of_ble_eq_true rfl) (show aR (upd (upd f53 0 y_89) 0 y_152p90) 0 50 from (aR_upd _ (aR_upd _ hf53 (iR_w f_89_2 (by decide +kernel))) (iR_w f_152p90_1 (by decide +kernel))))
          refine lv_if_eq (tgt := 142) hx hb dX7_writesDown_135 (by decide) (fun c_135p90 => ?_) (fun c_135p90 => ?_)
          · have c_135p90 : x2 = 0 := c_135p90
            have f_142p90_4 : iR x2 0 0 := iR_eqL c_135p90 hx2 (iR_c (n := 0) (a := 0) (b := 0) (by decide +kernel) (by decide +kernel)) (by decide +kernel)
            refine lv_iconst (v := 0) hx hb dX7_writesDown_142 (by decide +kernel) ?_
            exact J_143p90 0 (iR_c (n := 0) (a := 0) (b := 1) (by decide +kernel) (by decide +kernel)) H locs ls hP hD hS (lv_sub hl [1] rfl)
          · have c_135p90 : ¬ x2 = 0 := c_135p90
            have f_138p90_4 : iR x2 1 1 := iR_neL c_135p90 hx2 (iR_c (n := 0) (a := 0) (b := 0) (by decide +kernel) (by decide +kernel)) (by decide +kernel)
            refine lv_iconst (v := 1) hx hb dX7_writesDown_138 (by decide +kernel) ?_
            refine lv_goto (tgt := 143) hx hb dX7_writesDown_139 (by decide) ?_
            exact J_143p90 1 (iR_c (n := 1) (a := 0) (b := 1) (by decide +kernel) (by decide +kernel)) H locs ls hP hD hS (lv_sub hl [1] rfl)
        · have c_16 : j13_L3 < 49 := i_nle c_16
          have f_19_1 : iR j13_L3 0 48 := iR_ltL c_16 hj13_L3 (iR_c (n := 49) (a := 49) (b := 49) (by decide +kernel) (by decide +kernel)) (by decide +kernel)
          refine lv_aload_n hx hb dX7_writesDown_19 rfl (lv_at hl 0 rfl) ?_
          refine k_get (D := (dC, dI)) (ci := 7) (v := .ref (r 54)) (C := RX7) (T := TX7) (N := 92) hx hb hts hinX7 hown hK hP 0 rfl rfl 54 (by decide) w_1 rfl rfl dX7_writesDown_20 ?_
          refine lv_iload_n hx hb dX7_writesDown_23 rfl (lv_at hl 3 rfl) ?_
          refine lv_aload_n hx hb dX7_writesDown_24 rfl (lv_at hl 0 rfl) ?_
          refine k_get (D := (dC, dI)) (ci := 7) (v := .ref (r 54)) (C := RX7) (T := TX7) (N := 92) hx hb hts hinX7 hown hK hP 0 rfl rfl 54 (by decide) w_1 rfl rfl dX7_writesDown_25 ?_
          refine lv_iload_n hx hb dX7_writesDown_28 rfl (lv_at hl 3 rfl) ?_
          refine lv_iconst (v := 1) hx hb dX7_writesDown_29 (by decide +kernel) ?_
          refine lv_iadd hx hb dX7_writesDown_30 ?_
          refine lv_topi (fun y_30 ey_30 => ?_)
          have f_30_2 : iR y_30 1 49 := iR_add ey_30 f_19_1 (iR_c (n := 1) (a := 1) (b := 1) (by decide +kernel) (by decide +kernel)) (by decide +kernel)
          refine va_iald hx hb hK hP 4 0 rfl rfl (iR_vp f_30_2 (by decide +kernel)) dX7_writesDown_31 ?_
          refine s_iast (g := (upd j13_A4 j13_L3.toNatClampNeg (j13_A4 y_30.toNatClampNeg))) (ws' := [(h, .inr (7, oM r i j)), ((r 50), .inl (cI, 22, .inl f50)), ((r 52), .inl (cI, 22, .inl f52)), ((r 53), .inl (cI, 22, .inl f53)), ((r 54), .inl (cI, 1100, .inl (upd j13_A4 j13_L3.toNatClampNeg (j13_A4 y_30.toNatClampNeg)))), ((r 55), .inl (cI, 1100, .inl j13_A5)), ((r 56), .inl (cI, 1100, .inl j13_A6)), ((r 57), .inl (cI, 1100, .inl j13_A7))]) hx hb hK hP hD hS 4 0 rfl rfl (iR_vp f_19_1 (by decide +kernel)) rfl rfl dX7_writesDown_32 (fun H locs hP hD hS => ?_)
          refine lv_aload_n hx hb dX7_writesDown_33 rfl (lv_at hl 0 rfl) ?_
          refine k_get (D := (dC, dI)) (ci := 7) (v := .ref (r 55)) (C := RX7) (T := TX7) (N := 92) hx hb hts hinX7 hown hK hP 0 rfl rfl 55 (by decide) w_3 rfl rfl dX7_writesDown_34 ?_
          refine lv_iload_n hx hb dX7_writesDown_37 rfl (lv_at hl 3 rfl) ?_
          refine lv_aload_n hx hb dX7_writesDown_38 rfl (lv_at hl 0 rfl) ?_
          refine k_get (D := (dC, dI)) (ci := 7) (v := .ref (r 55)) (C := RX7) (T := TX7) (N := 92) hx hb hts hinX7 hown hK hP 0 rfl rfl 55 (by decide) w_3 rfl rfl dX7_writesDown_39 ?_
          refine lv_iload_n hx hb dX7_writesDown_42 rfl (lv_at hl 3 rfl) ?_
          refine lv_iconst (v := 1) hx hb dX7_writesDown_43 (by decide +kernel) ?_
          refine lv_iadd hx hb dX7_writesDown_44 ?_
          refine lv_topi (fun y_44 ey_44 => ?_)
          have f_44_3 : iR y_44 1 49 := iR_add ey_44 f_19_1 (iR_c (n := 1) (a := 1) (b := 1) (by decide +kernel) (by decide +kernel)) (by decide +kernel)
          refine va_iald hx hb hK hP 5 0 rfl rfl (iR_vp f_44_3 (by decide +kernel)) dX7_writesDown_45 ?_
          refine s_iast (g := (upd j13_A5 j13_L3.toNatClampNeg (j13_A5 y_44.toNatClampNeg))) (ws' := [(h, .inr (7, oM r i j)), ((r 50), .inl (cI, 22, .inl f50)), ((r 52), .inl (cI, 22, .inl f52)), ((r 53), .inl (cI, 22, .inl f53)), ((r 54), .inl (cI, 1100, .inl (upd j13_A4 j13_L3.toNatClampNeg (j13_A4 y_30.toNatClampNeg)))), ((r 55), .inl (cI, 1100, .inl (upd j13_A5 j13_L3.toNatClampNeg (j13_A5 y_44.toNatClampNeg)))), ((r 56), .inl (cI, 1100, .inl j13_A6)), ((r 57), .inl (cI, 1100, .inl j13_A7))]) hx hb hK hP hD hS 5 0 rfl rfl (iR_vp f_19_1 (by decide +kernel)) rfl rfl dX7_writesDown_46 (fun H locs hP hD hS => ?_)
          refine lv_aload_n hx hb dX7_writesDown_47 rfl (lv_at hl 0 rfl) ?_
          refine k_get (D := (dC, dI)) (ci := 7) (v := .ref (r 56)) (C := RX7) (T := TX7) (N := 92) hx hb hts hinX7 hown hK hP 0 rfl rfl 56 (by decide) w_4 rfl rfl dX7_writesDown_48 ?_
          refine lv_iload_n hx hb dX7_writesDown_51 rfl (lv_at hl 3 rfl) ?_
          refine lv_aload_n hx hb dX7_writesDown_52 rfl (lv_at hl 0 rfl) ?_
          refine k_get (D := (dC, dI)) (ci := 7) (v := .ref (r 56)) (C := RX7) (T := TX7) (N := 92) hx hb hts hinX7 hown hK hP 0 rfl rfl 56 (by decide) w_4 rfl rfl dX7_writesDown_53 ?_
          refine lv_iload_n hx hb dX7_writesDown_56 rfl (lv_at hl 3 rfl) ?_
          refine lv_iconst (v := 1) hx hb dX7_writesDown_57 (by decide +kernel) ?_
          refine lv_iadd hx hb dX7_writesDown_58 ?_
          refine lv_topi (fun y_58 ey_58 => ?_)
          have f_58_4 : iR y_58 1 49 := iR_add ey_58 f_19_1 (iR_c (n := 1) (a := 1) (b := 1) (by decide +kernel) (by decide +kernel)) (by decide +kernel)
          refine va_iald hx hb hK hP 6 0 rfl rfl (iR_vp f_58_4 (by decide +kernel)) dX7_writesDown_59 ?_
          refine s_iast (g := (upd j13_A6 j13_L3.toNatClampNeg (j13_A6 y_58.toNatClampNeg))) (ws' := [(h, .inr (7, oM r i j)), ((r 50), .inl (cI, 22, .inl f50)), ((r 52), .inl (cI, 22, .inl f52)), ((r 53), .inl (cI, 22, .inl f53)), ((r 54), .inl (cI, 1100, .inl (upd j13_A4 j13_L3.toNatClampNeg (j13_A4 y_30.toNatClampNeg)))), ((r 55), .inl (cI, 1100, .inl (upd j13_A5 j13_L3.toNatClampNeg (j13_A5 y_44.toNatClampNeg)))), ((r 56), .inl (cI, 1100, .inl (upd j13_A6 j13_L3.toNatClampNeg (j13_A6 y_58.toNatClampNeg)))), ((r 57), .inl (cI, 1100, .inl j13_A7))]) hx hb hK hP hD hS 6 0 rfl rfl (iR_vp f_19_1 (by decide +kernel)) rfl rfl dX7_writesDown_60 (fun H locs hP hD hS => ?_)
          refine lv_aload_n hx hb dX7_writesDown_61 rfl (lv_at hl 0 rfl) ?_
          refine k_get (D := (dC, dI)) (ci := 7) (v := .ref (r 57)) (C := RX7) (T := TX7) (N := 92) hx hb hts hinX7 hown hK hP 0 rfl rfl 57 (by decide) w_6 rfl rfl dX7_writesDown_62 ?_
          refine lv_iload_n hx hb dX7_writesDown_65 rfl (lv_at hl 3 rfl) ?_
          refine lv_aload_n hx hb dX7_writesDown_66 rfl (lv_at hl 0 rfl) ?_
          refine k_get (D := (dC, dI)) (ci := 7) (v := .ref (r 57)) (C := RX7) (T := TX7) (N := 92) hx hb hts hinX7 hown hK hP 0 rfl rfl 57 (by decide) w_6 rfl rfl dX7_writesDown_67 ?_
          refine lv_iload_n hx hb dX7_writesDown_70 rfl (lv_at hl 3 rfl) ?_
          refine lv_iconst (v := 1) hx hb dX7_writesDown_71 (by decide +kernel) ?_
          refine lv_iadd hx hb dX7_writesDown_72 ?_
          refine lv_topi (fun y_72 ey_72 => ?_)
          have f_72_5 : iR y_72 1 49 := iR_add ey_72 f_19_1 (iR_c (n := 1) (a := 1) (b := 1) (by decide +kernel) (by decide +kernel)) (by decide +kernel)
          refine va_iald hx hb hK hP 7 0 rfl rfl (iR_vp f_72_5 (by decide +kernel)) dX7_writesDown_73 ?_
          refine s_iast (g := (upd j13_A7 j13_L3.toNatClampNeg (j13_A7 y_72.toNatClampNeg))) (ws' := [(h, .inr (7, oM r i j)), ((r 50), .inl (cI, 22, .inl f50)), ((r 52), .inl (cI, 22, .inl f52)), ((r 53), .inl (cI, 22, .inl f53)), ((r 54), .inl (cI, 1100, .inl (upd j13_A4 j13_L3.toNatClampNeg (j13_A4 y_30.toNatClampNeg)))), ((r 55), .inl (cI, 1100, .inl (upd j13_A5 j13_L3.toNatClampNeg (j13_A5 y_44.toNatClampNeg)))), ((r 56), .inl (cI, 1100, .inl (upd j13_A6 j13_L3.toNatClampNeg (j13_A6 y_58.toNatClampNeg)))), ((r 57), .inl (cI, 1100, .inl (upd j13_A7 j13_L3.toNatClampNeg (j13_A7 y_72.toNatClampNeg))))]) hx hb hK hP hD hS 7 0 rfl rfl (iR_vp f_19_1 (by decide +kernel)) rfl rfl dX7_writesDown_74 (fun H locs hP hD hS => ?_)
          obtain ⟨y_75, ey_75⟩ : ∃ y : Int32, y = j13_L3 + 1 := ⟨_, rfl⟩
          refine lv_iinc (v := y_75) (lv' := [(3, .int y_75), (0, .ref h), (1, .int x1), (2, .int x2)]) hx hb dX7_writesDown_75 hl (k := 3) rfl ey_75.symm (by decide) rfl (fun ls hl => ?_)
          have f_75_6 : iR y_75 1 49 := iR_add ey_75 f_19_1 (iR_c (n := 1) (a := 1) (b := 1) (by decide +kernel) (by decide +kernel)) (by decide +kernel)
          refine lv_goto (tgt := 13) hx hb dX7_writesDown_78 (by decide) ?_
          exact ih_13 (upd j13_A4 j13_L3.toNatClampNeg (j13_A4 y_30.toNatClampNeg)) (upd j13_A5 j13_L3.toNatClampNeg (j13_A5 y_44.toNatClampNeg)) (upd j13_A6 j13_L3.toNatClampNeg (j13_A6 y_58.toNatClampNeg)) (upd j13_A7 j13_L3.toNatClampNeg (j13_A7 y_72.toNatClampNeg)) y_75 (iR_w f_75_6 (by decide +kernel)) (m_up (B := 49) hm_13 ey_75 f_19_1 (by decide +kernel)) H locs ls hP hD hS (lv_sub hl [1, 2, 3, 0] rfl)
    refine lv_istore_n (lv' := [(3, .int 0), (0, .ref h), (1, .int x1), (2, .int x2)]) hx hb dX7_writesDown_12 rfl hl (by decide) rfl (fun ls hl => ?_)
    exact J_13 _ f54 f55 f56 f57 0 (iR_c (n := 0) (a := 0) (b := 49) (by decide +kernel) (by decide +kernel)) (Nat.lt_succ_self _) H locs ls hP hD hS (lv_sub hl [1, 2, 3, 0] rfl)
set_option maxHeartbeats 8000000 in
set_option maxRecDepth 100000 in
theorem s_X7_isOwn_v9 (l : Launch) (dC : Nat → ClassId) (dI : Nat → Nat → Nat) (cI cJ cZ cM : ClassId) (h : Nat) (x1 : Int64)  : k_Mi l yX7_isOwn wsX7_isOwn ({ frames := 1, cells := 0, slots := 0, locals := 40 }) (dC, dI) vwCl (tyy cI cJ cZ cM) [] [.ref h, .long x1] 0 0 (fun (u9 : Unit) => []) (fun (r9 : Int32) (u9 : Unit) => (iR r9 0 1)) := by
  refine fun sz => k_enter (cc := cX7_isOwn) (maxL := 3) (ret := some (.boolean)) (Qc := fun A => va_Qi (fun (r9 : Int32) (u9 : Unit) => (iR r9 0 1)) (fun u => k_B (dC, dI) vwCl (tyy cI cJ cZ cM) A ((fun (u9 : Unit) => []) u)) A) sz (by decide +kernel) rfl (Nat.le_of_ble_eq_true rfl) (fun p e s m args below meth c A ls H locs B hP hD hS hl => ?_)
  obtain ⟨hx, hb, hml, hown, hts, hr, hlk, hnm, hK, hA, hN, hC⟩ := id B
  have hown : s.vm.findClass RX7 = some m.cls := hown
  have hl : lv_has ls 3 [(0, .ref h), (1, .long x1)] := hl
  have w_0 : (Cond.constantLong RX7 323 (499967946343)).before args s = true := hts _ (List.mem_of_getElem? (i := 1) rfl)
  have w_1 : (Cond.constantLong RX7 325 (512970880104)).before args s = true := hts _ (List.mem_of_getElem? (i := 2) rfl)
  have w_2 : (Cond.constantLong RX7 327 (125793039377779)).before args s = true := hts _ (List.mem_of_getElem? (i := 3) rfl)
  have w_3 : (Cond.constantLong RX7 329 (422826304870)).before args s = true := hts _ (List.mem_of_getElem? (i := 4) rfl)
  have w_4 : (Cond.constantLong RX7 331 (2003399528)).before args s = true := hts _ (List.mem_of_getElem? (i := 5) rfl)
  have w_5 : (Cond.constantLong RX7 333 (512970876019)).before args s = true := hts _ (List.mem_of_getElem? (i := 6) rfl)
  have w_6 : (Cond.constantLong RX7 335 (444150998387)).before args s = true := hts _ (List.mem_of_getElem? (i := 7) rfl)
  have w_7 : (Cond.constantLong RX7 337 (474147546227)).before args s = true := hts _ (List.mem_of_getElem? (i := 8) rfl)
  have w_8 : (Cond.constantLong RX7 339 (1970496883)).before args s = true := hts _ (List.mem_of_getElem? (i := 9) rfl)
  have w_9 : (Cond.constantLong RX7 341 (439855772532)).before args s = true := hts _ (List.mem_of_getElem? (i := 10) rfl)
  have w_10 : (Cond.constantLong RX7 343 (1684107883)).before args s = true := hts _ (List.mem_of_getElem? (i := 11) rfl)
  have w_11 : (Cond.constantLong RX7 345 (1919905645)).before args s = true := hts _ (List.mem_of_getElem? (i := 12) rfl)
  have w_12 : (Cond.constantLong RX7 347 (27988542884245108)).before args s = true := hts _ (List.mem_of_getElem? (i := 13) rfl)
  have w_13 : (Cond.constantLong RX7 349 (422607680115)).before args s = true := hts _ (List.mem_of_getElem? (i := 14) rfl)
  have w_14 : (Cond.constantLong RX7 351 (1667329133)).before args s = true := hts _ (List.mem_of_getElem? (i := 15) rfl)
  have w_15 : (Cond.constantLong RX7 353 (6840676)).before args s = true := hts _ (List.mem_of_getElem? (i := 16) rfl)
  have w_16 : (Cond.constantLong RX7 355 (7562593)).before args s = true := hts _ (List.mem_of_getElem? (i := 17) rfl)
  have w_17 : (Cond.constantLong RX7 357 (1935763812)).before args s = true := hts _ (List.mem_of_getElem? (i := 18) rfl)
  have w_18 : (Cond.constantLong RX7 359 (6578553)).before args s = true := hts _ (List.mem_of_getElem? (i := 19) rfl)
  have w_19 : (Cond.constantLong RX7 361 (28530)).before args s = true := hts _ (List.mem_of_getElem? (i := 20) rfl)
  have w_20 : (Cond.constantLong RX7 363 (6385252)).before args s = true := hts _ (List.mem_of_getElem? (i := 21) rfl)
  have w_21 : (Cond.constantLong RX7 365 (7237492)).before args s = true := hts _ (List.mem_of_getElem? (i := 22) rfl)
  have w_22 : (Cond.constantLong RX7 367 (6384748)).before args s = true := hts _ (List.mem_of_getElem? (i := 23) rfl)
  have w_23 : (Cond.constantLong RX7 369 (7170414)).before args s = true := hts _ (List.mem_of_getElem? (i := 24) rfl)
  have w_24 : (Cond.constantLong RX7 371 (7168376)).before args s = true := hts _ (List.mem_of_getElem? (i := 25) rfl)
  refine lv_lload_n hx hb dX7_isOwn_0 rfl (lv_at hl 1 rfl) ?_
  refine lv_ldc2 (v := 499967946343) hx hb hown w_0 dX7_isOwn_1 ?_
  refine W.lcmp hx hb dX7_isOwn_4 ?_
  refine lv_topi (fun y_4 ey_4 => ?_)
  have J_40 : ∀   (H : Heap) (locs : List Loc) (ls : Array Slot), va_P (dC, dI) vwCl [] H → va_D A [] → va_S A s.heap H locs → lv_has ls 3 [] → W p l e ({ frames := 1, cells := 0, slots := 0, locals := 40 }) s m args below meth c H locs 0 0 (MQ below (va_Qi (fun (r9 : Int32) (u9 : Unit) => (iR r9 0 1)) (fun u => k_B (dC, dI) vwCl (tyy cI cJ cZ cM) A ((fun (u9 : Unit) => []) u)) A) args s 0 0 A) (F0 m 40 ls []) := by
    intro   H locs ls hP hD hS hl
    refine lv_iconst (v := 1) hx hb dX7_isOwn_40 (by decide +kernel) ?_
    exact k_ri B hP hD hS dX7_isOwn_41 () [] rfl rfl rfl (Nat.le_of_ble_eq_true rfl) (Nat.le_of_ble_eq_true rfl) (show iR 1 0 1 from (iR_c (n := 1) (a := 0) (b := 1) (by decide +kernel) (by decide +kernel)))
  refine lv_if_eq (tgt := 40) hx hb dX7_isOwn_5 (by decide) (fun c_5 => ?_) (fun c_5 => ?_)
  · have c_5 : y_4 = 0 := c_5
    have f_40_1 : iR y_4 0 0 := iR_eqL c_5 (iR_top _) (iR_c (n := 0) (a := 0) (b := 0) (by decide +kernel) (by decide +kernel)) (by decide +kernel)
    have lc_5 : x1 = 499967946343 := l_cmpe ey_4 c_5
    exact J_40   H locs ls hP hD hS (lv_sub hl [] rfl)
  · have c_5 : ¬ y_4 = 0 := c_5
    have lc_5 : ¬ x1 = 499967946343 := l_cmpne ey_4 c_5
    refine lv_lload_n hx hb dX7_isOwn_8 rfl (lv_at hl 1 rfl) ?_
    refine lv_ldc2 (v := 512970880104) hx hb hown w_1 dX7_isOwn_9 ?_
    refine W.lcmp hx hb dX7_isOwn_12 ?_
    refine lv_topi (fun y_12 ey_12 => ?_)
    refine lv_if_eq (tgt := 40) hx hb dX7_isOwn_13 (by decide) (fun c_13 => ?_) (fun c_13 => ?_)
    · have c_13 : y_12 = 0 := c_13
      have f_40_1 : iR y_12 0 0 := iR_eqL c_13 (iR_top _) (iR_c (n := 0) (a := 0) (b := 0) (by decide +kernel) (by decide +kernel)) (by decide +kernel)
      have lc_13 : x1 = 512970880104 := l_cmpe ey_12 c_13
      exact J_40   H locs ls hP hD hS (lv_sub hl [] rfl)
    · have c_13 : ¬ y_12 = 0 := c_13
      have lc_13 : ¬ x1 = 512970880104 := l_cmpne ey_12 c_13
      refine lv_lload_n hx hb dX7_isOwn_16 rfl (lv_at hl 1 rfl) ?_
      refine lv_ldc2 (v := 125793039377779) hx hb hown w_2 dX7_isOwn_17 ?_
      refine W.lcmp hx hb dX7_isOwn_20 ?_
      refine lv_topi (fun y_20 ey_20 => ?_)
      refine lv_if_eq (tgt := 40) hx hb dX7_isOwn_21 (by decide) (fun c_21 => ?_) (fun c_21 => ?_)
      · have c_21 : y_20 = 0 := c_21
        have f_40_1 : iR y_20 0 0 := iR_eqL c_21 (iR_top _) (iR_c (n := 0) (a := 0) (b := 0) (by decide +kernel) (by decide +kernel)) (by decide +kernel)
        have lc_21 : x1 = 125793039377779 := l_cmpe ey_20 c_21
        exact J_40   H locs ls hP hD hS (lv_sub hl [] rfl)
      · have c_21 : ¬ y_20 = 0 := c_21
        have lc_21 : ¬ x1 = 125793039377779 := l_cmpne ey_20 c_21
        refine lv_lload_n hx hb dX7_isOwn_24 rfl (lv_at hl 1 rfl) ?_
        refine lv_ldc2 (v := 422826304870) hx hb hown w_3 dX7_isOwn_25 ?_
        refine W.lcmp hx hb dX7_isOwn_28 ?_
        refine lv_topi (fun y_28 ey_28 => ?_)
        refine lv_if_eq (tgt := 40) hx hb dX7_isOwn_29 (by decide) (fun c_29 => ?_) (fun c_29 => ?_)
        · have c_29 : y_28 = 0 := c_29
          have f_40_1 : iR y_28 0 0 := iR_eqL c_29 (iR_top _) (iR_c (n := 0) (a := 0) (b := 0) (by decide +kernel) (by decide +kernel)) (by decide +kernel)
          have lc_29 : x1 = 422826304870 := l_cmpe ey_28 c_29
          exact J_40   H locs ls hP hD hS (lv_sub hl [] rfl)
        · have c_29 : ¬ y_28 = 0 := c_29
          have lc_29 : ¬ x1 = 422826304870 := l_cmpne ey_28 c_29
          refine lv_lload_n hx hb dX7_isOwn_32 rfl (lv_at hl 1 rfl) ?_
          refine lv_ldc2 (v := 2003399528) hx hb hown w_4 dX7_isOwn_33 ?_
          refine W.lcmp hx hb dX7_isOwn_36 ?_
          refine lv_topi (fun y_36 ey_36 => ?_)
          refine lv_if_ne (tgt := 42) hx hb dX7_isOwn_37 (by decide) (fun c_37 => ?_) (fun c_37 => ?_)
          · have c_37 : ¬ y_36 = 0 := c_37
            have lc_37 : ¬ x1 = 2003399528 := l_cmpne ey_36 c_37
            refine lv_lload_n hx hb dX7_isOwn_42 rfl (lv_at hl 1 rfl) ?_
            refine lv_ldc2 (v := 512970876019) hx hb hown w_5 dX7_isOwn_43 ?_
            refine W.lcmp hx hb dX7_isOwn_46 ?_
            refine lv_topi (fun y_46 ey_46 => ?_)
            have J_82 : ∀   (H : Heap) (locs : List Loc) (ls : Array Slot), va_P (dC, dI) vwCl [] H → va_D A [] → va_S A s.heap H locs → lv_has ls 3 [] → W p l e ({ frames := 1, cells := 0, slots := 0, locals := 40 }) s m args below meth c H locs 0 0 (MQ below (va_Qi (fun (r9 : Int32) (u9 : Unit) => (iR r9 0 1)) (fun u => k_B (dC, dI) vwCl (tyy cI cJ cZ cM) A ((fun (u9 : Unit) => []) u)) A) args s 0 0 A) (F0 m 82 ls []) := by
              intro   H locs ls hP hD hS hl
              refine lv_iconst (v := 1) hx hb dX7_isOwn_82 (by decide +kernel) ?_
              exact k_ri B hP hD hS dX7_isOwn_83 () [] rfl rfl rfl (Nat.le_of_ble_eq_true rfl) (Nat.le_of_ble_eq_true rfl) (show iR 1 0 1 from (iR_c (n := 1) (a := 0) (b := 1) (by decide +kernel) (by decide +kernel)))
            refine lv_if_eq (tgt := 82) hx hb dX7_isOwn_47 (by decide) (fun c_47 => ?_) (fun c_47 => ?_)
            · have c_47 : y_46 = 0 := c_47
              have f_82_1 : iR y_46 0 0 := iR_eqL c_47 (iR_top _) (iR_c (n := 0) (a := 0) (b := 0) (by decide +kernel) (by decide +kernel)) (by decide +kernel)
              have lc_47 : x1 = 512970876019 := l_cmpe ey_46 c_47
              exact J_82   H locs ls hP hD hS (lv_sub hl [] rfl)
            · have c_47 : ¬ y_46 = 0 := c_47
              have lc_47 : ¬ x1 = 512970876019 := l_cmpne ey_46 c_47
              refine lv_lload_n hx hb dX7_isOwn_50 rfl (lv_at hl 1 rfl) ?_
              refine lv_ldc2 (v := 444150998387) hx hb hown w_6 dX7_isOwn_51 ?_
              refine W.lcmp hx hb dX7_isOwn_54 ?_
              refine lv_topi (fun y_54 ey_54 => ?_)
              refine lv_if_eq (tgt := 82) hx hb dX7_isOwn_55 (by decide) (fun c_55 => ?_) (fun c_55 => ?_)
              · have c_55 : y_54 = 0 := c_55
                have f_82_1 : iR y_54 0 0 := iR_eqL c_55 (iR_top _) (iR_c (n := 0) (a := 0) (b := 0) (by decide +kernel) (by decide +kernel)) (by decide +kernel)
                have lc_55 : x1 = 444150998387 := l_cmpe ey_54 c_55
                exact J_82   H locs ls hP hD hS (lv_sub hl [] rfl)
              · have c_55 : ¬ y_54 = 0 := c_55
                have lc_55 : ¬ x1 = 444150998387 := l_cmpne ey_54 c_55
                refine lv_lload_n hx hb dX7_isOwn_58 rfl (lv_at hl 1 rfl) ?_
                refine lv_ldc2 (v := 474147546227) hx hb hown w_7 dX7_isOwn_59 ?_
                refine W.lcmp hx hb dX7_isOwn_62 ?_
                refine lv_topi (fun y_62 ey_62 => ?_)
                refine lv_if_eq (tgt := 82) hx hb dX7_isOwn_63 (by decide) (fun c_63 => ?_) (fun c_63 => ?_)
                · have c_63 : y_62 = 0 := c_63
                  have f_82_1 : iR y_62 0 0 := iR_eqL c_63 (iR_top _) (iR_c (n := 0) (a := 0) (b := 0) (by decide +kernel) (by decide +kernel)) (by decide +kernel)
                  have lc_63 : x1 = 474147546227 := l_cmpe ey_62 c_63
                  exact J_82   H locs ls hP hD hS (lv_sub hl [] rfl)
                · have c_63 : ¬ y_62 = 0 := c_63
                  have lc_63 : ¬ x1 = 474147546227 := l_cmpne ey_62 c_63
                  refine lv_lload_n hx hb dX7_isOwn_66 rfl (lv_at hl 1 rfl) ?_
                  refine lv_ldc2 (v := 1970496883) hx hb hown w_8 dX7_isOwn_67 ?_
                  refine W.lcmp hx hb dX7_isOwn_70 ?_
                  refine lv_topi (fun y_70 ey_70 => ?_)
                  refine lv_if_eq (tgt := 82) hx hb dX7_isOwn_71 (by decide) (fun c_71 => ?_) (fun c_71 => ?_)
                  · have c_71 : y_70 = 0 := c_71
                    have f_82_1 : iR y_70 0 0 := iR_eqL c_71 (iR_top _) (iR_c (n := 0) (a := 0) (b := 0) (by decide +kernel) (by decide +kernel)) (by decide +kernel)
                    have lc_71 : x1 = 1970496883 := l_cmpe ey_70 c_71
                    exact J_82   H locs ls hP hD hS (lv_sub hl [] rfl)
                  · have c_71 : ¬ y_70 = 0 := c_71
                    have lc_71 : ¬ x1 = 1970496883 := l_cmpne ey_70 c_71
                    refine lv_lload_n hx hb dX7_isOwn_74 rfl (lv_at hl 1 rfl) ?_
                    refine lv_ldc2 (v := 439855772532) hx hb hown w_9 dX7_isOwn_75 ?_
                    refine W.lcmp hx hb dX7_isOwn_78 ?_
                    refine lv_topi (fun y_78 ey_78 => ?_)
                    refine lv_if_ne (tgt := 84) hx hb dX7_isOwn_79 (by decide) (fun c_79 => ?_) (fun c_79 => ?_)
                    · have c_79 : ¬ y_78 = 0 := c_79
                      have lc_79 : ¬ x1 = 439855772532 := l_cmpne ey_78 c_79
                      refine lv_lload_n hx hb dX7_isOwn_84 rfl (lv_at hl 1 rfl) ?_
                      refine lv_ldc2 (v := 1684107883) hx hb hown w_10 dX7_isOwn_85 ?_
                      refine W.lcmp hx hb dX7_isOwn_88 ?_
                      refine lv_topi (fun y_88 ey_88 => ?_)
                      have J_124 : ∀   (H : Heap) (locs : List Loc) (ls : Array Slot), va_P (dC, dI) vwCl [] H → va_D A [] → va_S A s.heap H locs → lv_has ls 3 [] → W p l e ({ frames := 1, cells := 0, slots := 0, locals := 40 }) s m args below meth c H locs 0 0 (MQ below (va_Qi (fun (r9 : Int32) (u9 : Unit) => (iR r9 0 1)) (fun u => k_B (dC, dI) vwCl (tyy cI cJ cZ cM) A ((fun (u9 : Unit) => []) u)) A) args s 0 0 A) (F0 m 124 ls []) := by
                        intro   H locs ls hP hD hS hl
                        refine lv_iconst (v := 1) hx hb dX7_isOwn_124 (by decide +kernel) ?_
                        exact k_ri B hP hD hS dX7_isOwn_125 () [] rfl rfl rfl (Nat.le_of_ble_eq_true rfl) (Nat.le_of_ble_eq_true rfl) (show iR 1 0 1 from (iR_c (n := 1) (a := 0) (b := 1) (by decide +kernel) (by decide +kernel)))
                      refine lv_if_eq (tgt := 124) hx hb dX7_isOwn_89 (by decide) (fun c_89 => ?_) (fun c_89 => ?_)
                      · have c_89 : y_88 = 0 := c_89
                        have f_124_1 : iR y_88 0 0 := iR_eqL c_89 (iR_top _) (iR_c (n := 0) (a := 0) (b := 0) (by decide +kernel) (by decide +kernel)) (by decide +kernel)
                        have lc_89 : x1 = 1684107883 := l_cmpe ey_88 c_89
                        exact J_124   H locs ls hP hD hS (lv_sub hl [] rfl)
                      · have c_89 : ¬ y_88 = 0 := c_89
                        have lc_89 : ¬ x1 = 1684107883 := l_cmpne ey_88 c_89
                        refine lv_lload_n hx hb dX7_isOwn_92 rfl (lv_at hl 1 rfl) ?_
                        refine lv_ldc2 (v := 1919905645) hx hb hown w_11 dX7_isOwn_93 ?_
                        refine W.lcmp hx hb dX7_isOwn_96 ?_
                        refine lv_topi (fun y_96 ey_96 => ?_)
                        refine lv_if_eq (tgt := 124) hx hb dX7_isOwn_97 (by decide) (fun c_97 => ?_) (fun c_97 => ?_)
                        · have c_97 : y_96 = 0 := c_97
                          have f_124_1 : iR y_96 0 0 := iR_eqL c_97 (iR_top _) (iR_c (n := 0) (a := 0) (b := 0) (by decide +kernel) (by decide +kernel)) (by decide +kernel)
                          have lc_97 : x1 = 1919905645 := l_cmpe ey_96 c_97
                          exact J_124   H locs ls hP hD hS (lv_sub hl [] rfl)
                        · have c_97 : ¬ y_96 = 0 := c_97
                          have lc_97 : ¬ x1 = 1919905645 := l_cmpne ey_96 c_97
                          refine lv_lload_n hx hb dX7_isOwn_100 rfl (lv_at hl 1 rfl) ?_
                          refine lv_ldc2 (v := 27988542884245108) hx hb hown w_12 dX7_isOwn_101 ?_
                          refine W.lcmp hx hb dX7_isOwn_104 ?_
                          refine lv_topi (fun y_104 ey_104 => ?_)
                          refine lv_if_eq (tgt := 124) hx hb dX7_isOwn_105 (by decide) (fun c_105 => ?_) (fun c_105 => ?_)
                          · have c_105 : y_104 = 0 := c_105
                            have f_124_1 : iR y_104 0 0 := iR_eqL c_105 (iR_top _) (iR_c (n := 0) (a := 0) (b := 0) (by decide +kernel) (by decide +kernel)) (by decide +kernel)
                            have lc_105 : x1 = 27988542884245108 := l_cmpe ey_104 c_105
                            exact J_124   H locs ls hP hD hS (lv_sub hl [] rfl)
                          · have c_105 : ¬ y_104 = 0 := c_105
                            have lc_105 : ¬ x1 = 27988542884245108 := l_cmpne ey_104 c_105
                            refine lv_lload_n hx hb dX7_isOwn_108 rfl (lv_at hl 1 rfl) ?_
                            refine lv_ldc2 (v := 422607680115) hx hb hown w_13 dX7_isOwn_109 ?_
                            refine W.lcmp hx hb dX7_isOwn_112 ?_
                            refine lv_topi (fun y_112 ey_112 => ?_)
                            refine lv_if_eq (tgt := 124) hx hb dX7_isOwn_113 (by decide) (fun c_113 => ?_) (fun c_113 => ?_)
                            · have c_113 : y_112 = 0 := c_113
                              have f_124_1 : iR y_112 0 0 := iR_eqL c_113 (iR_top _) (iR_c (n := 0) (a := 0) (b := 0) (by decide +kernel) (by decide +kernel)) (by decide +kernel)
                              have lc_113 : x1 = 422607680115 := l_cmpe ey_112 c_113
                              exact J_124   H locs ls hP hD hS (lv_sub hl [] rfl)
                            · have c_113 : ¬ y_112 = 0 := c_113
                              have lc_113 : ¬ x1 = 422607680115 := l_cmpne ey_112 c_113
                              refine lv_lload_n hx hb dX7_isOwn_116 rfl (lv_at hl 1 rfl) ?_
                              refine lv_ldc2 (v := 1667329133) hx hb hown w_14 dX7_isOwn_117 ?_
                              refine W.lcmp hx hb dX7_isOwn_120 ?_
                              refine lv_topi (fun y_120 ey_120 => ?_)
                              refine lv_if_ne (tgt := 126) hx hb dX7_isOwn_121 (by decide) (fun c_121 => ?_) (fun c_121 => ?_)
                              · have c_121 : ¬ y_120 = 0 := c_121
                                have lc_121 : ¬ x1 = 1667329133 := l_cmpne ey_120 c_121
                                refine lv_lload_n hx hb dX7_isOwn_126 rfl (lv_at hl 1 rfl) ?_
                                refine lv_ldc2 (v := 6840676) hx hb hown w_15 dX7_isOwn_127 ?_
                                refine W.lcmp hx hb dX7_isOwn_130 ?_
                                refine lv_topi (fun y_130 ey_130 => ?_)
                                have J_166 : ∀   (H : Heap) (locs : List Loc) (ls : Array Slot), va_P (dC, dI) vwCl [] H → va_D A [] → va_S A s.heap H locs → lv_has ls 3 [] → W p l e ({ frames := 1, cells := 0, slots := 0, locals := 40 }) s m args below meth c H locs 0 0 (MQ below (va_Qi (fun (r9 : Int32) (u9 : Unit) => (iR r9 0 1)) (fun u => k_B (dC, dI) vwCl (tyy cI cJ cZ cM) A ((fun (u9 : Unit) => []) u)) A) args s 0 0 A) (F0 m 166 ls []) := by
                                  intro   H locs ls hP hD hS hl
                                  refine lv_iconst (v := 1) hx hb dX7_isOwn_166 (by decide +kernel) ?_
                                  exact k_ri B hP hD hS dX7_isOwn_167 () [] rfl rfl rfl (Nat.le_of_ble_eq_true rfl) (Nat.le_of_ble_eq_true rfl) (show iR 1 0 1 from (iR_c (n := 1) (a := 0) (b := 1) (by decide +kernel) (by decide +kernel)))
                                refine lv_if_eq (tgt := 166) hx hb dX7_isOwn_131 (by decide) (fun c_131 => ?_) (fun c_131 => ?_)
                                · have c_131 : y_130 = 0 := c_131
                                  have f_166_1 : iR y_130 0 0 := iR_eqL c_131 (iR_top _) (iR_c (n := 0) (a := 0) (b := 0) (by decide +kernel) (by decide +kernel)) (by decide +kernel)
                                  have lc_131 : x1 = 6840676 := l_cmpe ey_130 c_131
                                  exact J_166   H locs ls hP hD hS (lv_sub hl [] rfl)
                                · have c_131 : ¬ y_130 = 0 := c_131
                                  have lc_131 : ¬ x1 = 6840676 := l_cmpne ey_130 c_131
                                  refine lv_lload_n hx hb dX7_isOwn_134 rfl (lv_at hl 1 rfl) ?_
                                  refine lv_ldc2 (v := 7562593) hx hb hown w_16 dX7_isOwn_135 ?_
                                  refine W.lcmp hx hb dX7_isOwn_138 ?_
                                  refine lv_topi (fun y_138 ey_138 => ?_)
                                  refine lv_if_eq (tgt := 166) hx hb dX7_isOwn_139 (by decide) (fun c_139 => ?_) (fun c_139 => ?_)
                                  · have c_139 : y_138 = 0 := c_139
                                    have f_166_1 : iR y_138 0 0 := iR_eqL c_139 (iR_top _) (iR_c (n := 0) (a := 0) (b := 0) (by decide +kernel) (by decide +kernel)) (by decide +kernel)
                                    have lc_139 : x1 = 7562593 := l_cmpe ey_138 c_139
                                    exact J_166   H locs ls hP hD hS (lv_sub hl [] rfl)
                                  · have c_139 : ¬ y_138 = 0 := c_139
                                    have lc_139 : ¬ x1 = 7562593 := l_cmpne ey_138 c_139
                                    refine lv_lload_n hx hb dX7_isOwn_142 rfl (lv_at hl 1 rfl) ?_
                                    refine lv_ldc2 (v := 1935763812) hx hb hown w_17 dX7_isOwn_143 ?_
                                    refine W.lcmp hx hb dX7_isOwn_146 ?_
                                    refine lv_topi (fun y_146 ey_146 => ?_)
                                    refine lv_if_eq (tgt := 166) hx hb dX7_isOwn_147 (by decide) (fun c_147 => ?_) (fun c_147 => ?_)
                                    · have c_147 : y_146 = 0 := c_147
                                      have f_166_1 : iR y_146 0 0 := iR_eqL c_147 (iR_top _) (iR_c (n := 0) (a := 0) (b := 0) (by decide +kernel) (by decide +kernel)) (by decide +kernel)
                                      have lc_147 : x1 = 1935763812 := l_cmpe ey_146 c_147
                                      exact J_166   H locs ls hP hD hS (lv_sub hl [] rfl)
                                    · have c_147 : ¬ y_146 = 0 := c_147
                                      have lc_147 : ¬ x1 = 1935763812 := l_cmpne ey_146 c_147
                                      refine lv_lload_n hx hb dX7_isOwn_150 rfl (lv_at hl 1 rfl) ?_
                                      refine lv_ldc2 (v := 6578553) hx hb hown w_18 dX7_isOwn_151 ?_
                                      refine W.lcmp hx hb dX7_isOwn_154 ?_
                                      refine lv_topi (fun y_154 ey_154 => ?_)
                                      refine lv_if_eq (tgt := 166) hx hb dX7_isOwn_155 (by decide) (fun c_155 => ?_) (fun c_155 => ?_)
                                      · have c_155 : y_154 = 0 := c_155
                                        have f_166_1 : iR y_154 0 0 := iR_eqL c_155 (iR_top _) (iR_c (n := 0) (a := 0) (b := 0) (by decide +kernel) (by decide +kernel)) (by decide +kernel)
                                        have lc_155 : x1 = 6578553 := l_cmpe ey_154 c_155
                                        exact J_166   H locs ls hP hD hS (lv_sub hl [] rfl)
                                      · have c_155 : ¬ y_154 = 0 := c_155
                                        have lc_155 : ¬ x1 = 6578553 := l_cmpne ey_154 c_155
                                        refine lv_lload_n hx hb dX7_isOwn_158 rfl (lv_at hl 1 rfl) ?_
                                        refine lv_ldc2 (v := 28530) hx hb hown w_19 dX7_isOwn_159 ?_
                                        refine W.lcmp hx hb dX7_isOwn_162 ?_
                                        refine lv_topi (fun y_162 ey_162 => ?_)
                                        refine lv_if_ne (tgt := 168) hx hb dX7_isOwn_163 (by decide) (fun c_163 => ?_) (fun c_163 => ?_)
                                        · have c_163 : ¬ y_162 = 0 := c_163
                                          have lc_163 : ¬ x1 = 28530 := l_cmpne ey_162 c_163
                                          refine lv_lload_n hx hb dX7_isOwn_168 rfl (lv_at hl 1 rfl) ?_
                                          refine lv_ldc2 (v := 6385252) hx hb hown w_20 dX7_isOwn_169 ?_
                                          refine W.lcmp hx hb dX7_isOwn_172 ?_
                                          refine lv_topi (fun y_172 ey_172 => ?_)
                                          have J_208 : ∀   (H : Heap) (locs : List Loc) (ls : Array Slot), va_P (dC, dI) vwCl [] H → va_D A [] → va_S A s.heap H locs → lv_has ls 3 [] → W p l e ({ frames := 1, cells := 0, slots := 0, locals := 40 }) s m args below meth c H locs 0 0 (MQ below (va_Qi (fun (r9 : Int32) (u9 : Unit) => (iR r9 0 1)) (fun u => k_B (dC, dI) vwCl (tyy cI cJ cZ cM) A ((fun (u9 : Unit) => []) u)) A) args s 0 0 A) (F0 m 208 ls []) := by
                                            intro   H locs ls hP hD hS hl
                                            refine lv_iconst (v := 1) hx hb dX7_isOwn_208 (by decide +kernel) ?_
                                            exact k_ri B hP hD hS dX7_isOwn_209 () [] rfl rfl rfl (Nat.le_of_ble_eq_true rfl) (Nat.le_of_ble_eq_true rfl) (show iR 1 0 1 from (iR_c (n := 1) (a := 0) (b := 1) (by decide +kernel) (by decide +kernel)))
                                          refine lv_if_eq (tgt := 208) hx hb dX7_isOwn_173 (by decide) (fun c_173 => ?_) (fun c_173 => ?_)
                                          · have c_173 : y_172 = 0 := c_173
                                            have f_208_1 : iR y_172 0 0 := iR_eqL c_173 (iR_top _) (iR_c (n := 0) (a := 0) (b := 0) (by decide +kernel) (by decide +kernel)) (by decide +kernel)
                                            have lc_173 : x1 = 6385252 := l_cmpe ey_172 c_173
                                            exact J_208   H locs ls hP hD hS (lv_sub hl [] rfl)
                                          · have c_173 : ¬ y_172 = 0 := c_173
                                            have lc_173 : ¬ x1 = 6385252 := l_cmpne ey_172 c_173
                                            refine lv_lload_n hx hb dX7_isOwn_176 rfl (lv_at hl 1 rfl) ?_
                                            refine lv_ldc2 (v := 7237492) hx hb hown w_21 dX7_isOwn_177 ?_
                                            refine W.lcmp hx hb dX7_isOwn_180 ?_
                                            refine lv_topi (fun y_180 ey_180 => ?_)
                                            refine lv_if_eq (tgt := 208) hx hb dX7_isOwn_181 (by decide) (fun c_181 => ?_) (fun c_181 => ?_)
                                            · have c_181 : y_180 = 0 := c_181
                                              have f_208_1 : iR y_180 0 0 := iR_eqL c_181 (iR_top _) (iR_c (n := 0) (a := 0) (b := 0) (by decide +kernel) (by decide +kernel)) (by decide +kernel)
                                              have lc_181 : x1 = 7237492 := l_cmpe ey_180 c_181
                                              exact J_208   H locs ls hP hD hS (lv_sub hl [] rfl)
                                            · have c_181 : ¬ y_180 = 0 := c_181
                                              have lc_181 : ¬ x1 = 7237492 := l_cmpne ey_180 c_181
                                              refine lv_lload_n hx hb dX7_isOwn_184 rfl (lv_at hl 1 rfl) ?_
                                              refine lv_ldc2 (v := 6384748) hx hb hown w_22 dX7_isOwn_185 ?_
                                              refine W.lcmp hx hb dX7_isOwn_188 ?_
                                              refine lv_topi (fun y_188 ey_188 => ?_)
                                              refine lv_if_eq (tgt := 208) hx hb dX7_isOwn_189 (by decide) (fun c_189 => ?_) (fun c_189 => ?_)
                                              · have c_189 : y_188 = 0 := c_189
                                                have f_208_1 : iR y_188 0 0 := iR_eqL c_189 (iR_top _) (iR_c (n := 0) (a := 0) (b := 0) (by decide +kernel) (by decide +kernel)) (by decide +kernel)
                                                have lc_189 : x1 = 6384748 := l_cmpe ey_188 c_189
                                                exact J_208   H locs ls hP hD hS (lv_sub hl [] rfl)
                                              · have c_189 : ¬ y_188 = 0 := c_189
                                                have lc_189 : ¬ x1 = 6384748 := l_cmpne ey_188 c_189
                                                refine lv_lload_n hx hb dX7_isOwn_192 rfl (lv_at hl 1 rfl) ?_
                                                refine lv_ldc2 (v := 7170414) hx hb hown w_23 dX7_isOwn_193 ?_
                                                refine W.lcmp hx hb dX7_isOwn_196 ?_
                                                refine lv_topi (fun y_196 ey_196 => ?_)
                                                refine lv_if_eq (tgt := 208) hx hb dX7_isOwn_197 (by decide) (fun c_197 => ?_) (fun c_197 => ?_)
                                                · have c_197 : y_196 = 0 := c_197
                                                  have f_208_1 : iR y_196 0 0 := iR_eqL c_197 (iR_top _) (iR_c (n := 0) (a := 0) (b := 0) (by decide +kernel) (by decide +kernel)) (by decide +kernel)
                                                  have lc_197 : x1 = 7170414 := l_cmpe ey_196 c_197
                                                  exact J_208   H locs ls hP hD hS (lv_sub hl [] rfl)
                                                · have c_197 : ¬ y_196 = 0 := c_197
                                                  have lc_197 : ¬ x1 = 7170414 := l_cmpne ey_196 c_197
                                                  refine lv_lload_n hx hb dX7_isOwn_200 rfl (lv_at hl 1 rfl) ?_
                                                  refine lv_ldc2 (v := 7168376) hx hb hown w_24 dX7_isOwn_201 ?_
                                                  refine W.lcmp hx hb dX7_isOwn_204 ?_
                                                  refine lv_topi (fun y_204 ey_204 => ?_)
                                                  refine lv_if_ne (tgt := 210) hx hb dX7_isOwn_205 (by decide) (fun c_205 => ?_) (fun c_205 => ?_)
                                                  · have c_205 : ¬ y_204 = 0 := c_205
                                                    have lc_205 : ¬ x1 = 7168376 := l_cmpne ey_204 c_205
                                                    refine lv_iconst (v := 0) hx hb dX7_isOwn_210 (by decide +kernel) ?_
                                                    exact k_ri B hP hD hS dX7_isOwn_211 () [] rfl rfl rfl (Nat.le_of_ble_eq_true rfl) (Nat.le_of_ble_eq_true rfl) (show iR 0 0 1 from (iR_c (n := 0) (a := 0) (b := 1) (by decide +kernel) (by decide +kernel)))
                                                  · have c_205 : y_204 = 0 := c_205
                                                    have f_208_1 : iR y_204 0 0 := iR_eqL c_205 (iR_top _) (iR_c (n := 0) (a := 0) (b := 0) (by decide +kernel) (by decide +kernel)) (by decide +kernel)
                                                    have lc_205 : x1 = 7168376 := l_cmpe ey_204 c_205
                                                    exact J_208   H locs ls hP hD hS (lv_sub hl [] rfl)
                                        · have c_163 : y_162 = 0 := c_163
                                          have f_166_1 : iR y_162 0 0 := iR_eqL c_163 (iR_top _) (iR_c (n := 0) (a := 0) (b := 0) (by decide +kernel) (by decide +kernel)) (by decide +kernel)
                                          have lc_163 : x1 = 28530 := l_cmpe ey_162 c_163
                                          exact J_166   H locs ls hP hD hS (lv_sub hl [] rfl)
                              · have c_121 : y_120 = 0 := c_121
                                have f_124_1 : iR y_120 0 0 := iR_eqL c_121 (iR_top _) (iR_c (n := 0) (a := 0) (b := 0) (by decide +kernel) (by decide +kernel)) (by decide +kernel)
                                have lc_121 : x1 = 1667329133 := l_cmpe ey_120 c_121
                                exact J_124   H locs ls hP hD hS (lv_sub hl [] rfl)
                    · have c_79 : y_78 = 0 := c_79
                      have f_82_1 : iR y_78 0 0 := iR_eqL c_79 (iR_top _) (iR_c (n := 0) (a := 0) (b := 0) (by decide +kernel) (by decide +kernel)) (by decide +kernel)
                      have lc_79 : x1 = 439855772532 := l_cmpe ey_78 c_79
                      exact J_82   H locs ls hP hD hS (lv_sub hl [] rfl)
          · have c_37 : y_36 = 0 := c_37
            have f_40_1 : iR y_36 0 0 := iR_eqL c_37 (iR_top _) (iR_c (n := 0) (a := 0) (b := 0) (by decide +kernel) (by decide +kernel)) (by decide +kernel)
            have lc_37 : x1 = 2003399528 := l_cmpe ey_36 c_37
            exact J_40   H locs ls hP hD hS (lv_sub hl [] rfl)
set_option maxHeartbeats 8000000 in
set_option maxRecDepth 100000 in
theorem s_X7_ahead_v8 (l : Launch) (dC : Nat → ClassId) (dI : Nat → Nat → Nat) (cI cJ cZ cM : ClassId) (h : Nat) (r : Nat → Nat) (i : Nat → Int32) (j : Nat → Int64) (f0 : Nat → Int32) (hI : mR i) (hf0 : aR f0 0 255) : k_Mv l yX7_ahead wsX7_ahead ({ frames := 2, cells := 0, slots := 0, locals := 62 }) (dC, dI) vwCl (tyy cI cJ cZ cM) [(h, .inr (7, oM r i j)), ((r 0), .inl (cI, 1800, .inl f0))] [.ref h] 0 0 (fun (u9 : SU) => [(h, .inr (7, oM r (upd (upd (upd (upd (upd i 3 (u9.1 0)) 4 (u9.1 1)) 5 (u9.1 2)) 6 (u9.1 3)) 12 (u9.1 4)) (vp_updL j 7 (u9.2.1 0)))), ((r 0), .inl (cI, 1800, .inl f0))]) (fun (u9 : SU) => ((i 5) ≤ (u9.1 1)) ∧ ((u9.1 1) ≤ (u9.1 2)) ∧ (iR (u9.1 0) 0 3) ∧ (iR (u9.1 1) 0 1600) ∧ (iR (u9.1 2) 0 1600) ∧ (iR (u9.1 3) 0 9999) ∧ (iR (u9.1 4) (-1) 1599) ∧ (TM (u9.1 2) (u9.1 0) ≤ TM (i 5) (i 3)) ∧ (((u9.1 0) = 0) ∨ (((i 5) < (u9.1 2)) ∧ ((u9.1 1) < (u9.1 2)) ∧ ((u9.1 1) < (i 2)))) ∧ (((i 3) = 0) ∨ ((TM (u9.1 2) (u9.1 0) < TM (i 5) (i 3))))) := by
  refine fun sz => k_enter (cc := cX7_ahead) (maxL := 6) (ret := none) (Qc := fun A => va_Qv (fun (u9 : SU) => ((i 5) ≤ (u9.1 1)) ∧ ((u9.1 1) ≤ (u9.1 2)) ∧ (iR (u9.1 0) 0 3) ∧ (iR (u9.1 1) 0 1600) ∧ (iR (u9.1 2) 0 1600) ∧ (iR (u9.1 3) 0 9999) ∧ (iR (u9.1 4) (-1) 1599) ∧ (TM (u9.1 2) (u9.1 0) ≤ TM (i 5) (i 3)) ∧ (((u9.1 0) = 0) ∨ (((i 5) < (u9.1 2)) ∧ ((u9.1 1) < (u9.1 2)) ∧ ((u9.1 1) < (i 2)))) ∧ (((i 3) = 0) ∨ ((TM (u9.1 2) (u9.1 0) < TM (i 5) (i 3))))) (fun u => k_B (dC, dI) vwCl (tyy cI cJ cZ cM) A ((fun (u9 : SU) => [(h, .inr (7, oM r (upd (upd (upd (upd (upd i 3 (u9.1 0)) 4 (u9.1 1)) 5 (u9.1 2)) 6 (u9.1 3)) 12 (u9.1 4)) (vp_updL j 7 (u9.2.1 0)))), ((r 0), .inl (cI, 1800, .inl f0))]) u)) A) sz (by decide +kernel) rfl (Nat.le_of_ble_eq_true rfl) (fun p e s m args below meth c A ls H locs B hP hD hS hl => ?_)
  obtain ⟨hx, hb, hml, hown, hts, hr, hlk, hnm, hK, hA, hN, hC⟩ := id B
  have hown : s.vm.findClass RX7 = some m.cls := hown
  have hl : lv_has ls 6 [(0, .ref h)] := hl
  have w_0 : (Cond.fieldLink RX7 26 "WishSeaModel" "signEnd" "I").before args s = true := hts _ (List.mem_of_getElem? (i := 1) rfl)
  have w_1 : (Cond.fieldLink RX7 17 "WishSeaModel" "size" "I").before args s = true := hts _ (List.mem_of_getElem? (i := 2) rfl)
  have w_2 : (Cond.fieldLink RX7 23 "WishSeaModel" "signAt" "I").before args s = true := hts _ (List.mem_of_getElem? (i := 4) rfl)
  have w_3 : (Cond.fieldLink RX7 20 "WishSeaModel" "sign" "I").before args s = true := hts _ (List.mem_of_getElem? (i := 5) rfl)
  have w_4 : (Cond.fieldLink RX7 48 "WishSeaModel" "lexAt" "I").before args s = true := hts _ (List.mem_of_getElem? (i := 6) rfl)
  have w_5 : (Cond.fieldLink RX7 7 "WishSeaModel" "tape" "[I").before args s = true := hts _ (List.mem_of_getElem? (i := 3) rfl)
  have w_6 : (Cond.fieldLink RX7 29 "WishSeaModel" "value" "I").before args s = true := hts _ (List.mem_of_getElem? (i := 7) rfl)
  have w_7 : (Cond.fieldLink RX7 32 "WishSeaModel" "word" "J").before args s = true := hts _ (List.mem_of_getElem? (i := 8) rfl)
  have hinX7 : ∀ w ∈ u_ws RX7 TX7 92, w ∈ wsX7_ahead := fun _ h => List.mem_cons_of_mem _ (List.mem_append_right _ h)
  refine lv_aload_n hx hb dX7_ahead_0 rfl (lv_at hl 0 rfl) ?_
  have f_1_1 : iR (i 5) 0 1600 := hI 5
  refine k_get (D := (dC, dI)) (ci := 7) (v := .int (i 5)) (C := RX7) (T := TX7) (N := 92) hx hb hts hinX7 hown hK hP 0 rfl rfl 5 (by decide) w_0 rfl rfl dX7_ahead_1 ?_
  have J_5 : ∀ (n_5 : Nat) (j5_L1 : Int32) (hj5_L1 : iR j5_L1 0 1600) (v5_0 : (i 5) ≤ j5_L1) (hm_5 : (1600 - j5_L1.toInt).toNat < n_5) (H : Heap) (locs : List Loc) (ls : Array Slot), va_P (dC, dI) vwCl [(h, .inr (7, oM r i j)), ((r 0), .inl (cI, 1800, .inl f0))] H → va_D A [(h, .inr (7, oM r i j)), ((r 0), .inl (cI, 1800, .inl f0))] → va_S A s.heap H locs → lv_has ls 6 [(0, .ref h), (1, .int j5_L1)] → W p l e ({ frames := 2, cells := 0, slots := 0, locals := 62 }) s m args below meth c H locs 0 0 (MQ below (va_Qv (fun (u9 : SU) => ((i 5) ≤ (u9.1 1)) ∧ ((u9.1 1) ≤ (u9.1 2)) ∧ (iR (u9.1 0) 0 3) ∧ (iR (u9.1 1) 0 1600) ∧ (iR (u9.1 2) 0 1600) ∧ (iR (u9.1 3) 0 9999) ∧ (iR (u9.1 4) (-1) 1599) ∧ (TM (u9.1 2) (u9.1 0) ≤ TM (i 5) (i 3)) ∧ (((u9.1 0) = 0) ∨ (((i 5) < (u9.1 2)) ∧ ((u9.1 1) < (u9.1 2)) ∧ ((u9.1 1) < (i 2)))) ∧ (((i 3) = 0) ∨ ((TM (u9.1 2) (u9.1 0) < TM (i 5) (i 3))))) (fun u => k_B (dC, dI) vwCl (tyy cI cJ cZ cM) A ((fun (u9 : SU) => [(h, .inr (7, oM r (upd (upd (upd (upd (upd i 3 (u9.1 0)) 4 (u9.1 1)) 5 (u9.1 2)) 6 (u9.1 3)) 12 (u9.1 4)) (vp_updL j 7 (u9.2.1 0)))), ((r 0), .inl (cI, 1800, .inl f0))]) u)) A) args s 0 0 A) (F0 m 5 ls []) := by
    intro n_5
    induction n_5 with
    | zero => intro j5_L1 hj5_L1 v5_0 hm_5; exact absurd hm_5 (Nat.not_lt_zero _)
    | succ n_5 ih_5 =>
      intro j5_L1 hj5_L1 v5_0 hm_5 H locs ls hP hD hS hl
      refine lv_iload_n hx hb dX7_ahead_5 rfl (lv_at hl 1 rfl) ?_
      refine lv_aload_n hx hb dX7_ahead_6 rfl (lv_at hl 0 rfl) ?_
      have f_7_1 : iR (i 2) 0 1600 := hI 2
      refine k_get (D := (dC, dI)) (ci := 7) (v := .int (i 2)) (C := RX7) (T := TX7) (N := 92) hx hb hts hinX7 hown hK hP 0 rfl rfl 2 (by decide) w_1 rfl rfl dX7_ahead_7 ?_
      have J_41 : ∀   (H : Heap) (locs : List Loc) (ls : Array Slot), va_P (dC, dI) vwCl [(h, .inr (7, oM r i j)), ((r 0), .inl (cI, 1800, .inl f0))] H → va_D A [(h, .inr (7, oM r i j)), ((r 0), .inl (cI, 1800, .inl f0))] → va_S A s.heap H locs → lv_has ls 6 [(0, .ref h), (1, .int j5_L1)] → W p l e ({ frames := 2, cells := 0, slots := 0, locals := 62 }) s m args below meth c H locs 0 0 (MQ below (va_Qv (fun (u9 : SU) => ((i 5) ≤ (u9.1 1)) ∧ ((u9.1 1) ≤ (u9.1 2)) ∧ (iR (u9.1 0) 0 3) ∧ (iR (u9.1 1) 0 1600) ∧ (iR (u9.1 2) 0 1600) ∧ (iR (u9.1 3) 0 9999) ∧ (iR (u9.1 4) (-1) 1599) ∧ (TM (u9.1 2) (u9.1 0) ≤ TM (i 5) (i 3)) ∧ (((u9.1 0) = 0) ∨ (((i 5) < (u9.1 2)) ∧ ((u9.1 1) < (u9.1 2)) ∧ ((u9.1 1) < (i 2)))) ∧ (((i 3) = 0) ∨ ((TM (u9.1 2) (u9.1 0) < TM (i 5) (i 3))))) (fun u => k_B (dC, dI) vwCl (tyy cI cJ cZ cM) A ((fun (u9 : SU) => [(h, .inr (7, oM r (upd (upd (upd (upd (upd i 3 (u9.1 0)) 4 (u9.1 1)) 5 (u9.1 2)) 6 (u9.1 3)) 12 (u9.1 4)) (vp_updL j 7 (u9.2.1 0)))), ((r 0), .inl (cI, 1800, .inl f0))]) u)) A) args s 0 0 A) (F0 m 41 ls []) := by
        intro   H locs ls hP hD hS hl
        refine lv_aload_n hx hb dX7_ahead_41 rfl (lv_at hl 0 rfl) ?_
        refine lv_iload_n hx hb dX7_ahead_42 rfl (lv_at hl 1 rfl) ?_
        refine k_put (D := (dC, dI)) (ci := 7) (v := .int j5_L1) (C := RX7) (T := TX7) (N := 92) (ws' := [(h, .inr (7, oM r (upd i 4 j5_L1) j)), ((r 0), .inl (cI, 1800, .inl f0))]) hx hb hts hinX7 tyX7 tyX7_ok nmX7 hown hK hP hD hS 0 rfl rfl 4 (by decide) w_2 rfl rfl rfl rfl (Nat.le_of_ble_eq_true rfl) rfl dX7_ahead_43 (fun H locs hP hD hS => ?_)
        refine lv_aload_n hx hb dX7_ahead_46 rfl (lv_at hl 0 rfl) ?_
        refine lv_iload_n hx hb dX7_ahead_47 rfl (lv_at hl 1 rfl) ?_
        refine k_put (D := (dC, dI)) (ci := 7) (v := .int j5_L1) (C := RX7) (T := TX7) (N := 92) (ws' := [(h, .inr (7, oM r (upd (upd i 4 j5_L1) 5 j5_L1) j)), ((r 0), .inl (cI, 1800, .inl f0))]) hx hb hts hinX7 tyX7 tyX7_ok nmX7 hown hK hP hD hS 0 rfl rfl 5 (by decide) w_0 rfl rfl rfl rfl (Nat.le_of_ble_eq_true rfl) rfl dX7_ahead_48 (fun H locs hP hD hS => ?_)
        refine lv_aload_n hx hb dX7_ahead_51 rfl (lv_at hl 0 rfl) ?_
        refine lv_iconst (v := 0) hx hb dX7_ahead_52 (by decide +kernel) ?_
        refine k_put (D := (dC, dI)) (ci := 7) (v := .int 0) (C := RX7) (T := TX7) (N := 92) (ws' := [(h, .inr (7, oM r (upd (upd (upd i 3 0) 4 j5_L1) 5 j5_L1) j)), ((r 0), .inl (cI, 1800, .inl f0))]) hx hb hts hinX7 tyX7 tyX7_ok nmX7 hown hK hP hD hS 0 rfl rfl 3 (by decide) w_3 rfl rfl rfl rfl (Nat.le_of_ble_eq_true rfl) rfl dX7_ahead_53 (fun H locs hP hD hS => ?_)
        refine lv_aload_n hx hb dX7_ahead_56 rfl (lv_at hl 0 rfl) ?_
        refine lv_iconst (v := (-1)) hx hb dX7_ahead_57 (by decide +kernel) ?_
        refine k_put (D := (dC, dI)) (ci := 7) (v := .int (-1)) (C := RX7) (T := TX7) (N := 92) (ws' := [(h, .inr (7, oM r (upd (upd (upd (upd i 3 0) 4 j5_L1) 5 j5_L1) 12 (-1)) j)), ((r 0), .inl (cI, 1800, .inl f0))]) hx hb hts hinX7 tyX7 tyX7_ok nmX7 hown hK hP hD hS 0 rfl rfl 12 (by decide) w_4 rfl rfl rfl rfl (Nat.le_of_ble_eq_true rfl) rfl dX7_ahead_58 (fun H locs hP hD hS => ?_)
        refine lv_iload_n hx hb dX7_ahead_61 rfl (lv_at hl 1 rfl) ?_
        refine lv_aload_n hx hb dX7_ahead_62 rfl (lv_at hl 0 rfl) ?_
        refine k_get (D := (dC, dI)) (ci := 7) (v := .int (i 2)) (C := RX7) (T := TX7) (N := 92) hx hb hts hinX7 hown hK hP 0 rfl rfl 2 (by decide) w_1 rfl rfl dX7_ahead_63 ?_
        refine lv_icmp_lt (tgt := 70) hx hb dX7_ahead_66 (by decide) (fun c_66 => ?_) (fun c_66 => ?_)
        · have c_66 : j5_L1 < (i 2) := c_66
          have f_70_1 : iR j5_L1 0 1599 := iR_ltL c_66 hj5_L1 f_7_1 (by decide +kernel)
          have f_70_2 : iR (i 2) 1 1600 := iR_ltR c_66 hj5_L1 f_7_1 (by decide +kernel)
          refine lv_aload_n hx hb dX7_ahead_70 rfl (lv_at hl 0 rfl) ?_
          refine k_get (D := (dC, dI)) (ci := 7) (v := .ref (r 0)) (C := RX7) (T := TX7) (N := 92) hx hb hts hinX7 hown hK hP 0 rfl rfl 0 (by decide) w_5 rfl rfl dX7_ahead_71 ?_
          refine lv_iload_n hx hb dX7_ahead_74 rfl (lv_at hl 1 rfl) ?_
          refine va_iald hx hb hK hP 1 0 rfl rfl (iR_vp f_70_1 (by decide +kernel)) dX7_ahead_75 ?_
          have f_75_3 : iR (f0 j5_L1.toNatClampNeg) 0 255 := hf0 _
          refine k_ci (wc := []) (wr := [(h, .inr (7, oM r (upd (upd (upd (upd i 3 0) 4 j5_L1) 5 j5_L1) 12 (-1)) j)), ((r 0), .inl (cI, 1800, .inl f0))]) (fun hPc hDc hFc => va_runS (As := [.int (f0 j5_L1.toNatClampNeg)]) (rest := []) ⟨hx, hb, hml, hown, hts⟩ (s_X7_isLetter_v0 l dC dI cI cJ cZ cM (f0 j5_L1.toNatClampNeg) H.size) (va_cwS 1 hts gX7_ahead_X7_isLetter rfl rfl rfl (by decide +kernel) ⟨(Nat.le_of_ble_eq_true rfl), (Nat.le_of_ble_eq_true rfl)⟩) (k_pS hPc hDc hK hN hC hS hFc) rfl rfl hl.1 rfl (lv_room (Nat.le_of_ble_eq_true rfl)) dX7_ahead_76 ⟨(Nat.le_of_ble_eq_true rfl), (Nat.le_of_ble_eq_true rfl)⟩) hP hD hS hA [] [0, 1] rfl rfl rfl rfl (by decide) (fun _ => rfl) 0 0 rfl rfl (fun r_76 u_76 H locs hw hP hD hS => ?_)
          obtain ⟨g_76_0, g_76_1⟩ := hw
          have hP : va_P (dC, dI) vwCl [(h, .inr (7, oM r (upd (upd (upd (upd i 3 0) 4 j5_L1) 5 j5_L1) 12 (-1)) j)), ((r 0), .inl (cI, 1800, .inl f0))] H := hP
          have hD : va_D A [(h, .inr (7, oM r (upd (upd (upd (upd i 3 0) 4 j5_L1) 5 j5_L1) 12 (-1)) j)), ((r 0), .inl (cI, 1800, .inl f0))] := hD
          have g_76_1 : (r_76 = 0) ∨ ((97 ≤ (f0 j5_L1.toNatClampNeg)) ∧ ((f0 j5_L1.toNatClampNeg) ≤ 122)) := g_76_1
          refine lv_istore_n (lv' := [(2, .int r_76), (0, .ref h), (1, .int j5_L1)]) hx hb dX7_ahead_79 rfl hl (by decide) rfl (fun ls hl => ?_)
          refine lv_aload_n hx hb dX7_ahead_80 rfl (lv_at hl 1 rfl) ?_
          refine k_get (D := (dC, dI)) (ci := 7) (v := .ref (r 0)) (C := RX7) (T := TX7) (N := 92) hx hb hts hinX7 hown hK hP 0 rfl rfl 0 (by decide) w_5 rfl rfl dX7_ahead_81 ?_
          refine lv_iload_n hx hb dX7_ahead_84 rfl (lv_at hl 2 rfl) ?_
          refine va_iald hx hb hK hP 1 0 rfl rfl (iR_vp f_70_1 (by decide +kernel)) dX7_ahead_85 ?_
          refine k_ci (wc := []) (wr := [(h, .inr (7, oM r (upd (upd (upd (upd i 3 0) 4 j5_L1) 5 j5_L1) 12 (-1)) j)), ((r 0), .inl (cI, 1800, .inl f0))]) (fun hPc hDc hFc => va_runS (As := [.int (f0 j5_L1.toNatClampNeg)]) (rest := []) ⟨hx, hb, hml, hown, hts⟩ (s_X7_isDigit_v0 l dC dI cI cJ cZ cM (f0 j5_L1.toNatClampNeg) H.size) (va_cwS 1 hts gX7_ahead_X7_isDigit rfl rfl rfl (by decide +kernel) ⟨(Nat.le_of_ble_eq_true rfl), (Nat.le_of_ble_eq_true rfl)⟩) (k_pS hPc hDc hK hN hC hS hFc) rfl rfl hl.1 rfl (lv_room (Nat.le_of_ble_eq_true rfl)) dX7_ahead_86 ⟨(Nat.le_of_ble_eq_true rfl), (Nat.le_of_ble_eq_true rfl)⟩) hP hD hS hA [] [0, 1] rfl rfl rfl rfl (by decide) (fun _ => rfl) 0 0 rfl rfl (fun r_86 u_86 H locs hw hP hD hS => ?_)
          obtain ⟨g_86_0, g_86_1⟩ := hw
          have hP : va_P (dC, dI) vwCl [(h, .inr (7, oM r (upd (upd (upd (upd i 3 0) 4 j5_L1) 5 j5_L1) 12 (-1)) j)), ((r 0), .inl (cI, 1800, .inl f0))] H := hP
          have hD : va_D A [(h, .inr (7, oM r (upd (upd (upd (upd i 3 0) 4 j5_L1) 5 j5_L1) 12 (-1)) j)), ((r 0), .inl (cI, 1800, .inl f0))] := hD
          have g_86_1 : (r_86 = 0) ∨ ((48 ≤ (f0 j5_L1.toNatClampNeg)) ∧ ((f0 j5_L1.toNatClampNeg) ≤ 57)) := g_86_1
          refine lv_istore_n (lv' := [(3, .int r_86), (2, .int r_76), (0, .ref h), (1, .int j5_L1)]) hx hb dX7_ahead_89 rfl hl (by decide) rfl (fun ls hl => ?_)
          refine lv_iload_n hx hb dX7_ahead_90 rfl (lv_at hl 1 rfl) ?_
          have J_135 : ∀ (j135_M0_12 : Int32) (hj135_M0_12 : iR j135_M0_12 (-1) 1599) (H : Heap) (locs : List Loc) (ls : Array Slot), va_P (dC, dI) vwCl [(h, .inr (7, oM r (upd (upd (upd (upd i 3 0) 4 j5_L1) 5 j5_L1) 12 j135_M0_12) j)), ((r 0), .inl (cI, 1800, .inl f0))] H → va_D A [(h, .inr (7, oM r (upd (upd (upd (upd i 3 0) 4 j5_L1) 5 j5_L1) 12 j135_M0_12) j)), ((r 0), .inl (cI, 1800, .inl f0))] → va_S A s.heap H locs → lv_has ls 6 [(0, .ref h), (1, .int j5_L1), (2, .int r_76), (3, .int r_86)] → W p l e ({ frames := 2, cells := 0, slots := 0, locals := 62 }) s m args below meth c H locs 0 0 (MQ below (va_Qv (fun (u9 : SU) => ((i 5) ≤ (u9.1 1)) ∧ ((u9.1 1) ≤ (u9.1 2)) ∧ (iR (u9.1 0) 0 3) ∧ (iR (u9.1 1) 0 1600) ∧ (iR (u9.1 2) 0 1600) ∧ (iR (u9.1 3) 0 9999) ∧ (iR (u9.1 4) (-1) 1599) ∧ (TM (u9.1 2) (u9.1 0) ≤ TM (i 5) (i 3)) ∧ (((u9.1 0) = 0) ∨ (((i 5) < (u9.1 2)) ∧ ((u9.1 1) < (u9.1 2)) ∧ ((u9.1 1) < (i 2)))) ∧ (((i 3) = 0) ∨ ((TM (u9.1 2) (u9.1 0) < TM (i 5) (i 3))))) (fun u => k_B (dC, dI) vwCl (tyy cI cJ cZ cM) A ((fun (u9 : SU) => [(h, .inr (7, oM r (upd (upd (upd (upd (upd i 3 (u9.1 0)) 4 (u9.1 1)) 5 (u9.1 2)) 6 (u9.1 3)) 12 (u9.1 4)) (vp_updL j 7 (u9.2.1 0)))), ((r 0), .inl (cI, 1800, .inl f0))]) u)) A) args s 0 0 A) (F0 m 135 ls []) := by
            intro j135_M0_12 hj135_M0_12 H locs ls hP hD hS hl
            refine lv_aload_n hx hb dX7_ahead_135 rfl (lv_at hl 0 rfl) ?_
            refine lv_iconst (v := 0) hx hb dX7_ahead_136 (by decide +kernel) ?_
            refine k_put (D := (dC, dI)) (ci := 7) (v := .int 0) (C := RX7) (T := TX7) (N := 92) (ws' := [(h, .inr (7, oM r (upd (upd (upd (upd (upd i 3 0) 4 j5_L1) 5 j5_L1) 6 0) 12 j135_M0_12) j)), ((r 0), .inl (cI, 1800, .inl f0))]) hx hb hts hinX7 tyX7 tyX7_ok nmX7 hown hK hP hD hS 0 rfl rfl 6 (by decide) w_6 rfl rfl rfl rfl (Nat.le_of_ble_eq_true rfl) rfl dX7_ahead_137 (fun H locs hP hD hS => ?_)
            refine lv_aload_n hx hb dX7_ahead_140 rfl (lv_at hl 0 rfl) ?_
            refine lv_lconst (v := 0) hx hb dX7_ahead_141 (by decide +kernel) ?_
            refine k_put (D := (dC, dI)) (ci := 7) (v := .long 0) (C := RX7) (T := TX7) (N := 92) (ws' := [(h, .inr (7, oM r (upd (upd (upd (upd (upd i 3 0) 4 j5_L1) 5 j5_L1) 6 0) 12 j135_M0_12) (vp_updL j 7 0))), ((r 0), .inl (cI, 1800, .inl f0))]) hx hb hts hinX7 tyX7 tyX7_ok nmX7 hown hK hP hD hS 0 rfl rfl 7 (by decide) w_7 rfl rfl rfl rfl (Nat.le_of_ble_eq_true rfl) rfl dX7_ahead_142 (fun H locs hP hD hS => ?_)
            refine lv_aload_n hx hb dX7_ahead_145 rfl (lv_at hl 0 rfl) ?_
            refine lv_iconst (v := 3) hx hb dX7_ahead_146 (by decide +kernel) ?_
            refine k_put (D := (dC, dI)) (ci := 7) (v := .int 3) (C := RX7) (T := TX7) (N := 92) (ws' := [(h, .inr (7, oM r (upd (upd (upd (upd (upd i 3 3) 4 j5_L1) 5 j5_L1) 6 0) 12 j135_M0_12) (vp_updL j 7 0))), ((r 0), .inl (cI, 1800, .inl f0))]) hx hb hts hinX7 tyX7 tyX7_ok nmX7 hown hK hP hD hS 0 rfl rfl 3 (by decide) w_3 rfl rfl rfl rfl (Nat.le_of_ble_eq_true rfl) rfl dX7_ahead_147 (fun H locs hP hD hS => ?_)
            refine lv_aload_n hx hb dX7_ahead_150 rfl (lv_at hl 0 rfl) ?_
            refine lv_iload_n hx hb dX7_ahead_151 rfl (lv_at hl 1 rfl) ?_
            refine lv_iconst (v := 1) hx hb dX7_ahead_152 (by decide +kernel) ?_
            refine lv_iadd hx hb dX7_ahead_153 ?_
            refine lv_topi (fun y_153 ey_153 => ?_)
            have xy_153 : y_153.toInt = j5_L1.toInt + 1 := i_add ey_153 f_70_1 (iR_c (n := 1) (a := 1) (b := 1) (by decide +kernel) (by decide +kernel)) (by decide +kernel)
            have f_153_1 : iR y_153 1 1600 := iR_add ey_153 f_70_1 (iR_c (n := 1) (a := 1) (b := 1) (by decide +kernel) (by decide +kernel)) (by decide +kernel)
            refine k_put (D := (dC, dI)) (ci := 7) (v := .int y_153) (C := RX7) (T := TX7) (N := 92) (ws' := [(h, .inr (7, oM r (upd (upd (upd (upd (upd i 3 3) 4 j5_L1) 5 y_153) 6 0) 12 j135_M0_12) (vp_updL j 7 0))), ((r 0), .inl (cI, 1800, .inl f0))]) hx hb hts hinX7 tyX7 tyX7_ok nmX7 hown hK hP hD hS 0 rfl rfl 5 (by decide) w_0 rfl rfl rfl rfl (Nat.le_of_ble_eq_true rfl) rfl dX7_ahead_154 (fun H locs hP hD hS => ?_)
            refine lv_iload_n hx hb dX7_ahead_157 rfl (lv_at hl 2 rfl) ?_
            refine lv_if_ne (tgt := 176) hx hb dX7_ahead_158 (by decide) (fun c_158 => ?_) (fun c_158 => ?_)
            · have c_158 : ¬ r_76 = 0 := c_158
              have f_176_2 : iR r_76 1 1 := iR_neL c_158 g_76_0 (iR_c (n := 0) (a := 0) (b := 0) (by decide +kernel) (by decide +kernel)) (by decide +kernel)
              obtain ⟨d_158_1_0, d_158_1_1⟩ := g_76_1.resolve_left c_158
              have f_176_3 : iR (f0 j5_L1.toNatClampNeg) 97 255 := iR_leR d_158_1_0 (iR_c (n := 97) (a := 97) (b := 97) (by decide +kernel) (by decide +kernel)) f_75_3 (by decide +kernel)
              have f_176_4 : iR (f0 j5_L1.toNatClampNeg) 97 122 := iR_leL d_158_1_1 f_176_3 (iR_c (n := 122) (a := 122) (b := 122) (by decide +kernel) (by decide +kernel)) (by decide +kernel)
              refine lv_aload_n hx hb dX7_ahead_176 rfl (lv_at hl 0 rfl) ?_
              refine lv_iload_n hx hb dX7_ahead_177 rfl (lv_at hl 2 rfl) ?_
              refine lv_if_eq (tgt := 185) hx hb dX7_ahead_178 (by decide) (fun c_178p158 => ?_) (fun c_178p158 => ?_)
              · exact iR_cl (iR_eqL (a' := 1) (b' := 0) c_178p158 f_176_2 (iR_c (n := 0) (a := 0) (b := 0) (by decide +kernel) (by decide +kernel)) (by decide +kernel)) (by decide +kernel)
              · have c_178p158 : ¬ r_76 = 0 := c_178p158
                refine lv_iconst (v := 1) hx hb dX7_ahead_181 (by decide +kernel) ?_
                refine lv_goto (tgt := 186) hx hb dX7_ahead_182 (by decide) ?_
                refine k_put (D := (dC, dI)) (ci := 7) (v := .int 1) (C := RX7) (T := TX7) (N := 92) (ws' := [(h, .inr (7, oM r (upd (upd (upd (upd (upd i 3 1) 4 j5_L1) 5 y_153) 6 0) 12 j135_M0_12) (vp_updL j 7 0))), ((r 0), .inl (cI, 1800, .inl f0))]) hx hb hts hinX7 tyX7 tyX7_ok nmX7 hown hK hP hD hS 0 rfl rfl 3 (by decide) w_3 rfl rfl rfl rfl (Nat.le_of_ble_eq_true rfl) rfl dX7_ahead_186 (fun H locs hP hD hS => ?_)
                refine lv_iload_n hx hb dX7_ahead_189 rfl (lv_at hl 2 rfl) ?_
                refine lv_if_eq (tgt := 198) hx hb dX7_ahead_190 (by decide) (fun c_190p158p182 => ?_) (fun c_190p158p182 => ?_)
                · exact iR_cl (iR_eqL (a' := 1) (b' := 0) c_190p158p182 f_176_2 (iR_c (n := 0) (a := 0) (b := 0) (by decide +kernel) (by decide +kernel)) (by decide +kernel)) (by decide +kernel)
                · have c_190p158p182 : ¬ r_76 = 0 := c_190p158p182
                  refine lv_bipush (v := 6) hx hb dX7_ahead_193 (by decide +kernel) ?_
                  refine lv_goto (tgt := 199) hx hb dX7_ahead_195 (by decide) ?_
                  refine lv_istore (lv' := [(4, .int 6), (0, .ref h), (1, .int j5_L1), (2, .int r_76), (3, .int r_86)]) hx hb dX7_ahead_199 hl (by decide) rfl (fun ls hl => ?_)
                  refine lv_iconst (v := 0) hx hb dX7_ahead_201 (by decide +kernel) ?_
                  refine lv_istore (lv' := [(5, .int 0), (4, .int 6), (0, .ref h), (1, .int j5_L1), (2, .int r_76), (3, .int r_86)]) hx hb dX7_ahead_202 hl (by decide) rfl (fun ls hl => ?_)
                  refine lv_iload_n hx hb dX7_ahead_204 rfl (lv_at hl 3 rfl) ?_
                  refine lv_aload_n hx hb dX7_ahead_205 rfl (lv_at hl 2 rfl) ?_
                  refine k_get (D := (dC, dI)) (ci := 7) (v := .int (i 2)) (C := RX7) (T := TX7) (N := 92) hx hb hts hinX7 hown hK hP 0 rfl rfl 2 (by decide) w_1 rfl rfl dX7_ahead_206 ?_
                  refine lv_icmp_ge (tgt := 334) hx hb dX7_ahead_209 (by decide) (fun c_209p158p182p195p202 => ?_) (fun c_209p158p182p195p202 => ?_)
                  · exact (i_noall (by have r0 : j5_L1.toInt < (i 2).toInt := i_ti_lt rfl rfl c_66; have r1 : (i 2).toInt ≤ j5_L1.toInt := i_ti_le rfl rfl c_209p158p182p195p202; omega)).elim
                  · have c_209p158p182p195p202 : j5_L1 < (i 2) := i_nle c_209p158p182p195p202
                    refine lv_iload_n hx hb dX7_ahead_212 rfl (lv_at hl 4 rfl) ?_
                    refine lv_if_eq (tgt := 231) hx hb dX7_ahead_213 (by decide) (fun c_213p158p182p195p202 => ?_) (fun c_213p158p182p195p202 => ?_)
                    · exact iR_cl (iR_eqL (a' := 1) (b' := 0) c_213p158p182p195p202 f_176_2 (iR_c (n := 0) (a := 0) (b := 0) (by decide +kernel) (by decide +kernel)) (by decide +kernel)) (by decide +kernel)
                    · have c_213p158p182p195p202 : ¬ r_76 = 0 := c_213p158p182p195p202
                      refine lv_aload_n hx hb dX7_ahead_216 rfl (lv_at hl 2 rfl) ?_
                      refine k_get (D := (dC, dI)) (ci := 7) (v := .ref (r 0)) (C := RX7) (T := TX7) (N := 92) hx hb hts hinX7 hown hK hP 0 rfl rfl 0 (by decide) w_5 rfl rfl dX7_ahead_217 ?_
                      refine lv_iload_n hx hb dX7_ahead_220 rfl (lv_at hl 3 rfl) ?_
                      refine va_iald hx hb hK hP 1 0 rfl rfl (iR_vp f_70_1 (by decide +kernel)) dX7_ahead_221 ?_
                      refine k_ci (wc := []) (wr := [(h, .inr (7, oM r (upd (upd (upd (upd (upd i 3 1) 4 j5_L1) 5 y_153) 6 0) 12 j135_M0_12) (vp_updL j 7 0))), ((r 0), .inl (cI, 1800, .inl f0))]) (fun hPc hDc hFc => va_runS (As := [.int (f0 j5_L1.toNatClampNeg)]) (rest := []) ⟨hx, hb, hml, hown, hts⟩ (s_X7_isLetter_v1 l dC dI cI cJ cZ cM (f0 j5_L1.toNatClampNeg) f_176_4 H.size) (va_cwS 1 hts gX7_ahead_X7_isLetter rfl rfl rfl (by decide +kernel) ⟨(Nat.le_of_ble_eq_true rfl), (Nat.le_of_ble_eq_true rfl)⟩) (k_pS hPc hDc hK hN hC hS hFc) rfl rfl hl.1 rfl (lv_room (Nat.le_of_ble_eq_true rfl)) dX7_ahead_222 ⟨(Nat.le_of_ble_eq_true rfl), (Nat.le_of_ble_eq_true rfl)⟩) hP hD hS hA [] [0, 1] rfl rfl rfl rfl (by decide) (fun _ => rfl) 0 0 rfl rfl (fun r_222p158p182p195p202 u_222p158p182p195p202 H locs hw hP hD hS => ?_)
                      obtain ⟨g_222p158p182p195p202_0, g_222p158p182p195p202_1⟩ := hw
                      obtain rfl : r_222p158p182p195p202 = 1 := g_222p158p182p195p202_0
                      have hP : va_P (dC, dI) vwCl [(h, .inr (7, oM r (upd (upd (upd (upd (upd i 3 1) 4 j5_L1) 5 y_153) 6 0) 12 j135_M0_12) (vp_updL j 7 0))), ((r 0), .inl (cI, 1800, .inl f0))] H := hP
                      have hD : va_D A [(h, .inr (7, oM r (upd (upd (upd (upd (upd i 3 1) 4 j5_L1) 5 y_153) 6 0) 12 j135_M0_12) (vp_updL j 7 0))), ((r 0), .inl (cI, 1800, .inl f0))] := hD
                      obtain ⟨d222p158p182p195p202_2_0, d222p158p182p195p202_2_1⟩ := g_222p158p182p195p202_1.resolve_left (i_nef (iR_c (n := 1) (a := 1) (b := 1) (by decide +kernel) (by decide +kernel)) (iR_c (n := 0) (a := 0) (b := 0) (by decide +kernel) (by decide +kernel)) (by decide +kernel))
                      refine lv_if_eq (tgt := 334) hx hb dX7_ahead_225 (by decide) (fun q9 => absurd q9 (by decide +kernel)) (fun _ => ?_)
                      refine lv_goto (tgt := 243) hx hb dX7_ahead_228 (by decide) ?_
                      refine lv_iload hx hb dX7_ahead_243 (lv_at hl 0 rfl) ?_
                      refine lv_iload hx hb dX7_ahead_245 (lv_at hl 1 rfl) ?_
                      have J_263p158p182p195p202p228 : ∀   (H : Heap) (locs : List Loc) (ls : Array Slot), va_P (dC, dI) vwCl [(h, .inr (7, oM r (upd (upd (upd (upd (upd i 3 1) 4 j5_L1) 5 y_153) 6 0) 12 j135_M0_12) (vp_updL j 7 0))), ((r 0), .inl (cI, 1800, .inl f0))] H → va_D A [(h, .inr (7, oM r (upd (upd (upd (upd (upd i 3 1) 4 j5_L1) 5 y_153) 6 0) 12 j135_M0_12) (vp_updL j 7 0))), ((r 0), .inl (cI, 1800, .inl f0))] → va_S A s.heap H locs → lv_has ls 6 [(0, .ref h), (1, .int j5_L1), (2, .int r_76), (3, .int r_86), (4, .int 6), (5, .int 0)] → W p l e ({ frames := 2, cells := 0, slots := 0, locals := 62 }) s m args below meth c H locs 0 0 (MQ below (va_Qv (fun (u9 : SU) => ((i 5) ≤ (u9.1 1)) ∧ ((u9.1 1) ≤ (u9.1 2)) ∧ (iR (u9.1 0) 0 3) ∧ (iR (u9.1 1) 0 1600) ∧ (iR (u9.1 2) 0 1600) ∧ (iR (u9.1 3) 0 9999) ∧ (iR (u9.1 4) (-1) 1599) ∧ (TM (u9.1 2) (u9.1 0) ≤ TM (i 5) (i 3)) ∧ (((u9.1 0) = 0) ∨ (((i 5) < (u9.1 2)) ∧ ((u9.1 1) < (u9.1 2)) ∧ ((u9.1 1) < (i 2)))) ∧ (((i 3) = 0) ∨ ((TM (u9.1 2) (u9.1 0) < TM (i 5) (i 3))))) (fun u => k_B (dC, dI) vwCl (tyy cI cJ cZ cM) A ((fun (u9 : SU) => [(h, .inr (7, oM r (upd (upd (upd (upd (upd i 3 (u9.1 0)) 4 (u9.1 1)) 5 (u9.1 2)) 6 (u9.1 3)) 12 (u9.1 4)) (vp_updL j 7 (u9.2.1 0)))), ((r 0), .inl (cI, 1800, .inl f0))]) u)) A) args s 0 0 A) (F0 m 263 ls []) := by
                        intro   H locs ls hP hD hS hl
                        refine lv_iload hx hb dX7_ahead_263 (lv_at hl 5 rfl) ?_
                        refine lv_bipush (v := 8) hx hb dX7_ahead_265 (by decide +kernel) ?_
                        have J_293p158p182p195p202p228 : ∀ (j293p158p182p195p202p228_M0_7 : Int64)  (H : Heap) (locs : List Loc) (ls : Array Slot), va_P (dC, dI) vwCl [(h, .inr (7, oM r (upd (upd (upd (upd (upd i 3 1) 4 j5_L1) 5 y_153) 6 0) 12 j135_M0_12) (vp_updL j 7 j293p158p182p195p202p228_M0_7))), ((r 0), .inl (cI, 1800, .inl f0))] H → va_D A [(h, .inr (7, oM r (upd (upd (upd (upd (upd i 3 1) 4 j5_L1) 5 y_153) 6 0) 12 j135_M0_12) (vp_updL j 7 j293p158p182p195p202p228_M0_7))), ((r 0), .inl (cI, 1800, .inl f0))] → va_S A s.heap H locs → lv_has ls 6 [(0, .ref h), (1, .int j5_L1), (2, .int r_76), (3, .int r_86), (4, .int 6), (5, .int 0)] → W p l e ({ frames := 2, cells := 0, slots := 0, locals := 62 }) s m args below meth c H locs 0 0 (MQ below (va_Qv (fun (u9 : SU) => ((i 5) ≤ (u9.1 1)) ∧ ((u9.1 1) ≤ (u9.1 2)) ∧ (iR (u9.1 0) 0 3) ∧ (iR (u9.1 1) 0 1600) ∧ (iR (u9.1 2) 0 1600) ∧ (iR (u9.1 3) 0 9999) ∧ (iR (u9.1 4) (-1) 1599) ∧ (TM (u9.1 2) (u9.1 0) ≤ TM (i 5) (i 3)) ∧ (((u9.1 0) = 0) ∨ (((i 5) < (u9.1 2)) ∧ ((u9.1 1) < (u9.1 2)) ∧ ((u9.1 1) < (i 2)))) ∧ (((i 3) = 0) ∨ ((TM (u9.1 2) (u9.1 0) < TM (i 5) (i 3))))) (fun u => k_B (dC, dI) vwCl (tyy cI cJ cZ cM) A ((fun (u9 : SU) => [(h, .inr (7, oM r (upd (upd (upd (upd (upd i 3 (u9.1 0)) 4 (u9.1 1)) 5 (u9.1 2)) 6 (u9.1 3)) 12 (u9.1 4)) (vp_updL j 7 (u9.2.1 0)))), ((r 0), .inl (cI, 1800, .inl f0))]) u)) A) args s 0 0 A) (F0 m 293 ls []) := by
                          intro j293p158p182p195p202p228_M0_7  H locs ls hP hD hS hl
                          refine lv_iload hx hb dX7_ahead_293 (lv_at hl 5 rfl) ?_
                          refine lv_iload hx hb dX7_ahead_295 (lv_at hl 4 rfl) ?_
                          have J_325p158p182p195p202p228 : ∀ (n_325p158p182p195p202p228 : Nat) (j325p158p182p195p202p228_L1 : Int32) (j325p158p182p195p202p228_L5 : Int32) (j325p158p182p195p202p228_M0_7 : Int64) (j325p158p182p195p202p228_M0_12 : Int32) (hj325p158p182p195p202p228_L1 : iR j325p158p182p195p202p228_L1 0 1599) (hj325p158p182p195p202p228_L5 : iR j325p158p182p195p202p228_L5 0 1600) (hj325p158p182p195p202p228_M0_12 : iR j325p158p182p195p202p228_M0_12 (-1) 1599) (k325p158p182p195p202p228_0 : iR r_86 0 0) (q325p158p182p195p202p228_0 : r_86 = 0) (q325p158p182p195p202p228_1 : 0 = r_86) (v325p158p182p195p202p228_0 : (i 5) ≤ j325p158p182p195p202p228_L1) (v325p158p182p195p202p228_1 : j5_L1 ≤ j325p158p182p195p202p228_L1) (v325p158p182p195p202p228_2 : j325p158p182p195p202p228_L1 < (i 2)) (p325p158p182p195p202p228_0 : 0 ≤ j325p158p182p195p202p228_L5.toInt ∧ (j325p158p182p195p202p228_L5.toInt = 0 → 0 ≤ 9) ∧ (j325p158p182p195p202p228_L5.toInt = 1 → 0 ≤ 99) ∧ (j325p158p182p195p202p228_L5.toInt = 2 → 0 ≤ 999) ∧ j325p158p182p195p202p228_L5.toInt + j5_L1.toInt = j325p158p182p195p202p228_L1.toInt) (hm_325p158p182p195p202p228 : (1599 - j325p158p182p195p202p228_L1.toInt).toNat < n_325p158p182p195p202p228) (H : Heap) (locs : List Loc) (ls : Array Slot), va_P (dC, dI) vwCl [(h, .inr (7, oM r (upd (upd (upd (upd (upd i 3 1) 4 j5_L1) 5 y_153) 6 0) 12 j325p158p182p195p202p228_M0_12) (vp_updL j 7 j325p158p182p195p202p228_M0_7))), ((r 0), .inl (cI, 1800, .inl f0))] H → va_D A [(h, .inr (7, oM r (upd (upd (upd (upd (upd i 3 1) 4 j5_L1) 5 y_153) 6 0) 12 j325p158p182p195p202p228_M0_12) (vp_updL j 7 j325p158p182p195p202p228_M0_7))), ((r 0), .inl (cI, 1800, .inl f0))] → va_S A s.heap H locs → lv_has ls 6 [(0, .ref h), (1, .int j325p158p182p195p202p228_L1), (2, .int r_76), (3, .int r_86), (4, .int 6), (5, .int j325p158p182p195p202p228_L5)] → W p l e ({ frames := 2, cells := 0, slots := 0, locals := 62 }) s m args below meth c H locs 0 0 (MQ below (va_Qv (fun (u9 : SU) => ((i 5) ≤ (u9.1 1)) ∧ ((u9.1 1) ≤ (u9.1 2)) ∧ (iR (u9.1 0) 0 3) ∧ (iR (u9.1 1) 0 1600) ∧ (iR (u9.1 2) 0 1600) ∧ (iR (u9.1 3) 0 9999) ∧ (iR (u9.1 4) (-1) 1599) ∧ (TM (u9.1 2) (u9.1 0) ≤ TM (i 5) (i 3)) ∧ (((u9.1 0) = 0) ∨ (((i 5) < (u9.1 2)) ∧ ((u9.1 1) < (u9.1 2)) ∧ ((u9.1 1) < (i 2)))) ∧ (((i 3) = 0) ∨ ((TM (u9.1 2) (u9.1 0) < TM (i 5) (i 3))))) (fun u => k_B (dC, dI) vwCl (tyy cI cJ cZ cM) A ((fun (u9 : SU) => [(h, .inr (7, oM r (upd (upd (upd (upd (upd i 3 (u9.1 0)) 4 (u9.1 1)) 5 (u9.1 2)) 6 (u9.1 3)) 12 (u9.1 4)) (vp_updL j 7 (u9.2.1 0)))), ((r 0), .inl (cI, 1800, .inl f0))]) u)) A) args s 0 0 A) (F0 m 325 ls []) := by
                            intro n_325p158p182p195p202p228
                            induction n_325p158p182p195p202p228 with
                            | zero => intro j325p158p182p195p202p228_L1 j325p158p182p195p202p228_L5 j325p158p182p195p202p228_M0_7 j325p158p182p195p202p228_M0_12 hj325p158p182p195p202p228_L1 hj325p158p182p195p202p228_L5 hj325p158p182p195p202p228_M0_12 k325p158p182p195p202p228_0 q325p158p182p195p202p228_0 q325p158p182p195p202p228_1 v325p158p182p195p202p228_0 v325p158p182p195p202p228_1 v325p158p182p195p202p228_2 p325p158p182p195p202p228_0 hm_325p158p182p195p202p228; exact absurd hm_325p158p182p195p202p228 (Nat.not_lt_zero _)
                            | succ n_325p158p182p195p202p228 ih_325p158p182p195p202p228 =>
                              intro j325p158p182p195p202p228_L1 j325p158p182p195p202p228_L5 j325p158p182p195p202p228_M0_7 j325p158p182p195p202p228_M0_12 hj325p158p182p195p202p228_L1 hj325p158p182p195p202p228_L5 hj325p158p182p195p202p228_M0_12 k325p158p182p195p202p228_0 q325p158p182p195p202p228_0 q325p158p182p195p202p228_1 v325p158p182p195p202p228_0 v325p158p182p195p202p228_1 v325p158p182p195p202p228_2 p325p158p182p195p202p228_0 hm_325p158p182p195p202p228 H locs ls hP hD hS hl
                              obtain ⟨y_325p158p182p195p202p228, ey_325p158p182p195p202p228⟩ : ∃ y : Int32, y = j325p158p182p195p202p228_L5 + 1 := ⟨_, rfl⟩
                              refine lv_iinc (v := y_325p158p182p195p202p228) (lv' := [(5, .int y_325p158p182p195p202p228), (0, .ref h), (1, .int j325p158p182p195p202p228_L1), (2, .int r_76), (3, .int r_86), (4, .int 6)]) hx hb dX7_ahead_325 hl (k := 5) rfl ey_325p158p182p195p202p228.symm (by decide) rfl (fun ls hl => ?_)
                              have f_325p158p182p195p202p228_1 : iR y_325p158p182p195p202p228 1 1601 := iR_add ey_325p158p182p195p202p228 hj325p158p182p195p202p228_L5 (iR_c (n := 1) (a := 1) (b := 1) (by decide +kernel) (by decide +kernel)) (by decide +kernel)
                              have xy_325p158p182p195p202p228 : y_325p158p182p195p202p228.toInt = j325p158p182p195p202p228_L5.toInt + 1 := i_add ey_325p158p182p195p202p228 hj325p158p182p195p202p228_L5 (iR_c (n := 1) (a := 1) (b := 1) (by decide +kernel) (by decide +kernel)) (by decide +kernel)
                              obtain ⟨y_328p158p182p195p202p228, ey_328p158p182p195p202p228⟩ : ∃ y : Int32, y = j325p158p182p195p202p228_L1 + 1 := ⟨_, rfl⟩
                              refine lv_iinc (v := y_328p158p182p195p202p228) (lv' := [(1, .int y_328p158p182p195p202p228), (5, .int y_325p158p182p195p202p228), (0, .ref h), (2, .int r_76), (3, .int r_86), (4, .int 6)]) hx hb dX7_ahead_328 hl (k := 2) rfl ey_328p158p182p195p202p228.symm (by decide) rfl (fun ls hl => ?_)
                              have f_328p158p182p195p202p228_2 : iR y_328p158p182p195p202p228 1 1600 := iR_add ey_328p158p182p195p202p228 hj325p158p182p195p202p228_L1 (iR_c (n := 1) (a := 1) (b := 1) (by decide +kernel) (by decide +kernel)) (by decide +kernel)
                              have xy_328p158p182p195p202p228 : y_328p158p182p195p202p228.toInt = j325p158p182p195p202p228_L1.toInt + 1 := i_add ey_328p158p182p195p202p228 hj325p158p182p195p202p228_L1 (iR_c (n := 1) (a := 1) (b := 1) (by decide +kernel) (by decide +kernel)) (by decide +kernel)
                              refine lv_goto (tgt := 204) hx hb dX7_ahead_331 (by decide) ?_
                              refine lv_iload_n hx hb dX7_ahead_204 rfl (lv_at hl 0 rfl) ?_
                              refine lv_aload_n hx hb dX7_ahead_205 rfl (lv_at hl 2 rfl) ?_
                              refine k_get (D := (dC, dI)) (ci := 7) (v := .int (i 2)) (C := RX7) (T := TX7) (N := 92) hx hb hts hinX7 hown hK hP 0 rfl rfl 2 (by decide) w_1 rfl rfl dX7_ahead_206 ?_
                              have J_334p158p182p195p202p228p331 : ∀   (H : Heap) (locs : List Loc) (ls : Array Slot), va_P (dC, dI) vwCl [(h, .inr (7, oM r (upd (upd (upd (upd (upd i 3 1) 4 j5_L1) 5 y_153) 6 0) 12 j325p158p182p195p202p228_M0_12) (vp_updL j 7 j325p158p182p195p202p228_M0_7))), ((r 0), .inl (cI, 1800, .inl f0))] H → va_D A [(h, .inr (7, oM r (upd (upd (upd (upd (upd i 3 1) 4 j5_L1) 5 y_153) 6 0) 12 j325p158p182p195p202p228_M0_12) (vp_updL j 7 j325p158p182p195p202p228_M0_7))), ((r 0), .inl (cI, 1800, .inl f0))] → va_S A s.heap H locs → lv_has ls 6 [(0, .ref h), (1, .int y_328p158p182p195p202p228), (2, .int r_76), (4, .int 6), (5, .int y_325p158p182p195p202p228)] → W p l e ({ frames := 2, cells := 0, slots := 0, locals := 62 }) s m args below meth c H locs 0 0 (MQ below (va_Qv (fun (u9 : SU) => ((i 5) ≤ (u9.1 1)) ∧ ((u9.1 1) ≤ (u9.1 2)) ∧ (iR (u9.1 0) 0 3) ∧ (iR (u9.1 1) 0 1600) ∧ (iR (u9.1 2) 0 1600) ∧ (iR (u9.1 3) 0 9999) ∧ (iR (u9.1 4) (-1) 1599) ∧ (TM (u9.1 2) (u9.1 0) ≤ TM (i 5) (i 3)) ∧ (((u9.1 0) = 0) ∨ (((i 5) < (u9.1 2)) ∧ ((u9.1 1) < (u9.1 2)) ∧ ((u9.1 1) < (i 2)))) ∧ (((i 3) = 0) ∨ ((TM (u9.1 2) (u9.1 0) < TM (i 5) (i 3))))) (fun u => k_B (dC, dI) vwCl (tyy cI cJ cZ cM) A ((fun (u9 : SU) => [(h, .inr (7, oM r (upd (upd (upd (upd (upd i 3 (u9.1 0)) 4 (u9.1 1)) 5 (u9.1 2)) 6 (u9.1 3)) 12 (u9.1 4)) (vp_updL j 7 (u9.2.1 0)))), ((r 0), .inl (cI, 1800, .inl f0))]) u)) A) args s 0 0 A) (F0 m 334 ls []) := by
                                intro   H locs ls hP hD hS hl
                                refine lv_aload_n hx hb dX7_ahead_334 rfl (lv_at hl 0 rfl) ?_
                                refine lv_iload_n hx hb dX7_ahead_335 rfl (lv_at hl 1 rfl) ?_
                                refine k_put (D := (dC, dI)) (ci := 7) (v := .int y_328p158p182p195p202p228) (C := RX7) (T := TX7) (N := 92) (ws' := [(h, .inr (7, oM r (upd (upd (upd (upd (upd i 3 1) 4 j5_L1) 5 y_328p158p182p195p202p228) 6 0) 12 j325p158p182p195p202p228_M0_12) (vp_updL j 7 j325p158p182p195p202p228_M0_7))), ((r 0), .inl (cI, 1800, .inl f0))]) hx hb hts hinX7 tyX7 tyX7_ok nmX7 hown hK hP hD hS 0 rfl rfl 5 (by decide) w_0 rfl rfl rfl rfl (Nat.le_of_ble_eq_true rfl) rfl dX7_ahead_336 (fun H locs hP hD hS => ?_)
                                refine lv_iload_n hx hb dX7_ahead_339 rfl (lv_at hl 2 rfl) ?_
                                refine lv_if_eq (tgt := 380) hx hb dX7_ahead_340 (by decide) (fun c_340p158p182p195p202p228p331 => ?_) (fun c_340p158p182p195p202p228p331 => ?_)
                                · exact iR_cl (iR_eqL (a' := 1) (b' := 0) c_340p158p182p195p202p228p331 f_176_2 (iR_c (n := 0) (a := 0) (b := 0) (by decide +kernel) (by decide +kernel)) (by decide +kernel)) (by decide +kernel)
                                · have c_340p158p182p195p202p228p331 : ¬ r_76 = 0 := c_340p158p182p195p202p228p331
                                  refine lv_iload hx hb dX7_ahead_343 (lv_at hl 4 rfl) ?_
                                  refine lv_bipush (v := 8) hx hb dX7_ahead_345 (by decide +kernel) ?_
                                  refine lv_icmp_gt (tgt := 380) hx hb dX7_ahead_347 (by decide) (fun c_347p158p182p195p202p228p331 => ?_) (fun c_347p158p182p195p202p228p331 => ?_)
                                  · have c_347p158p182p195p202p228p331 : 8 < y_325p158p182p195p202p228 := c_347p158p182p195p202p228p331
                                    have f_380p158p182p195p202p228p331_1 : iR y_325p158p182p195p202p228 9 1601 := iR_ltR c_347p158p182p195p202p228p331 (iR_c (n := 8) (a := 8) (b := 8) (by decide +kernel) (by decide +kernel)) f_325p158p182p195p202p228_1 (by decide +kernel)
                                    have f_380p158p182p195p202p228p331_2 : iR j325p158p182p195p202p228_L5 8 1600 := iR_addB ey_325p158p182p195p202p228 hj325p158p182p195p202p228_L5 (iR_c (n := 1) (a := 1) (b := 1) (by decide +kernel) (by decide +kernel)) f_380p158p182p195p202p228p331_1 (by decide +kernel)
                                    exact k_rv B hP hD hS dX7_ahead_380 ((fun k9 => match k9 with | 0 => 1 | 1 => j5_L1 | 2 => y_328p158p182p195p202p228 | 3 => 0 | 4 => j325p158p182p195p202p228_M0_12 | _ => 0), (fun k9 => match k9 with | 0 => j325p158p182p195p202p228_M0_7 | _ => 0), (fun _ => (fun _ => 0)), (fun _ => (fun _ => 0)), (fun _ => 0)) [0, 1] rfl rfl (Nat.le_of_ble_eq_true rfl) (Nat.le_of_ble_eq_true rfl) ⟨(show (i 5) ≤ j5_L1 from v5_0), (show j5_L1 ≤ y_328p158p182p195p202p228 from (i_lestep v325p158p182p195p202p228_1 ey_328p158p182p195p202p228 hj325p158p182p195p202p228_L1 (iR_c (n := 1) (a := 1) (b := 1) (by decide +kernel) (by decide +kernel)) (by decide +kernel))), (show iR 1 0 3 from (iR_c (n := 1) (a := 0) (b := 3) (by decide +kernel) (by decide +kernel))), (show iR j5_L1 0 1600 from (iR_w f_70_1 (by decide +kernel))), (show iR y_328p158p182p195p202p228 0 1600 from (iR_w f_328p158p182p195p202p228_2 (by decide +kernel))), (show iR 0 0 9999 from (iR_c (n := 0) (a := 0) (b := 9999) (by decide +kernel) (by decide +kernel))), (show iR j325p158p182p195p202p228_M0_12 (-1) 1599 from hj325p158p182p195p202p228_M0_12), (show TM y_328p158p182p195p202p228 1 ≤ TM (i 5) (i 3) from (by have r1 : (i 5).toInt < y_328p158p182p195p202p228.toInt := i_ti_lt rfl rfl (i_ltstep v325p158p182p195p202p228_0 ey_328p158p182p195p202p228 hj325p158p182p195p202p228_L1 (iR_c (n := 1) (a := 1) (b := 1) (by decide +kernel) (by decide +kernel)) (by decide +kernel)); unfold TM; rw [if_neg (show ¬ (1 : Int32).toInt = 0 by decide)]; split <;> omega)), (show (1 = 0) ∨ (((i 5) < y_328p158p182p195p202p228) ∧ (j5_L1 < y_328p158p182p195p202p228) ∧ (j5_L1 < (i 2))) from (Or.inr ⟨(i_ltstep v325p158p182p195p202p228_0 ey_328p158p182p195p202p228 hj325p158p182p195p202p228_L1 (iR_c (n := 1) (a := 1) (b := 1) (by decide +kernel) (by decide +kernel)) (by decide +kernel)), (i_ltstep v325p158p182p195p202p228_1 ey_328p158p182p195p202p228 hj325p158p182p195p202p228_L1 (iR_c (n := 1) (a := 1) (b := 1) (by decide +kernel) (by decide +kernel)) (by decide +kernel)), c_209p158p182p195p202⟩)), (show ((i 3) = 0) ∨ ((TM y_328p158p182p195p202p228 1 < TM (i 5) (i 3))) from (by have r1 : (i 5).toInt < y_328p158p182p195p202p228.toInt := i_ti_lt rfl rfl (i_ltstep v325p158p182p195p202p228_0 ey_328p158p182p195p202p228 hj325p158p182p195p202p228_L1 (iR_c (n := 1) (a := 1) (b := 1) (by decide +kernel) (by decide +kernel)) (by decide +kernel)); by_cases z : (i 3) = 0; exact Or.inl z; refine Or.inr ?_; have z2 : ¬ (i 3).toInt = 0 := i_ti_ne rfl (by decide) z; unfold TM; rw [if_neg z2]; rw [if_neg (show ¬ (1 : Int32).toInt = 0 by decide)]; omega))⟩
                                  · have c_347p158p182p195p202p228p331 : y_325p158p182p195p202p228 ≤ 8 := i_nlt c_347p158p182p195p202p228p331
                                    have f_350p158p182p195p202p228p331_1 : iR y_325p158p182p195p202p228 1 8 := iR_leL c_347p158p182p195p202p228p331 f_325p158p182p195p202p228_1 (iR_c (n := 8) (a := 8) (b := 8) (by decide +kernel) (by decide +kernel)) (by decide +kernel)
                                    have f_350p158p182p195p202p228p331_2 : iR j325p158p182p195p202p228_L5 0 7 := iR_addB ey_325p158p182p195p202p228 hj325p158p182p195p202p228_L5 (iR_c (n := 1) (a := 1) (b := 1) (by decide +kernel) (by decide +kernel)) f_350p158p182p195p202p228p331_1 (by decide +kernel)
                                    refine lv_aload_n hx hb dX7_ahead_350 rfl (lv_at hl 0 rfl) ?_
                                    refine k_get (D := (dC, dI)) (ci := 7) (v := .int j325p158p182p195p202p228_M0_12) (C := RX7) (T := TX7) (N := 92) hx hb hts hinX7 hown hK hP 0 rfl rfl 12 (by decide) w_4 rfl rfl dX7_ahead_351 ?_
                                    refine lv_aload_n hx hb dX7_ahead_354 rfl (lv_at hl 0 rfl) ?_
                                    refine k_get (D := (dC, dI)) (ci := 7) (v := .int j5_L1) (C := RX7) (T := TX7) (N := 92) hx hb hts hinX7 hown hK hP 0 rfl rfl 4 (by decide) w_2 rfl rfl dX7_ahead_355 ?_
                                    refine lv_iload hx hb dX7_ahead_358 (lv_at hl 3 rfl) ?_
                                    refine lv_iadd hx hb dX7_ahead_360 ?_
                                    refine lv_topi (fun y_360p158p182p195p202p228p331 ey_360p158p182p195p202p228p331 => ?_)
                                    have xy_360p158p182p195p202p228p331 : y_360p158p182p195p202p228p331.toInt = j5_L1.toInt + 6 := i_add ey_360p158p182p195p202p228p331 f_70_1 (iR_c (n := 6) (a := 6) (b := 6) (by decide +kernel) (by decide +kernel)) (by decide +kernel)
                                    have f_360p158p182p195p202p228p331_3 : iR y_360p158p182p195p202p228p331 6 1605 := iR_add ey_360p158p182p195p202p228p331 f_70_1 (iR_c (n := 6) (a := 6) (b := 6) (by decide +kernel) (by decide +kernel)) (by decide +kernel)
                                    refine lv_icmp_ne (tgt := 380) hx hb dX7_ahead_361 (by decide) (fun c_361p158p182p195p202p228p331 => ?_) (fun c_361p158p182p195p202p228p331 => ?_)
                                    · have c_361p158p182p195p202p228p331 : ¬ j325p158p182p195p202p228_M0_12 = y_360p158p182p195p202p228p331 := c_361p158p182p195p202p228p331
                                      exact k_rv B hP hD hS dX7_ahead_380 ((fun k9 => match k9 with | 0 => 1 | 1 => j5_L1 | 2 => y_328p158p182p195p202p228 | 3 => 0 | 4 => j325p158p182p195p202p228_M0_12 | _ => 0), (fun k9 => match k9 with | 0 => j325p158p182p195p202p228_M0_7 | _ => 0), (fun _ => (fun _ => 0)), (fun _ => (fun _ => 0)), (fun _ => 0)) [0, 1] rfl rfl (Nat.le_of_ble_eq_true rfl) (Nat.le_of_ble_eq_true rfl) ⟨(show (i 5) ≤ j5_L1 from v5_0), (show j5_L1 ≤ y_328p158p182p195p202p228 from (i_lestep v325p158p182p195p202p228_1 ey_328p158p182p195p202p228 hj325p158p182p195p202p228_L1 (iR_c (n := 1) (a := 1) (b := 1) (by decide +kernel) (by decide +kernel)) (by decide +kernel))), (show iR 1 0 3 from (iR_c (n := 1) (a := 0) (b := 3) (by decide +kernel) (by decide +kernel))), (show iR j5_L1 0 1600 from (iR_w f_70_1 (by decide +kernel))), (show iR y_328p158p182p195p202p228 0 1600 from (iR_w f_328p158p182p195p202p228_2 (by decide +kernel))), (show iR 0 0 9999 from (iR_c (n := 0) (a := 0) (b := 9999) (by decide +kernel) (by decide +kernel))), (show iR j325p158p182p195p202p228_M0_12 (-1) 1599 from hj325p158p182p195p202p228_M0_12), (show TM y_328p158p182p195p202p228 1 ≤ TM (i 5) (i 3) from (by have r1 : (i 5).toInt < y_328p158p182p195p202p228.toInt := i_ti_lt rfl rfl (i_ltstep v325p158p182p195p202p228_0 ey_328p158p182p195p202p228 hj325p158p182p195p202p228_L1 (iR_c (n := 1) (a := 1) (b := 1) (by decide +kernel) (by decide +kernel)) (by decide +kernel)); unfold TM; rw [if_neg (show ¬ (1 : Int32).toInt = 0 by decide)]; split <;> omega)), (show (1 = 0) ∨ (((i 5) < y_328p158p182p195p202p228) ∧ (j5_L1 < y_328p158p182p195p202p228) ∧ (j5_L1 < (i 2))) from (Or.inr ⟨(i_ltstep v325p158p182p195p202p228_0 ey_328p158p182p195p202p228 hj325p158p182p195p202p228_L1 (iR_c (n := 1) (a := 1) (b := 1) (by decide +kernel) (by decide +kernel)) (by decide +kernel)), (i_ltstep v325p158p182p195p202p228_1 ey_328p158p182p195p202p228 hj325p158p182p195p202p228_L1 (iR_c (n := 1) (a := 1) (b := 1) (by decide +kernel) (by decide +kernel)) (by decide +kernel)), c_209p158p182p195p202⟩)), (show ((i 3) = 0) ∨ ((TM y_328p158p182p195p202p228 1 < TM (i 5) (i 3))) from (by have r1 : (i 5).toInt < y_328p158p182p195p202p228.toInt := i_ti_lt rfl rfl (i_ltstep v325p158p182p195p202p228_0 ey_328p158p182p195p202p228 hj325p158p182p195p202p228_L1 (iR_c (n := 1) (a := 1) (b := 1) (by decide +kernel) (by decide +kernel)) (by decide +kernel)); by_cases z : (i 3) = 0; exact Or.inl z; refine Or.inr ?_; have z2 : ¬ (i 3).toInt = 0 := i_ti_ne rfl (by decide) z; unfold TM; rw [if_neg z2]; rw [if_neg (show ¬ (1 : Int32).toInt = 0 by decide)]; omega))⟩
                                    · have c_361p158p182p195p202p228p331 : j325p158p182p195p202p228_M0_12 = y_360p158p182p195p202p228p331 := c_361p158p182p195p202p228p331
                                      have f_364p158p182p195p202p228p331_4 : iR j325p158p182p195p202p228_M0_12 6 1599 := iR_eqL c_361p158p182p195p202p228p331 hj325p158p182p195p202p228_M0_12 f_360p158p182p195p202p228p331_3 (by decide +kernel)
                                      have f_364p158p182p195p202p228p331_5 : iR y_360p158p182p195p202p228p331 6 1599 := iR_eqR c_361p158p182p195p202p228p331 hj325p158p182p195p202p228_M0_12 f_360p158p182p195p202p228p331_3 (by decide +kernel)
                                      have f_364p158p182p195p202p228p331_6 : iR j5_L1 0 1593 := iR_addB ey_360p158p182p195p202p228p331 f_70_1 (iR_c (n := 6) (a := 6) (b := 6) (by decide +kernel) (by decide +kernel)) f_364p158p182p195p202p228p331_5 (by decide +kernel)
                                      refine lv_aload_n hx hb dX7_ahead_364 rfl (lv_at hl 0 rfl) ?_
                                      refine lv_aload_n hx hb dX7_ahead_365 rfl (lv_at hl 0 rfl) ?_
                                      refine k_get (D := (dC, dI)) (ci := 7) (v := .long j325p158p182p195p202p228_M0_7) (C := RX7) (T := TX7) (N := 92) hx hb hts hinX7 hown hK hP 0 rfl rfl 7 (by decide) w_7 rfl rfl dX7_ahead_366 ?_
                                      refine k_ci (wc := []) (wr := [(h, .inr (7, oM r (upd (upd (upd (upd (upd i 3 1) 4 j5_L1) 5 y_328p158p182p195p202p228) 6 0) 12 j325p158p182p195p202p228_M0_12) (vp_updL j 7 j325p158p182p195p202p228_M0_7))), ((r 0), .inl (cI, 1800, .inl f0))]) (fun hPc hDc hFc => va_runV (As := [.long j325p158p182p195p202p228_M0_7]) (rest := []) ⟨hx, hb, hml, hown, hts⟩ (s_X7_isOwn_v1 l dC dI cI cJ cZ cM h j325p158p182p195p202p228_M0_7 H.size) (cwV 1 hts gX7_ahead_X7_isOwn rfl rfl rfl (by decide +kernel) ⟨(Nat.le_of_ble_eq_true rfl), (Nat.le_of_ble_eq_true rfl)⟩) (k_pV hPc hDc hK hN hC hS hFc hP (q0 := 0) (ci := 7) rfl rfl) rfl rfl hl.1 rfl (lv_room (Nat.le_of_ble_eq_true rfl)) dX7_ahead_369 ⟨(Nat.le_of_ble_eq_true rfl), (Nat.le_of_ble_eq_true rfl)⟩) hP hD hS hA [] [0, 1] rfl rfl rfl rfl (by decide) (fun _ => rfl) 0 0 rfl rfl (fun r_369p158p182p195p202p228p331 u_369p158p182p195p202p228p331 H locs hw hP hD hS => ?_)
                                      have g_369p158p182p195p202p228p331_0 := hw
                                      have hP : va_P (dC, dI) vwCl [(h, .inr (7, oM r (upd (upd (upd (upd (upd i 3 1) 4 j5_L1) 5 y_328p158p182p195p202p228) 6 0) 12 j325p158p182p195p202p228_M0_12) (vp_updL j 7 j325p158p182p195p202p228_M0_7))), ((r 0), .inl (cI, 1800, .inl f0))] H := hP
                                      have hD : va_D A [(h, .inr (7, oM r (upd (upd (upd (upd (upd i 3 1) 4 j5_L1) 5 y_328p158p182p195p202p228) 6 0) 12 j325p158p182p195p202p228_M0_12) (vp_updL j 7 j325p158p182p195p202p228_M0_7))), ((r 0), .inl (cI, 1800, .inl f0))] := hD
                                      refine lv_if_eq (tgt := 380) hx hb dX7_ahead_372 (by decide) (fun c_372p158p182p195p202p228p331 => ?_) (fun c_372p158p182p195p202p228p331 => ?_)
                                      · have c_372p158p182p195p202p228p331 : r_369p158p182p195p202p228p331 = 0 := c_372p158p182p195p202p228p331
                                        have f_380p158p182p195p202p228p331_7 : iR r_369p158p182p195p202p228p331 0 0 := iR_eqL c_372p158p182p195p202p228p331 g_369p158p182p195p202p228p331_0 (iR_c (n := 0) (a := 0) (b := 0) (by decide +kernel) (by decide +kernel)) (by decide +kernel)
                                        exact k_rv B hP hD hS dX7_ahead_380 ((fun k9 => match k9 with | 0 => 1 | 1 => j5_L1 | 2 => y_328p158p182p195p202p228 | 3 => 0 | 4 => j325p158p182p195p202p228_M0_12 | _ => 0), (fun k9 => match k9 with | 0 => j325p158p182p195p202p228_M0_7 | _ => 0), (fun _ => (fun _ => 0)), (fun _ => (fun _ => 0)), (fun _ => 0)) [0, 1] rfl rfl (Nat.le_of_ble_eq_true rfl) (Nat.le_of_ble_eq_true rfl) ⟨(show (i 5) ≤ j5_L1 from v5_0), (show j5_L1 ≤ y_328p158p182p195p202p228 from (i_lestep v325p158p182p195p202p228_1 ey_328p158p182p195p202p228 hj325p158p182p195p202p228_L1 (iR_c (n := 1) (a := 1) (b := 1) (by decide +kernel) (by decide +kernel)) (by decide +kernel))), (show iR 1 0 3 from (iR_c (n := 1) (a := 0) (b := 3) (by decide +kernel) (by decide +kernel))), (show iR j5_L1 0 1600 from (iR_w f_364p158p182p195p202p228p331_6 (by decide +kernel))), (show iR y_328p158p182p195p202p228 0 1600 from (iR_w f_328p158p182p195p202p228_2 (by decide +kernel))), (show iR 0 0 9999 from (iR_c (n := 0) (a := 0) (b := 9999) (by decide +kernel) (by decide +kernel))), (show iR j325p158p182p195p202p228_M0_12 (-1) 1599 from (iR_w f_364p158p182p195p202p228p331_4 (by decide +kernel))), (show TM y_328p158p182p195p202p228 1 ≤ TM (i 5) (i 3) from (by have r1 : (i 5).toInt < y_328p158p182p195p202p228.toInt := i_ti_lt rfl rfl (i_ltstep v325p158p182p195p202p228_0 ey_328p158p182p195p202p228 hj325p158p182p195p202p228_L1 (iR_c (n := 1) (a := 1) (b := 1) (by decide +kernel) (by decide +kernel)) (by decide +kernel)); unfold TM; rw [if_neg (show ¬ (1 : Int32).toInt = 0 by decide)]; split <;> omega)), (show (1 = 0) ∨ (((i 5) < y_328p158p182p195p202p228) ∧ (j5_L1 < y_328p158p182p195p202p228) ∧ (j5_L1 < (i 2))) from (Or.inr ⟨(i_ltstep v325p158p182p195p202p228_0 ey_328p158p182p195p202p228 hj325p158p182p195p202p228_L1 (iR_c (n := 1) (a := 1) (b := 1) (by decide +kernel) (by decide +kernel)) (by decide +kernel)), (i_ltstep v325p158p182p195p202p228_1 ey_328p158p182p195p202p228 hj325p158p182p195p202p228_L1 (iR_c (n := 1) (a := 1) (b := 1) (by decide +kernel) (by decide +kernel)) (by decide +kernel)), c_209p158p182p195p202⟩)), (show ((i 3) = 0) ∨ ((TM y_328p158p182p195p202p228 1 < TM (i 5) (i 3))) from (by have r1 : (i 5).toInt < y_328p158p182p195p202p228.toInt := i_ti_lt rfl rfl (i_ltstep v325p158p182p195p202p228_0 ey_328p158p182p195p202p228 hj325p158p182p195p202p228_L1 (iR_c (n := 1) (a := 1) (b := 1) (by decide +kernel) (by decide +kernel)) (by decide +kernel)); by_cases z : (i 3) = 0; exact Or.inl z; refine Or.inr ?_; have z2 : ¬ (i 3).toInt = 0 := i_ti_ne rfl (by decide) z; unfold TM; rw [if_neg z2]; rw [if_neg (show ¬ (1 : Int32).toInt = 0 by decide)]; omega))⟩
                                      · have c_372p158p182p195p202p228p331 : ¬ r_369p158p182p195p202p228p331 = 0 := c_372p158p182p195p202p228p331
                                        have f_375p158p182p195p202p228p331_7 : iR r_369p158p182p195p202p228p331 1 1 := iR_neL c_372p158p182p195p202p228p331 g_369p158p182p195p202p228p331_0 (iR_c (n := 0) (a := 0) (b := 0) (by decide +kernel) (by decide +kernel)) (by decide +kernel)
                                        refine lv_aload_n hx hb dX7_ahead_375 rfl (lv_at hl 0 rfl) ?_
                                        refine lv_iconst (v := (-1)) hx hb dX7_ahead_376 (by decide +kernel) ?_
                                        refine k_put (D := (dC, dI)) (ci := 7) (v := .int (-1)) (C := RX7) (T := TX7) (N := 92) (ws' := [(h, .inr (7, oM r (upd (upd (upd (upd (upd i 3 1) 4 j5_L1) 5 y_328p158p182p195p202p228) 6 0) 12 (-1)) (vp_updL j 7 j325p158p182p195p202p228_M0_7))), ((r 0), .inl (cI, 1800, .inl f0))]) hx hb hts hinX7 tyX7 tyX7_ok nmX7 hown hK hP hD hS 0 rfl rfl 12 (by decide) w_4 rfl rfl rfl rfl (Nat.le_of_ble_eq_true rfl) rfl dX7_ahead_377 (fun H locs hP hD hS => ?_)
                                        exact k_rv B hP hD hS dX7_ahead_380 ((fun k9 => match k9 with | 0 => 1 | 1 => j5_L1 | 2 => y_328p158p182p195p202p228 | 3 => 0 | 4 => -1 | _ => 0), (fun k9 => match k9 with | 0 => j325p158p182p195p202p228_M0_7 | _ => 0), (fun _ => (fun _ => 0)), (fun _ => (fun _ => 0)), (fun _ => 0)) [0, 1] rfl rfl (Nat.le_of_ble_eq_true rfl) (Nat.le_of_ble_eq_true rfl) ⟨(show (i 5) ≤ j5_L1 from v5_0), (show j5_L1 ≤ y_328p158p182p195p202p228 from (i_lestep v325p158p182p195p202p228_1 ey_328p158p182p195p202p228 hj325p158p182p195p202p228_L1 (iR_c (n := 1) (a := 1) (b := 1) (by decide +kernel) (by decide +kernel)) (by decide +kernel))), (show iR 1 0 3 from (iR_c (n := 1) (a := 0) (b := 3) (by decide +kernel) (by decide +kernel))), (show iR j5_L1 0 1600 from (iR_w f_364p158p182p195p202p228p331_6 (by decide +kernel))), (show iR y_328p158p182p195p202p228 0 1600 from (iR_w f_328p158p182p195p202p228_2 (by decide +kernel))), (show iR 0 0 9999 from (iR_c (n := 0) (a := 0) (b := 9999) (by decide +kernel) (by decide +kernel))), (show iR (-1) (-1) 1599 from (iR_c (n := (-1)) (a := (-1)) (b := 1599) (by decide +kernel) (by decide +kernel))), (show TM y_328p158p182p195p202p228 1 ≤ TM (i 5) (i 3) from (by have r1 : (i 5).toInt < y_328p158p182p195p202p228.toInt := i_ti_lt rfl rfl (i_ltstep v325p158p182p195p202p228_0 ey_328p158p182p195p202p228 hj325p158p182p195p202p228_L1 (iR_c (n := 1) (a := 1) (b := 1) (by decide +kernel) (by decide +kernel)) (by decide +kernel)); unfold TM; rw [if_neg (show ¬ (1 : Int32).toInt = 0 by decide)]; split <;> omega)), (show (1 = 0) ∨ (((i 5) < y_328p158p182p195p202p228) ∧ (j5_L1 < y_328p158p182p195p202p228) ∧ (j5_L1 < (i 2))) from (Or.inr ⟨(i_ltstep v325p158p182p195p202p228_0 ey_328p158p182p195p202p228 hj325p158p182p195p202p228_L1 (iR_c (n := 1) (a := 1) (b := 1) (by decide +kernel) (by decide +kernel)) (by decide +kernel)), (i_ltstep v325p158p182p195p202p228_1 ey_328p158p182p195p202p228 hj325p158p182p195p202p228_L1 (iR_c (n := 1) (a := 1) (b := 1) (by decide +kernel) (by decide +kernel)) (by decide +kernel)), c_209p158p182p195p202⟩)), (show ((i 3) = 0) ∨ ((TM y_328p158p182p195p202p228 1 < TM (i 5) (i 3))) from (by have r1 : (i 5).toInt < y_328p158p182p195p202p228.toInt := i_ti_lt rfl rfl (i_ltstep v325p158p182p195p202p228_0 ey_328p158p182p195p202p228 hj325p158p182p195p202p228_L1 (iR_c (n := 1) (a := 1) (b := 1) (by decide +kernel) (by decide +kernel)) (by decide +kernel)); by_cases z : (i 3) = 0; exact Or.inl z; refine Or.inr ?_; have z2 : ¬ (i 3).toInt = 0 := i_ti_ne rfl (by decide) z; unfold TM; rw [if_neg z2]; rw [if_neg (show ¬ (1 : Int32).toInt = 0 by decide)]; omega))⟩
                              refine lv_icmp_ge (tgt := 334) hx hb dX7_ahead_209 (by decide) (fun c_209p158p182p195p202p228p331 => ?_) (fun c_209p158p182p195p202p228p331 => ?_)
                              · have c_209p158p182p195p202p228p331 : (i 2) ≤ y_328p158p182p195p202p228 := c_209p158p182p195p202p228p331
                                exact J_334p158p182p195p202p228p331   H locs ls hP hD hS (lv_sub hl [2, 0, 3, 5, 1] rfl)
                              · have c_209p158p182p195p202p228p331 : y_328p158p182p195p202p228 < (i 2) := i_nle c_209p158p182p195p202p228p331
                                have f_212p158p182p195p202p228p331_3 : iR y_328p158p182p195p202p228 1 1599 := iR_ltL c_209p158p182p195p202p228p331 f_328p158p182p195p202p228_2 f_70_2 (by decide +kernel)
                                have f_212p158p182p195p202p228p331_4 : iR j325p158p182p195p202p228_L1 0 1598 := iR_addB ey_328p158p182p195p202p228 hj325p158p182p195p202p228_L1 (iR_c (n := 1) (a := 1) (b := 1) (by decide +kernel) (by decide +kernel)) f_212p158p182p195p202p228p331_3 (by decide +kernel)
                                have f_212p158p182p195p202p228p331_5 : iR (i 2) 2 1600 := iR_ltR c_209p158p182p195p202p228p331 f_328p158p182p195p202p228_2 f_70_2 (by decide +kernel)
                                refine lv_iload_n hx hb dX7_ahead_212 rfl (lv_at hl 3 rfl) ?_
                                refine lv_if_eq (tgt := 231) hx hb dX7_ahead_213 (by decide) (fun c_213p158p182p195p202p228p331 => ?_) (fun c_213p158p182p195p202p228p331 => ?_)
                                · exact iR_cl (iR_eqL (a' := 1) (b' := 0) c_213p158p182p195p202p228p331 f_176_2 (iR_c (n := 0) (a := 0) (b := 0) (by decide +kernel) (by decide +kernel)) (by decide +kernel)) (by decide +kernel)
                                · have c_213p158p182p195p202p228p331 : ¬ r_76 = 0 := c_213p158p182p195p202p228p331
                                  refine lv_aload_n hx hb dX7_ahead_216 rfl (lv_at hl 2 rfl) ?_
                                  refine k_get (D := (dC, dI)) (ci := 7) (v := .ref (r 0)) (C := RX7) (T := TX7) (N := 92) hx hb hts hinX7 hown hK hP 0 rfl rfl 0 (by decide) w_5 rfl rfl dX7_ahead_217 ?_
                                  refine lv_iload_n hx hb dX7_ahead_220 rfl (lv_at hl 0 rfl) ?_
                                  refine va_iald hx hb hK hP 1 0 rfl rfl (iR_vp f_212p158p182p195p202p228p331_3 (by decide +kernel)) dX7_ahead_221 ?_
                                  have f_221p158p182p195p202p228p331_6 : iR (f0 y_328p158p182p195p202p228.toNatClampNeg) 0 255 := hf0 _
                                  refine k_ci (wc := []) (wr := [(h, .inr (7, oM r (upd (upd (upd (upd (upd i 3 1) 4 j5_L1) 5 y_153) 6 0) 12 j325p158p182p195p202p228_M0_12) (vp_updL j 7 j325p158p182p195p202p228_M0_7))), ((r 0), .inl (cI, 1800, .inl f0))]) (fun hPc hDc hFc => va_runS (As := [.int (f0 y_328p158p182p195p202p228.toNatClampNeg)]) (rest := []) ⟨hx, hb, hml, hown, hts⟩ (s_X7_isLetter_v0 l dC dI cI cJ cZ cM (f0 y_328p158p182p195p202p228.toNatClampNeg) H.size) (va_cwS 1 hts gX7_ahead_X7_isLetter rfl rfl rfl (by decide +kernel) ⟨(Nat.le_of_ble_eq_true rfl), (Nat.le_of_ble_eq_true rfl)⟩) (k_pS hPc hDc hK hN hC hS hFc) rfl rfl hl.1 rfl (lv_room (Nat.le_of_ble_eq_true rfl)) dX7_ahead_222 ⟨(Nat.le_of_ble_eq_true rfl), (Nat.le_of_ble_eq_true rfl)⟩) hP hD hS hA [] [0, 1] rfl rfl rfl rfl (by decide) (fun _ => rfl) 0 0 rfl rfl (fun r_222p158p182p195p202p228p331 u_222p158p182p195p202p228p331 H locs hw hP hD hS => ?_)
                                  obtain ⟨g_222p158p182p195p202p228p331_0, g_222p158p182p195p202p228p331_1⟩ := hw
                                  have hP : va_P (dC, dI) vwCl [(h, .inr (7, oM r (upd (upd (upd (upd (upd i 3 1) 4 j5_L1) 5 y_153) 6 0) 12 j325p158p182p195p202p228_M0_12) (vp_updL j 7 j325p158p182p195p202p228_M0_7))), ((r 0), .inl (cI, 1800, .inl f0))] H := hP
                                  have hD : va_D A [(h, .inr (7, oM r (upd (upd (upd (upd (upd i 3 1) 4 j5_L1) 5 y_153) 6 0) 12 j325p158p182p195p202p228_M0_12) (vp_updL j 7 j325p158p182p195p202p228_M0_7))), ((r 0), .inl (cI, 1800, .inl f0))] := hD
                                  have g_222p158p182p195p202p228p331_1 : (r_222p158p182p195p202p228p331 = 0) ∨ ((97 ≤ (f0 y_328p158p182p195p202p228.toNatClampNeg)) ∧ ((f0 y_328p158p182p195p202p228.toNatClampNeg) ≤ 122)) := g_222p158p182p195p202p228p331_1
                                  refine lv_if_eq (tgt := 334) hx hb dX7_ahead_225 (by decide) (fun c_225p158p182p195p202p228p331 => ?_) (fun c_225p158p182p195p202p228p331 => ?_)
                                  · have c_225p158p182p195p202p228p331 : r_222p158p182p195p202p228p331 = 0 := c_225p158p182p195p202p228p331
                                    have f_334p158p182p195p202p228p331_7 : iR r_222p158p182p195p202p228p331 0 0 := iR_eqL c_225p158p182p195p202p228p331 g_222p158p182p195p202p228p331_0 (iR_c (n := 0) (a := 0) (b := 0) (by decide +kernel) (by decide +kernel)) (by decide +kernel)
                                    exact J_334p158p182p195p202p228p331   H locs ls hP hD hS (lv_sub hl [2, 0, 3, 5, 1] rfl)
                                  · have c_225p158p182p195p202p228p331 : ¬ r_222p158p182p195p202p228p331 = 0 := c_225p158p182p195p202p228p331
                                    have f_228p158p182p195p202p228p331_7 : iR r_222p158p182p195p202p228p331 1 1 := iR_neL c_225p158p182p195p202p228p331 g_222p158p182p195p202p228p331_0 (iR_c (n := 0) (a := 0) (b := 0) (by decide +kernel) (by decide +kernel)) (by decide +kernel)
                                    obtain ⟨d_225p158p182p195p202p228p331_3_0, d_225p158p182p195p202p228p331_3_1⟩ := g_222p158p182p195p202p228p331_1.resolve_left c_225p158p182p195p202p228p331
                                    have f_228p158p182p195p202p228p331_8 : iR (f0 y_328p158p182p195p202p228.toNatClampNeg) 97 255 := iR_leR d_225p158p182p195p202p228p331_3_0 (iR_c (n := 97) (a := 97) (b := 97) (by decide +kernel) (by decide +kernel)) f_221p158p182p195p202p228p331_6 (by decide +kernel)
                                    have f_228p158p182p195p202p228p331_9 : iR (f0 y_328p158p182p195p202p228.toNatClampNeg) 97 122 := iR_leL d_225p158p182p195p202p228p331_3_1 f_228p158p182p195p202p228p331_8 (iR_c (n := 122) (a := 122) (b := 122) (by decide +kernel) (by decide +kernel)) (by decide +kernel)
                                    refine lv_goto (tgt := 243) hx hb dX7_ahead_228 (by decide) ?_
                                    refine lv_iload hx hb dX7_ahead_243 (lv_at hl 1 rfl) ?_
                                    refine lv_iload hx hb dX7_ahead_245 (lv_at hl 5 rfl) ?_
                                    have J_263p158p182p195p202p228p331p228 : ∀ (j263p158p182p195p202p228p331p228_M0_12 : Int32) (hj263p158p182p195p202p228p331p228_M0_12 : iR j263p158p182p195p202p228p331p228_M0_12 (-1) 1599) (H : Heap) (locs : List Loc) (ls : Array Slot), va_P (dC, dI) vwCl [(h, .inr (7, oM r (upd (upd (upd (upd (upd i 3 1) 4 j5_L1) 5 y_153) 6 0) 12 j263p158p182p195p202p228p331p228_M0_12) (vp_updL j 7 j325p158p182p195p202p228_M0_7))), ((r 0), .inl (cI, 1800, .inl f0))] H → va_D A [(h, .inr (7, oM r (upd (upd (upd (upd (upd i 3 1) 4 j5_L1) 5 y_153) 6 0) 12 j263p158p182p195p202p228p331p228_M0_12) (vp_updL j 7 j325p158p182p195p202p228_M0_7))), ((r 0), .inl (cI, 1800, .inl f0))] → va_S A s.heap H locs → lv_has ls 6 [(0, .ref h), (1, .int y_328p158p182p195p202p228), (2, .int r_76), (3, .int r_86), (4, .int 6), (5, .int y_325p158p182p195p202p228)] → W p l e ({ frames := 2, cells := 0, slots := 0, locals := 62 }) s m args below meth c H locs 0 0 (MQ below (va_Qv (fun (u9 : SU) => ((i 5) ≤ (u9.1 1)) ∧ ((u9.1 1) ≤ (u9.1 2)) ∧ (iR (u9.1 0) 0 3) ∧ (iR (u9.1 1) 0 1600) ∧ (iR (u9.1 2) 0 1600) ∧ (iR (u9.1 3) 0 9999) ∧ (iR (u9.1 4) (-1) 1599) ∧ (TM (u9.1 2) (u9.1 0) ≤ TM (i 5) (i 3)) ∧ (((u9.1 0) = 0) ∨ (((i 5) < (u9.1 2)) ∧ ((u9.1 1) < (u9.1 2)) ∧ ((u9.1 1) < (i 2)))) ∧ (((i 3) = 0) ∨ ((TM (u9.1 2) (u9.1 0) < TM (i 5) (i 3))))) (fun u => k_B (dC, dI) vwCl (tyy cI cJ cZ cM) A ((fun (u9 : SU) => [(h, .inr (7, oM r (upd (upd (upd (upd (upd i 3 (u9.1 0)) 4 (u9.1 1)) 5 (u9.1 2)) 6 (u9.1 3)) 12 (u9.1 4)) (vp_updL j 7 (u9.2.1 0)))), ((r 0), .inl (cI, 1800, .inl f0))]) u)) A) args s 0 0 A) (F0 m 263 ls []) := by
                                      intro j263p158p182p195p202p228p331p228_M0_12 hj263p158p182p195p202p228p331p228_M0_12 H locs ls hP hD hS hl
                                      refine lv_iload hx hb dX7_ahead_263 (lv_at hl 5 rfl) ?_
                                      refine lv_bipush (v := 8) hx hb dX7_ahead_265 (by decide +kernel) ?_
                                      have J_293p158p182p195p202p228p331p228 : ∀ (j293p158p182p195p202p228p331p228_M0_7 : Int64)  (H : Heap) (locs : List Loc) (ls : Array Slot), va_P (dC, dI) vwCl [(h, .inr (7, oM r (upd (upd (upd (upd (upd i 3 1) 4 j5_L1) 5 y_153) 6 0) 12 j263p158p182p195p202p228p331p228_M0_12) (vp_updL j 7 j293p158p182p195p202p228p331p228_M0_7))), ((r 0), .inl (cI, 1800, .inl f0))] H → va_D A [(h, .inr (7, oM r (upd (upd (upd (upd (upd i 3 1) 4 j5_L1) 5 y_153) 6 0) 12 j263p158p182p195p202p228p331p228_M0_12) (vp_updL j 7 j293p158p182p195p202p228p331p228_M0_7))), ((r 0), .inl (cI, 1800, .inl f0))] → va_S A s.heap H locs → lv_has ls 6 [(0, .ref h), (1, .int y_328p158p182p195p202p228), (2, .int r_76), (3, .int r_86), (4, .int 6), (5, .int y_325p158p182p195p202p228)] → W p l e ({ frames := 2, cells := 0, slots := 0, locals := 62 }) s m args below meth c H locs 0 0 (MQ below (va_Qv (fun (u9 : SU) => ((i 5) ≤ (u9.1 1)) ∧ ((u9.1 1) ≤ (u9.1 2)) ∧ (iR (u9.1 0) 0 3) ∧ (iR (u9.1 1) 0 1600) ∧ (iR (u9.1 2) 0 1600) ∧ (iR (u9.1 3) 0 9999) ∧ (iR (u9.1 4) (-1) 1599) ∧ (TM (u9.1 2) (u9.1 0) ≤ TM (i 5) (i 3)) ∧ (((u9.1 0) = 0) ∨ (((i 5) < (u9.1 2)) ∧ ((u9.1 1) < (u9.1 2)) ∧ ((u9.1 1) < (i 2)))) ∧ (((i 3) = 0) ∨ ((TM (u9.1 2) (u9.1 0) < TM (i 5) (i 3))))) (fun u => k_B (dC, dI) vwCl (tyy cI cJ cZ cM) A ((fun (u9 : SU) => [(h, .inr (7, oM r (upd (upd (upd (upd (upd i 3 (u9.1 0)) 4 (u9.1 1)) 5 (u9.1 2)) 6 (u9.1 3)) 12 (u9.1 4)) (vp_updL j 7 (u9.2.1 0)))), ((r 0), .inl (cI, 1800, .inl f0))]) u)) A) args s 0 0 A) (F0 m 293 ls []) := by
                                        intro j293p158p182p195p202p228p331p228_M0_7  H locs ls hP hD hS hl
                                        refine lv_iload hx hb dX7_ahead_293 (lv_at hl 5 rfl) ?_
                                        refine lv_iload hx hb dX7_ahead_295 (lv_at hl 4 rfl) ?_
                                        refine lv_icmp_ge (tgt := 325) hx hb dX7_ahead_297 (by decide) (fun c_297p158p182p195p202p228p331p228 => ?_) (fun c_297p158p182p195p202p228p331p228 => ?_)
                                        · have c_297p158p182p195p202p228p331p228 : 6 ≤ y_325p158p182p195p202p228 := c_297p158p182p195p202p228p331p228
                                          have f_325p158p182p195p202p228p331p228_1 : iR y_325p158p182p195p202p228 6 1601 := iR_leR c_297p158p182p195p202p228p331p228 (iR_c (n := 6) (a := 6) (b := 6) (by decide +kernel) (by decide +kernel)) f_325p158p182p195p202p228_1 (by decide +kernel)
                                          have f_325p158p182p195p202p228p331p228_2 : iR j325p158p182p195p202p228_L5 5 1600 := iR_addB ey_325p158p182p195p202p228 hj325p158p182p195p202p228_L5 (iR_c (n := 1) (a := 1) (b := 1) (by decide +kernel) (by decide +kernel)) f_325p158p182p195p202p228p331p228_1 (by decide +kernel)
                                          exact ih_325p158p182p195p202p228 y_328p158p182p195p202p228 y_325p158p182p195p202p228 j293p158p182p195p202p228p331p228_M0_7 j263p158p182p195p202p228p331p228_M0_12 (iR_w f_212p158p182p195p202p228p331_3 (by decide +kernel)) (by have q0 : 6 ≤ y_325p158p182p195p202p228.toInt ∧ y_325p158p182p195p202p228.toInt ≤ 1601 := f_325p158p182p195p202p228p331p228_1; have q1 : 0 ≤ j5_L1.toInt ∧ j5_L1.toInt ≤ 1599 := f_70_1; have q2 : 1 ≤ y_328p158p182p195p202p228.toInt ∧ y_328p158p182p195p202p228.toInt ≤ 1599 := f_212p158p182p195p202p228p331_3; have q3 : 5 ≤ j325p158p182p195p202p228_L5.toInt ∧ j325p158p182p195p202p228_L5.toInt ≤ 1600 := f_325p158p182p195p202p228p331p228_2; have q4 : 0 ≤ j325p158p182p195p202p228_L1.toInt ∧ j325p158p182p195p202p228_L1.toInt ≤ 1598 := f_212p158p182p195p202p228p331_4; have r1 : j5_L1.toInt ≤ j325p158p182p195p202p228_L1.toInt := i_ti_le rfl rfl v325p158p182p195p202p228_1; have r2 : 6 ≤ y_325p158p182p195p202p228.toInt := i_ti_le (by decide) rfl c_297p158p182p195p202p228p331p228; show (0:Int) ≤ y_325p158p182p195p202p228.toInt ∧ y_325p158p182p195p202p228.toInt ≤ 1600; omega) hj263p158p182p195p202p228p331p228_M0_12 k325p158p182p195p202p228_0 q325p158p182p195p202p228_0 q325p158p182p195p202p228_1 (i_lestep v325p158p182p195p202p228_0 ey_328p158p182p195p202p228 f_212p158p182p195p202p228p331_4 (iR_c (n := 1) (a := 1) (b := 1) (by decide +kernel) (by decide +kernel)) (by decide +kernel)) (i_lestep v325p158p182p195p202p228_1 ey_328p158p182p195p202p228 f_212p158p182p195p202p228p331_4 (iR_c (n := 1) (a := 1) (b := 1) (by decide +kernel) (by decide +kernel)) (by decide +kernel)) c_209p158p182p195p202p228p331 (show 0 ≤ y_325p158p182p195p202p228.toInt ∧ (y_325p158p182p195p202p228.toInt = 0 → 0 ≤ 9) ∧ (y_325p158p182p195p202p228.toInt = 1 → 0 ≤ 99) ∧ (y_325p158p182p195p202p228.toInt = 2 → 0 ≤ 999) ∧ y_325p158p182p195p202p228.toInt + j5_L1.toInt = y_328p158p182p195p202p228.toInt from (by have q0 : 6 ≤ y_325p158p182p195p202p228.toInt ∧ y_325p158p182p195p202p228.toInt ≤ 1601 := f_325p158p182p195p202p228p331p228_1; have q1 : 0 ≤ j5_L1.toInt ∧ j5_L1.toInt ≤ 1599 := f_70_1; have q2 : 1 ≤ y_328p158p182p195p202p228.toInt ∧ y_328p158p182p195p202p228.toInt ≤ 1599 := f_212p158p182p195p202p228p331_3; have q3 : 5 ≤ j325p158p182p195p202p228_L5.toInt ∧ j325p158p182p195p202p228_L5.toInt ≤ 1600 := f_325p158p182p195p202p228p331p228_2; have q4 : 0 ≤ j325p158p182p195p202p228_L1.toInt ∧ j325p158p182p195p202p228_L1.toInt ≤ 1598 := f_212p158p182p195p202p228p331_4; have r1 : j5_L1.toInt ≤ j325p158p182p195p202p228_L1.toInt := i_ti_le rfl rfl v325p158p182p195p202p228_1; have r2 : 6 ≤ y_325p158p182p195p202p228.toInt := i_ti_le (by decide) rfl c_297p158p182p195p202p228p331p228; omega)) (m_up (B := 1599) hm_325p158p182p195p202p228 ey_328p158p182p195p202p228 f_212p158p182p195p202p228p331_4 (by decide +kernel)) H locs ls hP hD hS (lv_sub hl [0, 1, 2, 3, 4, 5] rfl)
                                        · have c_297p158p182p195p202p228p331p228 : y_325p158p182p195p202p228 < 6 := i_nle c_297p158p182p195p202p228p331p228
                                          have f_300p158p182p195p202p228p331p228_1 : iR y_325p158p182p195p202p228 1 5 := iR_ltL c_297p158p182p195p202p228p331p228 f_325p158p182p195p202p228_1 (iR_c (n := 6) (a := 6) (b := 6) (by decide +kernel) (by decide +kernel)) (by decide +kernel)
                                          have f_300p158p182p195p202p228p331p228_2 : iR j325p158p182p195p202p228_L5 0 4 := iR_addB ey_325p158p182p195p202p228 hj325p158p182p195p202p228_L5 (iR_c (n := 1) (a := 1) (b := 1) (by decide +kernel) (by decide +kernel)) f_300p158p182p195p202p228p331p228_1 (by decide +kernel)
                                          refine lv_iload_n hx hb dX7_ahead_300 rfl (lv_at hl 3 rfl) ?_
                                          refine lv_if_eq (tgt := 325) hx hb dX7_ahead_301 (by decide) (fun c_301p158p182p195p202p228p331p228 => ?_) (fun c_301p158p182p195p202p228p331p228 => ?_)
                                          · have c_301p158p182p195p202p228p331p228 : r_86 = 0 := c_301p158p182p195p202p228p331p228
                                            exact ih_325p158p182p195p202p228 y_328p158p182p195p202p228 y_325p158p182p195p202p228 j293p158p182p195p202p228p331p228_M0_7 j263p158p182p195p202p228p331p228_M0_12 (iR_w f_212p158p182p195p202p228p331_3 (by decide +kernel)) (iR_w f_300p158p182p195p202p228p331p228_1 (by decide +kernel)) hj263p158p182p195p202p228p331p228_M0_12 k325p158p182p195p202p228_0 c_301p158p182p195p202p228p331p228 c_301p158p182p195p202p228p331p228.symm (i_lestep v325p158p182p195p202p228_0 ey_328p158p182p195p202p228 f_212p158p182p195p202p228p331_4 (iR_c (n := 1) (a := 1) (b := 1) (by decide +kernel) (by decide +kernel)) (by decide +kernel)) (i_lestep v325p158p182p195p202p228_1 ey_328p158p182p195p202p228 f_212p158p182p195p202p228p331_4 (iR_c (n := 1) (a := 1) (b := 1) (by decide +kernel) (by decide +kernel)) (by decide +kernel)) c_209p158p182p195p202p228p331 (show 0 ≤ y_325p158p182p195p202p228.toInt ∧ (y_325p158p182p195p202p228.toInt = 0 → 0 ≤ 9) ∧ (y_325p158p182p195p202p228.toInt = 1 → 0 ≤ 99) ∧ (y_325p158p182p195p202p228.toInt = 2 → 0 ≤ 999) ∧ y_325p158p182p195p202p228.toInt + j5_L1.toInt = y_328p158p182p195p202p228.toInt from (by have q0 : 1 ≤ y_325p158p182p195p202p228.toInt ∧ y_325p158p182p195p202p228.toInt ≤ 5 := f_300p158p182p195p202p228p331p228_1; have q1 : 0 ≤ j5_L1.toInt ∧ j5_L1.toInt ≤ 1599 := f_70_1; have q2 : 1 ≤ y_328p158p182p195p202p228.toInt ∧ y_328p158p182p195p202p228.toInt ≤ 1599 := f_212p158p182p195p202p228p331_3; have q3 : 0 ≤ j325p158p182p195p202p228_L5.toInt ∧ j325p158p182p195p202p228_L5.toInt ≤ 4 := f_300p158p182p195p202p228p331p228_2; have q4 : 0 ≤ j325p158p182p195p202p228_L1.toInt ∧ j325p158p182p195p202p228_L1.toInt ≤ 1598 := f_212p158p182p195p202p228p331_4; have r1 : j5_L1.toInt ≤ j325p158p182p195p202p228_L1.toInt := i_ti_le rfl rfl v325p158p182p195p202p228_1; have r2 : y_325p158p182p195p202p228.toInt < 6 := i_ti_lt rfl (by decide) c_297p158p182p195p202p228p331p228; omega)) (m_up (B := 1599) hm_325p158p182p195p202p228 ey_328p158p182p195p202p228 f_212p158p182p195p202p228p331_4 (by decide +kernel)) H locs ls hP hD hS (lv_sub hl [0, 1, 2, 3, 4, 5] rfl)
                                          · exact absurd (i_eqc k325p158p182p195p202p228_0 (iR_c (n := 0) (a := 0) (b := 0) (by decide +kernel) (by decide +kernel))) c_301p158p182p195p202p228p331p228
                                      refine lv_icmp_ge (tgt := 293) hx hb dX7_ahead_267 (by decide) (fun c_267p158p182p195p202p228p331p228 => ?_) (fun c_267p158p182p195p202p228p331p228 => ?_)
                                      · have c_267p158p182p195p202p228p331p228 : 8 ≤ y_325p158p182p195p202p228 := c_267p158p182p195p202p228p331p228
                                        have f_293p158p182p195p202p228p331p228_1 : iR y_325p158p182p195p202p228 8 1601 := iR_leR c_267p158p182p195p202p228p331p228 (iR_c (n := 8) (a := 8) (b := 8) (by decide +kernel) (by decide +kernel)) f_325p158p182p195p202p228_1 (by decide +kernel)
                                        have f_293p158p182p195p202p228p331p228_2 : iR j325p158p182p195p202p228_L5 7 1600 := iR_addB ey_325p158p182p195p202p228 hj325p158p182p195p202p228_L5 (iR_c (n := 1) (a := 1) (b := 1) (by decide +kernel) (by decide +kernel)) f_293p158p182p195p202p228p331p228_1 (by decide +kernel)
                                        exact J_293p158p182p195p202p228p331p228 j325p158p182p195p202p228_M0_7  H locs ls hP hD hS (lv_sub hl [0, 1, 2, 3, 4, 5] rfl)
                                      · have c_267p158p182p195p202p228p331p228 : y_325p158p182p195p202p228 < 8 := i_nle c_267p158p182p195p202p228p331p228
                                        have f_270p158p182p195p202p228p331p228_1 : iR y_325p158p182p195p202p228 1 7 := iR_ltL c_267p158p182p195p202p228p331p228 f_325p158p182p195p202p228_1 (iR_c (n := 8) (a := 8) (b := 8) (by decide +kernel) (by decide +kernel)) (by decide +kernel)
                                        have f_270p158p182p195p202p228p331p228_2 : iR j325p158p182p195p202p228_L5 0 6 := iR_addB ey_325p158p182p195p202p228 hj325p158p182p195p202p228_L5 (iR_c (n := 1) (a := 1) (b := 1) (by decide +kernel) (by decide +kernel)) f_270p158p182p195p202p228p331p228_1 (by decide +kernel)
                                        refine lv_iload_n hx hb dX7_ahead_270 rfl (lv_at hl 2 rfl) ?_
                                        refine lv_if_eq (tgt := 293) hx hb dX7_ahead_271 (by decide) (fun c_271p158p182p195p202p228p331p228 => ?_) (fun c_271p158p182p195p202p228p331p228 => ?_)
                                        · exact iR_cl (iR_eqL (a' := 1) (b' := 0) c_271p158p182p195p202p228p331p228 f_176_2 (iR_c (n := 0) (a := 0) (b := 0) (by decide +kernel) (by decide +kernel)) (by decide +kernel)) (by decide +kernel)
                                        · have c_271p158p182p195p202p228p331p228 : ¬ r_76 = 0 := c_271p158p182p195p202p228p331p228
                                          refine lv_aload_n hx hb dX7_ahead_274 rfl (lv_at hl 0 rfl) ?_
                                          refine lv_aload_n hx hb dX7_ahead_275 rfl (lv_at hl 0 rfl) ?_
                                          refine k_get (D := (dC, dI)) (ci := 7) (v := .long j325p158p182p195p202p228_M0_7) (C := RX7) (T := TX7) (N := 92) hx hb hts hinX7 hown hK hP 0 rfl rfl 7 (by decide) w_7 rfl rfl dX7_ahead_276 ?_
                                          refine lv_bipush (v := 8) hx hb dX7_ahead_279 (by decide +kernel) ?_
                                          refine lv_lshl (v := j325p158p182p195p202p228_M0_7 <<< ((8 : Int32).toInt64 &&& 63)) hx hb dX7_ahead_281 rfl ?_
                                          refine lv_topl (fun y_281p158p182p195p202p228p331p228 ey_281p158p182p195p202p228p331p228 => ?_)
                                          refine lv_aload_n hx hb dX7_ahead_282 rfl (lv_at hl 0 rfl) ?_
                                          refine k_get (D := (dC, dI)) (ci := 7) (v := .ref (r 0)) (C := RX7) (T := TX7) (N := 92) hx hb hts hinX7 hown hK hP 0 rfl rfl 0 (by decide) w_5 rfl rfl dX7_ahead_283 ?_
                                          refine lv_iload_n hx hb dX7_ahead_286 rfl (lv_at hl 1 rfl) ?_
                                          refine va_iald hx hb hK hP 1 0 rfl rfl (iR_vp f_212p158p182p195p202p228p331_3 (by decide +kernel)) dX7_ahead_287 ?_
                                          refine lv_i2l (v := (f0 y_328p158p182p195p202p228.toNatClampNeg).toInt64) hx hb dX7_ahead_288 rfl ?_
                                          refine lv_topl (fun y_288p158p182p195p202p228p331p228 ey_288p158p182p195p202p228p331p228 => ?_)
                                          refine lv_lor hx hb dX7_ahead_289 ?_
                                          refine lv_topl (fun y_289p158p182p195p202p228p331p228 ey_289p158p182p195p202p228p331p228 => ?_)
                                          refine k_put (D := (dC, dI)) (ci := 7) (v := .long y_289p158p182p195p202p228p331p228) (C := RX7) (T := TX7) (N := 92) (ws' := [(h, .inr (7, oM r (upd (upd (upd (upd (upd i 3 1) 4 j5_L1) 5 y_153) 6 0) 12 j263p158p182p195p202p228p331p228_M0_12) (vp_updL j 7 y_289p158p182p195p202p228p331p228))), ((r 0), .inl (cI, 1800, .inl f0))]) hx hb hts hinX7 tyX7 tyX7_ok nmX7 hown hK hP hD hS 0 rfl rfl 7 (by decide) w_7 rfl rfl rfl rfl (Nat.le_of_ble_eq_true rfl) rfl dX7_ahead_290 (fun H locs hP hD hS => ?_)
                                          exact J_293p158p182p195p202p228p331p228 y_289p158p182p195p202p228p331p228  H locs ls hP hD hS (lv_sub hl [0, 1, 2, 3, 4, 5] rfl)
                                    refine lv_icmp_ne (tgt := 263) hx hb dX7_ahead_247 (by decide) (fun c_247p158p182p195p202p228p331p228 => ?_) (fun c_247p158p182p195p202p228p331p228 => ?_)
                                    · have c_247p158p182p195p202p228p331p228 : ¬ y_325p158p182p195p202p228 = 6 := c_247p158p182p195p202p228p331p228
                                      exact J_263p158p182p195p202p228p331p228 j325p158p182p195p202p228_M0_12 hj325p158p182p195p202p228_M0_12 H locs ls hP hD hS (lv_sub hl [2, 0, 3, 4, 5, 1] rfl)
                                    · have c_247p158p182p195p202p228p331p228 : y_325p158p182p195p202p228 = 6 := c_247p158p182p195p202p228p331p228
                                      have f_250p158p182p195p202p228p331p228_10 : iR y_325p158p182p195p202p228 6 6 := iR_eqL c_247p158p182p195p202p228p331p228 f_325p158p182p195p202p228_1 (iR_c (n := 6) (a := 6) (b := 6) (by decide +kernel) (by decide +kernel)) (by decide +kernel)
                                      have f_250p158p182p195p202p228p331p228_11 : iR j325p158p182p195p202p228_L5 5 5 := iR_addB ey_325p158p182p195p202p228 hj325p158p182p195p202p228_L5 (iR_c (n := 1) (a := 1) (b := 1) (by decide +kernel) (by decide +kernel)) f_250p158p182p195p202p228p331p228_10 (by decide +kernel)
                                      refine lv_aload_n hx hb dX7_ahead_250 rfl (lv_at hl 2 rfl) ?_
                                      refine k_get (D := (dC, dI)) (ci := 7) (v := .int j325p158p182p195p202p228_M0_12) (C := RX7) (T := TX7) (N := 92) hx hb hts hinX7 hown hK hP 0 rfl rfl 12 (by decide) w_4 rfl rfl dX7_ahead_251 ?_
                                      refine lv_iconst (v := (-1)) hx hb dX7_ahead_254 (by decide +kernel) ?_
                                      refine lv_icmp_ne (tgt := 263) hx hb dX7_ahead_255 (by decide) (fun c_255p158p182p195p202p228p331p228 => ?_) (fun c_255p158p182p195p202p228p331p228 => ?_)
                                      · have c_255p158p182p195p202p228p331p228 : ¬ j325p158p182p195p202p228_M0_12 = (-1) := c_255p158p182p195p202p228p331p228
                                        have f_263p158p182p195p202p228p331p228_12 : iR j325p158p182p195p202p228_M0_12 0 1599 := iR_neL c_255p158p182p195p202p228p331p228 hj325p158p182p195p202p228_M0_12 (iR_c (n := (-1)) (a := (-1)) (b := (-1)) (by decide +kernel) (by decide +kernel)) (by decide +kernel)
                                        exact J_263p158p182p195p202p228p331p228 j325p158p182p195p202p228_M0_12 (iR_w f_263p158p182p195p202p228p331p228_12 (by decide +kernel)) H locs ls hP hD hS (lv_sub hl [2, 0, 3, 4, 5, 1] rfl)
                                      · have c_255p158p182p195p202p228p331p228 : j325p158p182p195p202p228_M0_12 = (-1) := c_255p158p182p195p202p228p331p228
                                        have f_258p158p182p195p202p228p331p228_12 : iR j325p158p182p195p202p228_M0_12 (-1) (-1) := iR_eqL c_255p158p182p195p202p228p331p228 hj325p158p182p195p202p228_M0_12 (iR_c (n := (-1)) (a := (-1)) (b := (-1)) (by decide +kernel) (by decide +kernel)) (by decide +kernel)
                                        refine lv_aload_n hx hb dX7_ahead_258 rfl (lv_at hl 2 rfl) ?_
                                        refine lv_iload_n hx hb dX7_ahead_259 rfl (lv_at hl 0 rfl) ?_
                                        refine k_put (D := (dC, dI)) (ci := 7) (v := .int y_328p158p182p195p202p228) (C := RX7) (T := TX7) (N := 92) (ws' := [(h, .inr (7, oM r (upd (upd (upd (upd (upd i 3 1) 4 j5_L1) 5 y_153) 6 0) 12 y_328p158p182p195p202p228) (vp_updL j 7 j325p158p182p195p202p228_M0_7))), ((r 0), .inl (cI, 1800, .inl f0))]) hx hb hts hinX7 tyX7 tyX7_ok nmX7 hown hK hP hD hS 0 rfl rfl 12 (by decide) w_4 rfl rfl rfl rfl (Nat.le_of_ble_eq_true rfl) rfl dX7_ahead_260 (fun H locs hP hD hS => ?_)
                                        exact J_263p158p182p195p202p228p331p228 y_328p158p182p195p202p228 (iR_w f_212p158p182p195p202p228p331_3 (by decide +kernel)) H locs ls hP hD hS (lv_sub hl [2, 0, 3, 4, 5, 1] rfl)
                          refine lv_icmp_ge (tgt := 325) hx hb dX7_ahead_297 (by decide) (fun q9 => absurd q9 (by decide +kernel)) (fun _ => ?_)
                          refine lv_iload_n hx hb dX7_ahead_300 rfl (lv_at hl 3 rfl) ?_
                          refine lv_if_eq (tgt := 325) hx hb dX7_ahead_301 (by decide) (fun c_301p158p182p195p202p228 => ?_) (fun c_301p158p182p195p202p228 => ?_)
                          · have c_301p158p182p195p202p228 : r_86 = 0 := c_301p158p182p195p202p228
                            have f_325p158p182p195p202p228_1 : iR r_86 0 0 := iR_eqL c_301p158p182p195p202p228 g_86_0 (iR_c (n := 0) (a := 0) (b := 0) (by decide +kernel) (by decide +kernel)) (by decide +kernel)
                            exact J_325p158p182p195p202p228 _ j5_L1 0 j293p158p182p195p202p228_M0_7 j135_M0_12 f_70_1 (iR_c (n := 0) (a := 0) (b := 1600) (by decide +kernel) (by decide +kernel)) hj135_M0_12 f_325p158p182p195p202p228_1 c_301p158p182p195p202p228 c_301p158p182p195p202p228.symm v5_0 (Int32.le_refl _) c_209p158p182p195p202 (show 0 ≤ 0 ∧ (0 = 0 → 0 ≤ 9) ∧ (0 = 1 → 0 ≤ 99) ∧ (0 = 2 → 0 ≤ 999) ∧ 0 + j5_L1.toInt = j5_L1.toInt from (by have q0 : 0 ≤ j5_L1.toInt ∧ j5_L1.toInt ≤ 1599 := f_70_1; omega)) (Nat.lt_succ_self _) H locs ls hP hD hS (lv_sub hl [0, 1, 2, 3, 4, 5] rfl)
                          · have c_301p158p182p195p202p228 : ¬ r_86 = 0 := c_301p158p182p195p202p228
                            have f_304p158p182p195p202p228_1 : iR r_86 1 1 := iR_neL c_301p158p182p195p202p228 g_86_0 (iR_c (n := 0) (a := 0) (b := 0) (by decide +kernel) (by decide +kernel)) (by decide +kernel)
                            obtain ⟨d_301p158p182p195p202p228_3_0, d_301p158p182p195p202p228_3_1⟩ := g_86_1.resolve_left c_301p158p182p195p202p228
                            have f_304p158p182p195p202p228_2 : iR (f0 j5_L1.toNatClampNeg) 97 57 := iR_leL d_301p158p182p195p202p228_3_1 f_176_4 (iR_c (n := 57) (a := 57) (b := 57) (by decide +kernel) (by decide +kernel)) (by decide +kernel)
                            exact iR_cl f_304p158p182p195p202p228_2 (by decide +kernel)
                        refine lv_icmp_ge (tgt := 293) hx hb dX7_ahead_267 (by decide) (fun q9 => absurd q9 (by decide +kernel)) (fun _ => ?_)
                        refine lv_iload_n hx hb dX7_ahead_270 rfl (lv_at hl 2 rfl) ?_
                        refine lv_if_eq (tgt := 293) hx hb dX7_ahead_271 (by decide) (fun c_271p158p182p195p202p228 => ?_) (fun c_271p158p182p195p202p228 => ?_)
                        · exact iR_cl (iR_eqL (a' := 1) (b' := 0) c_271p158p182p195p202p228 f_176_2 (iR_c (n := 0) (a := 0) (b := 0) (by decide +kernel) (by decide +kernel)) (by decide +kernel)) (by decide +kernel)
                        · have c_271p158p182p195p202p228 : ¬ r_76 = 0 := c_271p158p182p195p202p228
                          refine lv_aload_n hx hb dX7_ahead_274 rfl (lv_at hl 0 rfl) ?_
                          refine lv_aload_n hx hb dX7_ahead_275 rfl (lv_at hl 0 rfl) ?_
                          refine k_get (D := (dC, dI)) (ci := 7) (v := .long 0) (C := RX7) (T := TX7) (N := 92) hx hb hts hinX7 hown hK hP 0 rfl rfl 7 (by decide) w_7 rfl rfl dX7_ahead_276 ?_
                          refine lv_bipush (v := 8) hx hb dX7_ahead_279 (by decide +kernel) ?_
                          refine lv_lshl (v := 0 <<< ((8 : Int32).toInt64 &&& 63)) hx hb dX7_ahead_281 rfl ?_
                          refine lv_topl (fun y_281p158p182p195p202p228 ey_281p158p182p195p202p228 => ?_)
                          refine lv_aload_n hx hb dX7_ahead_282 rfl (lv_at hl 0 rfl) ?_
                          refine k_get (D := (dC, dI)) (ci := 7) (v := .ref (r 0)) (C := RX7) (T := TX7) (N := 92) hx hb hts hinX7 hown hK hP 0 rfl rfl 0 (by decide) w_5 rfl rfl dX7_ahead_283 ?_
                          refine lv_iload_n hx hb dX7_ahead_286 rfl (lv_at hl 1 rfl) ?_
                          refine va_iald hx hb hK hP 1 0 rfl rfl (iR_vp f_70_1 (by decide +kernel)) dX7_ahead_287 ?_
                          refine lv_i2l (v := (f0 j5_L1.toNatClampNeg).toInt64) hx hb dX7_ahead_288 rfl ?_
                          refine lv_topl (fun y_288p158p182p195p202p228 ey_288p158p182p195p202p228 => ?_)
                          refine lv_lor hx hb dX7_ahead_289 ?_
                          refine lv_topl (fun y_289p158p182p195p202p228 ey_289p158p182p195p202p228 => ?_)
                          refine k_put (D := (dC, dI)) (ci := 7) (v := .long y_289p158p182p195p202p228) (C := RX7) (T := TX7) (N := 92) (ws' := [(h, .inr (7, oM r (upd (upd (upd (upd (upd i 3 1) 4 j5_L1) 5 y_153) 6 0) 12 j135_M0_12) (vp_updL j 7 y_289p158p182p195p202p228))), ((r 0), .inl (cI, 1800, .inl f0))]) hx hb hts hinX7 tyX7 tyX7_ok nmX7 hown hK hP hD hS 0 rfl rfl 7 (by decide) w_7 rfl rfl rfl rfl (Nat.le_of_ble_eq_true rfl) rfl dX7_ahead_290 (fun H locs hP hD hS => ?_)
                          exact J_293p158p182p195p202p228 y_289p158p182p195p202p228  H locs ls hP hD hS (lv_sub hl [0, 1, 2, 3, 4, 5] rfl)
                      refine lv_icmp_ne (tgt := 263) hx hb dX7_ahead_247 (by decide) (fun _ => ?_) (fun q9 => absurd q9 (by decide +kernel))
                      exact J_263p158p182p195p202p228   H locs ls hP hD hS (lv_sub hl [2, 3, 4, 5, 1, 0] rfl)
            · have c_158 : r_76 = 0 := c_158
              have f_161_2 : iR r_76 0 0 := iR_eqL c_158 g_76_0 (iR_c (n := 0) (a := 0) (b := 0) (by decide +kernel) (by decide +kernel)) (by decide +kernel)
              refine lv_iload_n hx hb dX7_ahead_161 rfl (lv_at hl 3 rfl) ?_
              refine lv_if_ne (tgt := 176) hx hb dX7_ahead_162 (by decide) (fun c_162 => ?_) (fun c_162 => ?_)
              · have c_162 : ¬ r_86 = 0 := c_162
                have f_176_3 : iR r_86 1 1 := iR_neL c_162 g_86_0 (iR_c (n := 0) (a := 0) (b := 0) (by decide +kernel) (by decide +kernel)) (by decide +kernel)
                obtain ⟨d_162_1_0, d_162_1_1⟩ := g_86_1.resolve_left c_162
                have f_176_4 : iR (f0 j5_L1.toNatClampNeg) 48 255 := iR_leR d_162_1_0 (iR_c (n := 48) (a := 48) (b := 48) (by decide +kernel) (by decide +kernel)) f_75_3 (by decide +kernel)
                have f_176_5 : iR (f0 j5_L1.toNatClampNeg) 48 57 := iR_leL d_162_1_1 f_176_4 (iR_c (n := 57) (a := 57) (b := 57) (by decide +kernel) (by decide +kernel)) (by decide +kernel)
                refine lv_aload_n hx hb dX7_ahead_176 rfl (lv_at hl 0 rfl) ?_
                refine lv_iload_n hx hb dX7_ahead_177 rfl (lv_at hl 2 rfl) ?_
                refine lv_if_eq (tgt := 185) hx hb dX7_ahead_178 (by decide) (fun c_178p162 => ?_) (fun c_178p162 => ?_)
                · have c_178p162 : r_76 = 0 := c_178p162
                  refine lv_iconst (v := 2) hx hb dX7_ahead_185 (by decide +kernel) ?_
                  refine k_put (D := (dC, dI)) (ci := 7) (v := .int 2) (C := RX7) (T := TX7) (N := 92) (ws' := [(h, .inr (7, oM r (upd (upd (upd (upd (upd i 3 2) 4 j5_L1) 5 y_153) 6 0) 12 j135_M0_12) (vp_updL j 7 0))), ((r 0), .inl (cI, 1800, .inl f0))]) hx hb hts hinX7 tyX7 tyX7_ok nmX7 hown hK hP hD hS 0 rfl rfl 3 (by decide) w_3 rfl rfl rfl rfl (Nat.le_of_ble_eq_true rfl) rfl dX7_ahead_186 (fun H locs hP hD hS => ?_)
                  refine lv_iload_n hx hb dX7_ahead_189 rfl (lv_at hl 2 rfl) ?_
                  refine lv_if_eq (tgt := 198) hx hb dX7_ahead_190 (by decide) (fun c_190p162p185 => ?_) (fun c_190p162p185 => ?_)
                  · have c_190p162p185 : r_76 = 0 := c_190p162p185
                    refine lv_iconst (v := 4) hx hb dX7_ahead_198 (by decide +kernel) ?_
                    refine lv_istore (lv' := [(4, .int 4), (0, .ref h), (1, .int j5_L1), (2, .int r_76), (3, .int r_86)]) hx hb dX7_ahead_199 hl (by decide) rfl (fun ls hl => ?_)
                    refine lv_iconst (v := 0) hx hb dX7_ahead_201 (by decide +kernel) ?_
                    refine lv_istore (lv' := [(5, .int 0), (4, .int 4), (0, .ref h), (1, .int j5_L1), (2, .int r_76), (3, .int r_86)]) hx hb dX7_ahead_202 hl (by decide) rfl (fun ls hl => ?_)
                    refine lv_iload_n hx hb dX7_ahead_204 rfl (lv_at hl 3 rfl) ?_
                    refine lv_aload_n hx hb dX7_ahead_205 rfl (lv_at hl 2 rfl) ?_
                    refine k_get (D := (dC, dI)) (ci := 7) (v := .int (i 2)) (C := RX7) (T := TX7) (N := 92) hx hb hts hinX7 hown hK hP 0 rfl rfl 2 (by decide) w_1 rfl rfl dX7_ahead_206 ?_
                    refine lv_icmp_ge (tgt := 334) hx hb dX7_ahead_209 (by decide) (fun c_209p162p185p198p202 => ?_) (fun c_209p162p185p198p202 => ?_)
                    · exact (i_noall (by have r0 : j5_L1.toInt < (i 2).toInt := i_ti_lt rfl rfl c_66; have r1 : (i 2).toInt ≤ j5_L1.toInt := i_ti_le rfl rfl c_209p162p185p198p202; omega)).elim
                    · have c_209p162p185p198p202 : j5_L1 < (i 2) := i_nle c_209p162p185p198p202
                      refine lv_iload_n hx hb dX7_ahead_212 rfl (lv_at hl 4 rfl) ?_
                      refine lv_if_eq (tgt := 231) hx hb dX7_ahead_213 (by decide) (fun c_213p162p185p198p202 => ?_) (fun c_213p162p185p198p202 => ?_)
                      · have c_213p162p185p198p202 : r_76 = 0 := c_213p162p185p198p202
                        refine lv_aload_n hx hb dX7_ahead_231 rfl (lv_at hl 2 rfl) ?_
                        refine k_get (D := (dC, dI)) (ci := 7) (v := .ref (r 0)) (C := RX7) (T := TX7) (N := 92) hx hb hts hinX7 hown hK hP 0 rfl rfl 0 (by decide) w_5 rfl rfl dX7_ahead_232 ?_
                        refine lv_iload_n hx hb dX7_ahead_235 rfl (lv_at hl 3 rfl) ?_
                        refine va_iald hx hb hK hP 1 0 rfl rfl (iR_vp f_70_1 (by decide +kernel)) dX7_ahead_236 ?_
                        refine k_ci (wc := []) (wr := [(h, .inr (7, oM r (upd (upd (upd (upd (upd i 3 2) 4 j5_L1) 5 y_153) 6 0) 12 j135_M0_12) (vp_updL j 7 0))), ((r 0), .inl (cI, 1800, .inl f0))]) (fun hPc hDc hFc => va_runS (As := [.int (f0 j5_L1.toNatClampNeg)]) (rest := []) ⟨hx, hb, hml, hown, hts⟩ (s_X7_isDigit_v1 l dC dI cI cJ cZ cM (f0 j5_L1.toNatClampNeg) f_176_5 H.size) (va_cwS 1 hts gX7_ahead_X7_isDigit rfl rfl rfl (by decide +kernel) ⟨(Nat.le_of_ble_eq_true rfl), (Nat.le_of_ble_eq_true rfl)⟩) (k_pS hPc hDc hK hN hC hS hFc) rfl rfl hl.1 rfl (lv_room (Nat.le_of_ble_eq_true rfl)) dX7_ahead_237 ⟨(Nat.le_of_ble_eq_true rfl), (Nat.le_of_ble_eq_true rfl)⟩) hP hD hS hA [] [0, 1] rfl rfl rfl rfl (by decide) (fun _ => rfl) 0 0 rfl rfl (fun r_237p162p185p198p202 u_237p162p185p198p202 H locs hw hP hD hS => ?_)
                        obtain ⟨g_237p162p185p198p202_0, g_237p162p185p198p202_1⟩ := hw
                        obtain rfl : r_237p162p185p198p202 = 1 := g_237p162p185p198p202_0
                        have hP : va_P (dC, dI) vwCl [(h, .inr (7, oM r (upd (upd (upd (upd (upd i 3 2) 4 j5_L1) 5 y_153) 6 0) 12 j135_M0_12) (vp_updL j 7 0))), ((r 0), .inl (cI, 1800, .inl f0))] H := hP
                        have hD : va_D A [(h, .inr (7, oM r (upd (upd (upd (upd (upd i 3 2) 4 j5_L1) 5 y_153) 6 0) 12 j135_M0_12) (vp_updL j 7 0))), ((r 0), .inl (cI, 1800, .inl f0))] := hD
                        obtain ⟨d237p162p185p198p202_2_0, d237p162p185p198p202_2_1⟩ := g_237p162p185p198p202_1.resolve_left (i_nef (iR_c (n := 1) (a := 1) (b := 1) (by decide +kernel) (by decide +kernel)) (iR_c (n := 0) (a := 0) (b := 0) (by decide +kernel) (by decide +kernel)) (by decide +kernel))
                        refine lv_if_eq (tgt := 334) hx hb dX7_ahead_240 (by decide) (fun q9 => absurd q9 (by decide +kernel)) (fun _ => ?_)
                        refine lv_iload hx hb dX7_ahead_243 (lv_at hl 0 rfl) ?_
                        refine lv_iload hx hb dX7_ahead_245 (lv_at hl 1 rfl) ?_
                        have J_263p162p185p198p202p240 : ∀   (H : Heap) (locs : List Loc) (ls : Array Slot), va_P (dC, dI) vwCl [(h, .inr (7, oM r (upd (upd (upd (upd (upd i 3 2) 4 j5_L1) 5 y_153) 6 0) 12 j135_M0_12) (vp_updL j 7 0))), ((r 0), .inl (cI, 1800, .inl f0))] H → va_D A [(h, .inr (7, oM r (upd (upd (upd (upd (upd i 3 2) 4 j5_L1) 5 y_153) 6 0) 12 j135_M0_12) (vp_updL j 7 0))), ((r 0), .inl (cI, 1800, .inl f0))] → va_S A s.heap H locs → lv_has ls 6 [(0, .ref h), (1, .int j5_L1), (2, .int r_76), (3, .int r_86), (4, .int 4), (5, .int 0)] → W p l e ({ frames := 2, cells := 0, slots := 0, locals := 62 }) s m args below meth c H locs 0 0 (MQ below (va_Qv (fun (u9 : SU) => ((i 5) ≤ (u9.1 1)) ∧ ((u9.1 1) ≤ (u9.1 2)) ∧ (iR (u9.1 0) 0 3) ∧ (iR (u9.1 1) 0 1600) ∧ (iR (u9.1 2) 0 1600) ∧ (iR (u9.1 3) 0 9999) ∧ (iR (u9.1 4) (-1) 1599) ∧ (TM (u9.1 2) (u9.1 0) ≤ TM (i 5) (i 3)) ∧ (((u9.1 0) = 0) ∨ (((i 5) < (u9.1 2)) ∧ ((u9.1 1) < (u9.1 2)) ∧ ((u9.1 1) < (i 2)))) ∧ (((i 3) = 0) ∨ ((TM (u9.1 2) (u9.1 0) < TM (i 5) (i 3))))) (fun u => k_B (dC, dI) vwCl (tyy cI cJ cZ cM) A ((fun (u9 : SU) => [(h, .inr (7, oM r (upd (upd (upd (upd (upd i 3 (u9.1 0)) 4 (u9.1 1)) 5 (u9.1 2)) 6 (u9.1 3)) 12 (u9.1 4)) (vp_updL j 7 (u9.2.1 0)))), ((r 0), .inl (cI, 1800, .inl f0))]) u)) A) args s 0 0 A) (F0 m 263 ls []) := by
                          intro   H locs ls hP hD hS hl
                          refine lv_iload hx hb dX7_ahead_263 (lv_at hl 5 rfl) ?_
                          refine lv_bipush (v := 8) hx hb dX7_ahead_265 (by decide +kernel) ?_
                          have J_293p162p185p198p202p240 : ∀   (H : Heap) (locs : List Loc) (ls : Array Slot), va_P (dC, dI) vwCl [(h, .inr (7, oM r (upd (upd (upd (upd (upd i 3 2) 4 j5_L1) 5 y_153) 6 0) 12 j135_M0_12) (vp_updL j 7 0))), ((r 0), .inl (cI, 1800, .inl f0))] H → va_D A [(h, .inr (7, oM r (upd (upd (upd (upd (upd i 3 2) 4 j5_L1) 5 y_153) 6 0) 12 j135_M0_12) (vp_updL j 7 0))), ((r 0), .inl (cI, 1800, .inl f0))] → va_S A s.heap H locs → lv_has ls 6 [(0, .ref h), (1, .int j5_L1), (2, .int r_76), (3, .int r_86), (4, .int 4), (5, .int 0)] → W p l e ({ frames := 2, cells := 0, slots := 0, locals := 62 }) s m args below meth c H locs 0 0 (MQ below (va_Qv (fun (u9 : SU) => ((i 5) ≤ (u9.1 1)) ∧ ((u9.1 1) ≤ (u9.1 2)) ∧ (iR (u9.1 0) 0 3) ∧ (iR (u9.1 1) 0 1600) ∧ (iR (u9.1 2) 0 1600) ∧ (iR (u9.1 3) 0 9999) ∧ (iR (u9.1 4) (-1) 1599) ∧ (TM (u9.1 2) (u9.1 0) ≤ TM (i 5) (i 3)) ∧ (((u9.1 0) = 0) ∨ (((i 5) < (u9.1 2)) ∧ ((u9.1 1) < (u9.1 2)) ∧ ((u9.1 1) < (i 2)))) ∧ (((i 3) = 0) ∨ ((TM (u9.1 2) (u9.1 0) < TM (i 5) (i 3))))) (fun u => k_B (dC, dI) vwCl (tyy cI cJ cZ cM) A ((fun (u9 : SU) => [(h, .inr (7, oM r (upd (upd (upd (upd (upd i 3 (u9.1 0)) 4 (u9.1 1)) 5 (u9.1 2)) 6 (u9.1 3)) 12 (u9.1 4)) (vp_updL j 7 (u9.2.1 0)))), ((r 0), .inl (cI, 1800, .inl f0))]) u)) A) args s 0 0 A) (F0 m 293 ls []) := by
                            intro   H locs ls hP hD hS hl
                            refine lv_iload hx hb dX7_ahead_293 (lv_at hl 5 rfl) ?_
                            refine lv_iload hx hb dX7_ahead_295 (lv_at hl 4 rfl) ?_
                            have J_325p162p185p198p202p240 : ∀ (n_325p162p185p198p202p240 : Nat) (j325p162p185p198p202p240_L1 : Int32) (j325p162p185p198p202p240_L5 : Int32) (j325p162p185p198p202p240_M0_6 : Int32) (j325p162p185p198p202p240_M0_12 : Int32) (hj325p162p185p198p202p240_L1 : iR j325p162p185p198p202p240_L1 0 1599) (hj325p162p185p198p202p240_L5 : iR j325p162p185p198p202p240_L5 0 1600) (hj325p162p185p198p202p240_M0_6 : iR j325p162p185p198p202p240_M0_6 0 9999) (hj325p162p185p198p202p240_M0_12 : iR j325p162p185p198p202p240_M0_12 (-1) 1599) (v325p162p185p198p202p240_0 : (i 5) ≤ j325p162p185p198p202p240_L1) (v325p162p185p198p202p240_1 : j5_L1 ≤ j325p162p185p198p202p240_L1) (v325p162p185p198p202p240_2 : j325p162p185p198p202p240_L1 < (i 2)) (p325p162p185p198p202p240_0 : 0 ≤ j325p162p185p198p202p240_L5.toInt ∧ (j325p162p185p198p202p240_L5.toInt = 0 → j325p162p185p198p202p240_M0_6.toInt ≤ 9) ∧ (j325p162p185p198p202p240_L5.toInt = 1 → j325p162p185p198p202p240_M0_6.toInt ≤ 99) ∧ (j325p162p185p198p202p240_L5.toInt = 2 → j325p162p185p198p202p240_M0_6.toInt ≤ 999) ∧ j325p162p185p198p202p240_L5.toInt + j5_L1.toInt = j325p162p185p198p202p240_L1.toInt) (hm_325p162p185p198p202p240 : (1599 - j325p162p185p198p202p240_L1.toInt).toNat < n_325p162p185p198p202p240) (H : Heap) (locs : List Loc) (ls : Array Slot), va_P (dC, dI) vwCl [(h, .inr (7, oM r (upd (upd (upd (upd (upd i 3 2) 4 j5_L1) 5 y_153) 6 j325p162p185p198p202p240_M0_6) 12 j325p162p185p198p202p240_M0_12) (vp_updL j 7 0))), ((r 0), .inl (cI, 1800, .inl f0))] H → va_D A [(h, .inr (7, oM r (upd (upd (upd (upd (upd i 3 2) 4 j5_L1) 5 y_153) 6 j325p162p185p198p202p240_M0_6) 12 j325p162p185p198p202p240_M0_12) (vp_updL j 7 0))), ((r 0), .inl (cI, 1800, .inl f0))] → va_S A s.heap H locs → lv_has ls 6 [(0, .ref h), (1, .int j325p162p185p198p202p240_L1), (2, .int r_76), (3, .int r_86), (4, .int 4), (5, .int j325p162p185p198p202p240_L5)] → W p l e ({ frames := 2, cells := 0, slots := 0, locals := 62 }) s m args below meth c H locs 0 0 (MQ below (va_Qv (fun (u9 : SU) => ((i 5) ≤ (u9.1 1)) ∧ ((u9.1 1) ≤ (u9.1 2)) ∧ (iR (u9.1 0) 0 3) ∧ (iR (u9.1 1) 0 1600) ∧ (iR (u9.1 2) 0 1600) ∧ (iR (u9.1 3) 0 9999) ∧ (iR (u9.1 4) (-1) 1599) ∧ (TM (u9.1 2) (u9.1 0) ≤ TM (i 5) (i 3)) ∧ (((u9.1 0) = 0) ∨ (((i 5) < (u9.1 2)) ∧ ((u9.1 1) < (u9.1 2)) ∧ ((u9.1 1) < (i 2)))) ∧ (((i 3) = 0) ∨ ((TM (u9.1 2) (u9.1 0) < TM (i 5) (i 3))))) (fun u => k_B (dC, dI) vwCl (tyy cI cJ cZ cM) A ((fun (u9 : SU) => [(h, .inr (7, oM r (upd (upd (upd (upd (upd i 3 (u9.1 0)) 4 (u9.1 1)) 5 (u9.1 2)) 6 (u9.1 3)) 12 (u9.1 4)) (vp_updL j 7 (u9.2.1 0)))), ((r 0), .inl (cI, 1800, .inl f0))]) u)) A) args s 0 0 A) (F0 m 325 ls []) := by
                              intro n_325p162p185p198p202p240
                              induction n_325p162p185p198p202p240 with
                              | zero => intro j325p162p185p198p202p240_L1 j325p162p185p198p202p240_L5 j325p162p185p198p202p240_M0_6 j325p162p185p198p202p240_M0_12 hj325p162p185p198p202p240_L1 hj325p162p185p198p202p240_L5 hj325p162p185p198p202p240_M0_6 hj325p162p185p198p202p240_M0_12 v325p162p185p198p202p240_0 v325p162p185p198p202p240_1 v325p162p185p198p202p240_2 p325p162p185p198p202p240_0 hm_325p162p185p198p202p240; exact absurd hm_325p162p185p198p202p240 (Nat.not_lt_zero _)
                              | succ n_325p162p185p198p202p240 ih_325p162p185p198p202p240 =>
                                intro j325p162p185p198p202p240_L1 j325p162p185p198p202p240_L5 j325p162p185p198p202p240_M0_6 j325p162p185p198p202p240_M0_12 hj325p162p185p198p202p240_L1 hj325p162p185p198p202p240_L5 hj325p162p185p198p202p240_M0_6 hj325p162p185p198p202p240_M0_12 v325p162p185p198p202p240_0 v325p162p185p198p202p240_1 v325p162p185p198p202p240_2 p325p162p185p198p202p240_0 hm_325p162p185p198p202p240 H locs ls hP hD hS hl
                                obtain ⟨y_325p162p185p198p202p240, ey_325p162p185p198p202p240⟩ : ∃ y : Int32, y = j325p162p185p198p202p240_L5 + 1 := ⟨_, rfl⟩
                                refine lv_iinc (v := y_325p162p185p198p202p240) (lv' := [(5, .int y_325p162p185p198p202p240), (0, .ref h), (1, .int j325p162p185p198p202p240_L1), (2, .int r_76), (3, .int r_86), (4, .int 4)]) hx hb dX7_ahead_325 hl (k := 5) rfl ey_325p162p185p198p202p240.symm (by decide) rfl (fun ls hl => ?_)
                                have f_325p162p185p198p202p240_1 : iR y_325p162p185p198p202p240 1 1601 := iR_add ey_325p162p185p198p202p240 hj325p162p185p198p202p240_L5 (iR_c (n := 1) (a := 1) (b := 1) (by decide +kernel) (by decide +kernel)) (by decide +kernel)
                                have xy_325p162p185p198p202p240 : y_325p162p185p198p202p240.toInt = j325p162p185p198p202p240_L5.toInt + 1 := i_add ey_325p162p185p198p202p240 hj325p162p185p198p202p240_L5 (iR_c (n := 1) (a := 1) (b := 1) (by decide +kernel) (by decide +kernel)) (by decide +kernel)
                                obtain ⟨y_328p162p185p198p202p240, ey_328p162p185p198p202p240⟩ : ∃ y : Int32, y = j325p162p185p198p202p240_L1 + 1 := ⟨_, rfl⟩
                                refine lv_iinc (v := y_328p162p185p198p202p240) (lv' := [(1, .int y_328p162p185p198p202p240), (5, .int y_325p162p185p198p202p240), (0, .ref h), (2, .int r_76), (3, .int r_86), (4, .int 4)]) hx hb dX7_ahead_328 hl (k := 2) rfl ey_328p162p185p198p202p240.symm (by decide) rfl (fun ls hl => ?_)
                                have f_328p162p185p198p202p240_2 : iR y_328p162p185p198p202p240 1 1600 := iR_add ey_328p162p185p198p202p240 hj325p162p185p198p202p240_L1 (iR_c (n := 1) (a := 1) (b := 1) (by decide +kernel) (by decide +kernel)) (by decide +kernel)
                                have xy_328p162p185p198p202p240 : y_328p162p185p198p202p240.toInt = j325p162p185p198p202p240_L1.toInt + 1 := i_add ey_328p162p185p198p202p240 hj325p162p185p198p202p240_L1 (iR_c (n := 1) (a := 1) (b := 1) (by decide +kernel) (by decide +kernel)) (by decide +kernel)
                                refine lv_goto (tgt := 204) hx hb dX7_ahead_331 (by decide) ?_
                                refine lv_iload_n hx hb dX7_ahead_204 rfl (lv_at hl 0 rfl) ?_
                                refine lv_aload_n hx hb dX7_ahead_205 rfl (lv_at hl 2 rfl) ?_
                                refine k_get (D := (dC, dI)) (ci := 7) (v := .int (i 2)) (C := RX7) (T := TX7) (N := 92) hx hb hts hinX7 hown hK hP 0 rfl rfl 2 (by decide) w_1 rfl rfl dX7_ahead_206 ?_
                                have J_334p162p185p198p202p240p331 : ∀   (H : Heap) (locs : List Loc) (ls : Array Slot), va_P (dC, dI) vwCl [(h, .inr (7, oM r (upd (upd (upd (upd (upd i 3 2) 4 j5_L1) 5 y_153) 6 j325p162p185p198p202p240_M0_6) 12 j325p162p185p198p202p240_M0_12) (vp_updL j 7 0))), ((r 0), .inl (cI, 1800, .inl f0))] H → va_D A [(h, .inr (7, oM r (upd (upd (upd (upd (upd i 3 2) 4 j5_L1) 5 y_153) 6 j325p162p185p198p202p240_M0_6) 12 j325p162p185p198p202p240_M0_12) (vp_updL j 7 0))), ((r 0), .inl (cI, 1800, .inl f0))] → va_S A s.heap H locs → lv_has ls 6 [(0, .ref h), (1, .int y_328p162p185p198p202p240), (2, .int r_76), (4, .int 4), (5, .int y_325p162p185p198p202p240)] → W p l e ({ frames := 2, cells := 0, slots := 0, locals := 62 }) s m args below meth c H locs 0 0 (MQ below (va_Qv (fun (u9 : SU) => ((i 5) ≤ (u9.1 1)) ∧ ((u9.1 1) ≤ (u9.1 2)) ∧ (iR (u9.1 0) 0 3) ∧ (iR (u9.1 1) 0 1600) ∧ (iR (u9.1 2) 0 1600) ∧ (iR (u9.1 3) 0 9999) ∧ (iR (u9.1 4) (-1) 1599) ∧ (TM (u9.1 2) (u9.1 0) ≤ TM (i 5) (i 3)) ∧ (((u9.1 0) = 0) ∨ (((i 5) < (u9.1 2)) ∧ ((u9.1 1) < (u9.1 2)) ∧ ((u9.1 1) < (i 2)))) ∧ (((i 3) = 0) ∨ ((TM (u9.1 2) (u9.1 0) < TM (i 5) (i 3))))) (fun u => k_B (dC, dI) vwCl (tyy cI cJ cZ cM) A ((fun (u9 : SU) => [(h, .inr (7, oM r (upd (upd (upd (upd (upd i 3 (u9.1 0)) 4 (u9.1 1)) 5 (u9.1 2)) 6 (u9.1 3)) 12 (u9.1 4)) (vp_updL j 7 (u9.2.1 0)))), ((r 0), .inl (cI, 1800, .inl f0))]) u)) A) args s 0 0 A) (F0 m 334 ls []) := by
                                  intro   H locs ls hP hD hS hl
                                  refine lv_aload_n hx hb dX7_ahead_334 rfl (lv_at hl 0 rfl) ?_
                                  refine lv_iload_n hx hb dX7_ahead_335 rfl (lv_at hl 1 rfl) ?_
                                  refine k_put (D := (dC, dI)) (ci := 7) (v := .int y_328p162p185p198p202p240) (C := RX7) (T := TX7) (N := 92) (ws' := [(h, .inr (7, oM r (upd (upd (upd (upd (upd i 3 2) 4 j5_L1) 5 y_328p162p185p198p202p240) 6 j325p162p185p198p202p240_M0_6) 12 j325p162p185p198p202p240_M0_12) (vp_updL j 7 0))), ((r 0), .inl (cI, 1800, .inl f0))]) hx hb hts hinX7 tyX7 tyX7_ok nmX7 hown hK hP hD hS 0 rfl rfl 5 (by decide) w_0 rfl rfl rfl rfl (Nat.le_of_ble_eq_true rfl) rfl dX7_ahead_336 (fun H locs hP hD hS => ?_)
                                  refine lv_iload_n hx hb dX7_ahead_339 rfl (lv_at hl 2 rfl) ?_
                                  refine lv_if_eq (tgt := 380) hx hb dX7_ahead_340 (by decide) (fun c_340p162p185p198p202p240p331 => ?_) (fun c_340p162p185p198p202p240p331 => ?_)
                                  · have c_340p162p185p198p202p240p331 : r_76 = 0 := c_340p162p185p198p202p240p331
                                    exact k_rv B hP hD hS dX7_ahead_380 ((fun k9 => match k9 with | 0 => 2 | 1 => j5_L1 | 2 => y_328p162p185p198p202p240 | 3 => j325p162p185p198p202p240_M0_6 | 4 => j325p162p185p198p202p240_M0_12 | _ => 0), (fun k9 => match k9 with | 0 => 0 | _ => 0), (fun _ => (fun _ => 0)), (fun _ => (fun _ => 0)), (fun _ => 0)) [0, 1] rfl rfl (Nat.le_of_ble_eq_true rfl) (Nat.le_of_ble_eq_true rfl) ⟨(show (i 5) ≤ j5_L1 from v5_0), (show j5_L1 ≤ y_328p162p185p198p202p240 from (i_lestep v325p162p185p198p202p240_1 ey_328p162p185p198p202p240 hj325p162p185p198p202p240_L1 (iR_c (n := 1) (a := 1) (b := 1) (by decide +kernel) (by decide +kernel)) (by decide +kernel))), (show iR 2 0 3 from (iR_c (n := 2) (a := 0) (b := 3) (by decide +kernel) (by decide +kernel))), (show iR j5_L1 0 1600 from (iR_w f_70_1 (by decide +kernel))), (show iR y_328p162p185p198p202p240 0 1600 from (iR_w f_328p162p185p198p202p240_2 (by decide +kernel))), (show iR j325p162p185p198p202p240_M0_6 0 9999 from hj325p162p185p198p202p240_M0_6), (show iR j325p162p185p198p202p240_M0_12 (-1) 1599 from hj325p162p185p198p202p240_M0_12), (show TM y_328p162p185p198p202p240 2 ≤ TM (i 5) (i 3) from (by have r1 : (i 5).toInt < y_328p162p185p198p202p240.toInt := i_ti_lt rfl rfl (i_ltstep v325p162p185p198p202p240_0 ey_328p162p185p198p202p240 hj325p162p185p198p202p240_L1 (iR_c (n := 1) (a := 1) (b := 1) (by decide +kernel) (by decide +kernel)) (by decide +kernel)); unfold TM; rw [if_neg (show ¬ (2 : Int32).toInt = 0 by decide)]; split <;> omega)), (show (2 = 0) ∨ (((i 5) < y_328p162p185p198p202p240) ∧ (j5_L1 < y_328p162p185p198p202p240) ∧ (j5_L1 < (i 2))) from (Or.inr ⟨(i_ltstep v325p162p185p198p202p240_0 ey_328p162p185p198p202p240 hj325p162p185p198p202p240_L1 (iR_c (n := 1) (a := 1) (b := 1) (by decide +kernel) (by decide +kernel)) (by decide +kernel)), (i_ltstep v325p162p185p198p202p240_1 ey_328p162p185p198p202p240 hj325p162p185p198p202p240_L1 (iR_c (n := 1) (a := 1) (b := 1) (by decide +kernel) (by decide +kernel)) (by decide +kernel)), c_209p162p185p198p202⟩)), (show ((i 3) = 0) ∨ ((TM y_328p162p185p198p202p240 2 < TM (i 5) (i 3))) from (by have r1 : (i 5).toInt < y_328p162p185p198p202p240.toInt := i_ti_lt rfl rfl (i_ltstep v325p162p185p198p202p240_0 ey_328p162p185p198p202p240 hj325p162p185p198p202p240_L1 (iR_c (n := 1) (a := 1) (b := 1) (by decide +kernel) (by decide +kernel)) (by decide +kernel)); by_cases z : (i 3) = 0; exact Or.inl z; refine Or.inr ?_; have z2 : ¬ (i 3).toInt = 0 := i_ti_ne rfl (by decide) z; unfold TM; rw [if_neg z2]; rw [if_neg (show ¬ (2 : Int32).toInt = 0 by decide)]; omega))⟩
                                  · exact absurd (i_eqc f_161_2 (iR_c (n := 0) (a := 0) (b := 0) (by decide +kernel) (by decide +kernel))) c_340p162p185p198p202p240p331
                                refine lv_icmp_ge (tgt := 334) hx hb dX7_ahead_209 (by decide) (fun c_209p162p185p198p202p240p331 => ?_) (fun c_209p162p185p198p202p240p331 => ?_)
                                · have c_209p162p185p198p202p240p331 : (i 2) ≤ y_328p162p185p198p202p240 := c_209p162p185p198p202p240p331
                                  exact J_334p162p185p198p202p240p331   H locs ls hP hD hS (lv_sub hl [2, 0, 3, 5, 1] rfl)
                                · have c_209p162p185p198p202p240p331 : y_328p162p185p198p202p240 < (i 2) := i_nle c_209p162p185p198p202p240p331
                                  have f_212p162p185p198p202p240p331_3 : iR y_328p162p185p198p202p240 1 1599 := iR_ltL c_209p162p185p198p202p240p331 f_328p162p185p198p202p240_2 f_70_2 (by decide +kernel)
                                  have f_212p162p185p198p202p240p331_4 : iR j325p162p185p198p202p240_L1 0 1598 := iR_addB ey_328p162p185p198p202p240 hj325p162p185p198p202p240_L1 (iR_c (n := 1) (a := 1) (b := 1) (by decide +kernel) (by decide +kernel)) f_212p162p185p198p202p240p331_3 (by decide +kernel)
                                  have f_212p162p185p198p202p240p331_5 : iR (i 2) 2 1600 := iR_ltR c_209p162p185p198p202p240p331 f_328p162p185p198p202p240_2 f_70_2 (by decide +kernel)
                                  refine lv_iload_n hx hb dX7_ahead_212 rfl (lv_at hl 3 rfl) ?_
                                  refine lv_if_eq (tgt := 231) hx hb dX7_ahead_213 (by decide) (fun c_213p162p185p198p202p240p331 => ?_) (fun c_213p162p185p198p202p240p331 => ?_)
                                  · have c_213p162p185p198p202p240p331 : r_76 = 0 := c_213p162p185p198p202p240p331
                                    refine lv_aload_n hx hb dX7_ahead_231 rfl (lv_at hl 2 rfl) ?_
                                    refine k_get (D := (dC, dI)) (ci := 7) (v := .ref (r 0)) (C := RX7) (T := TX7) (N := 92) hx hb hts hinX7 hown hK hP 0 rfl rfl 0 (by decide) w_5 rfl rfl dX7_ahead_232 ?_
                                    refine lv_iload_n hx hb dX7_ahead_235 rfl (lv_at hl 0 rfl) ?_
                                    refine va_iald hx hb hK hP 1 0 rfl rfl (iR_vp f_212p162p185p198p202p240p331_3 (by decide +kernel)) dX7_ahead_236 ?_
                                    have f_236p162p185p198p202p240p331_6 : iR (f0 y_328p162p185p198p202p240.toNatClampNeg) 0 255 := hf0 _
                                    refine k_ci (wc := []) (wr := [(h, .inr (7, oM r (upd (upd (upd (upd (upd i 3 2) 4 j5_L1) 5 y_153) 6 j325p162p185p198p202p240_M0_6) 12 j325p162p185p198p202p240_M0_12) (vp_updL j 7 0))), ((r 0), .inl (cI, 1800, .inl f0))]) (fun hPc hDc hFc => va_runS (As := [.int (f0 y_328p162p185p198p202p240.toNatClampNeg)]) (rest := []) ⟨hx, hb, hml, hown, hts⟩ (s_X7_isDigit_v0 l dC dI cI cJ cZ cM (f0 y_328p162p185p198p202p240.toNatClampNeg) H.size) (va_cwS 1 hts gX7_ahead_X7_isDigit rfl rfl rfl (by decide +kernel) ⟨(Nat.le_of_ble_eq_true rfl), (Nat.le_of_ble_eq_true rfl)⟩) (k_pS hPc hDc hK hN hC hS hFc) rfl rfl hl.1 rfl (lv_room (Nat.le_of_ble_eq_true rfl)) dX7_ahead_237 ⟨(Nat.le_of_ble_eq_true rfl), (Nat.le_of_ble_eq_true rfl)⟩) hP hD hS hA [] [0, 1] rfl rfl rfl rfl (by decide) (fun _ => rfl) 0 0 rfl rfl (fun r_237p162p185p198p202p240p331 u_237p162p185p198p202p240p331 H locs hw hP hD hS => ?_)
                                    obtain ⟨g_237p162p185p198p202p240p331_0, g_237p162p185p198p202p240p331_1⟩ := hw
                                    have hP : va_P (dC, dI) vwCl [(h, .inr (7, oM r (upd (upd (upd (upd (upd i 3 2) 4 j5_L1) 5 y_153) 6 j325p162p185p198p202p240_M0_6) 12 j325p162p185p198p202p240_M0_12) (vp_updL j 7 0))), ((r 0), .inl (cI, 1800, .inl f0))] H := hP
                                    have hD : va_D A [(h, .inr (7, oM r (upd (upd (upd (upd (upd i 3 2) 4 j5_L1) 5 y_153) 6 j325p162p185p198p202p240_M0_6) 12 j325p162p185p198p202p240_M0_12) (vp_updL j 7 0))), ((r 0), .inl (cI, 1800, .inl f0))] := hD
                                    have g_237p162p185p198p202p240p331_1 : (r_237p162p185p198p202p240p331 = 0) ∨ ((48 ≤ (f0 y_328p162p185p198p202p240.toNatClampNeg)) ∧ ((f0 y_328p162p185p198p202p240.toNatClampNeg) ≤ 57)) := g_237p162p185p198p202p240p331_1
                                    refine lv_if_eq (tgt := 334) hx hb dX7_ahead_240 (by decide) (fun c_240p162p185p198p202p240p331 => ?_) (fun c_240p162p185p198p202p240p331 => ?_)
                                    · have c_240p162p185p198p202p240p331 : r_237p162p185p198p202p240p331 = 0 := c_240p162p185p198p202p240p331
                                      have f_334p162p185p198p202p240p331_7 : iR r_237p162p185p198p202p240p331 0 0 := iR_eqL c_240p162p185p198p202p240p331 g_237p162p185p198p202p240p331_0 (iR_c (n := 0) (a := 0) (b := 0) (by decide +kernel) (by decide +kernel)) (by decide +kernel)
                                      exact J_334p162p185p198p202p240p331   H locs ls hP hD hS (lv_sub hl [2, 0, 3, 5, 1] rfl)
                                    · have c_240p162p185p198p202p240p331 : ¬ r_237p162p185p198p202p240p331 = 0 := c_240p162p185p198p202p240p331
                                      have f_243p162p185p198p202p240p331_7 : iR r_237p162p185p198p202p240p331 1 1 := iR_neL c_240p162p185p198p202p240p331 g_237p162p185p198p202p240p331_0 (iR_c (n := 0) (a := 0) (b := 0) (by decide +kernel) (by decide +kernel)) (by decide +kernel)
                                      obtain ⟨d_240p162p185p198p202p240p331_3_0, d_240p162p185p198p202p240p331_3_1⟩ := g_237p162p185p198p202p240p331_1.resolve_left c_240p162p185p198p202p240p331
                                      have f_243p162p185p198p202p240p331_8 : iR (f0 y_328p162p185p198p202p240.toNatClampNeg) 48 255 := iR_leR d_240p162p185p198p202p240p331_3_0 (iR_c (n := 48) (a := 48) (b := 48) (by decide +kernel) (by decide +kernel)) f_236p162p185p198p202p240p331_6 (by decide +kernel)
                                      have f_243p162p185p198p202p240p331_9 : iR (f0 y_328p162p185p198p202p240.toNatClampNeg) 48 57 := iR_leL d_240p162p185p198p202p240p331_3_1 f_243p162p185p198p202p240p331_8 (iR_c (n := 57) (a := 57) (b := 57) (by decide +kernel) (by decide +kernel)) (by decide +kernel)
                                      refine lv_iload hx hb dX7_ahead_243 (lv_at hl 1 rfl) ?_
                                      refine lv_iload hx hb dX7_ahead_245 (lv_at hl 5 rfl) ?_
                                      have J_263p162p185p198p202p240p331p240 : ∀ (j263p162p185p198p202p240p331p240_M0_12 : Int32) (hj263p162p185p198p202p240p331p240_M0_12 : iR j263p162p185p198p202p240p331p240_M0_12 (-1) 1599) (H : Heap) (locs : List Loc) (ls : Array Slot), va_P (dC, dI) vwCl [(h, .inr (7, oM r (upd (upd (upd (upd (upd i 3 2) 4 j5_L1) 5 y_153) 6 j325p162p185p198p202p240_M0_6) 12 j263p162p185p198p202p240p331p240_M0_12) (vp_updL j 7 0))), ((r 0), .inl (cI, 1800, .inl f0))] H → va_D A [(h, .inr (7, oM r (upd (upd (upd (upd (upd i 3 2) 4 j5_L1) 5 y_153) 6 j325p162p185p198p202p240_M0_6) 12 j263p162p185p198p202p240p331p240_M0_12) (vp_updL j 7 0))), ((r 0), .inl (cI, 1800, .inl f0))] → va_S A s.heap H locs → lv_has ls 6 [(0, .ref h), (1, .int y_328p162p185p198p202p240), (2, .int r_76), (3, .int r_86), (4, .int 4), (5, .int y_325p162p185p198p202p240)] → W p l e ({ frames := 2, cells := 0, slots := 0, locals := 62 }) s m args below meth c H locs 0 0 (MQ below (va_Qv (fun (u9 : SU) => ((i 5) ≤ (u9.1 1)) ∧ ((u9.1 1) ≤ (u9.1 2)) ∧ (iR (u9.1 0) 0 3) ∧ (iR (u9.1 1) 0 1600) ∧ (iR (u9.1 2) 0 1600) ∧ (iR (u9.1 3) 0 9999) ∧ (iR (u9.1 4) (-1) 1599) ∧ (TM (u9.1 2) (u9.1 0) ≤ TM (i 5) (i 3)) ∧ (((u9.1 0) = 0) ∨ (((i 5) < (u9.1 2)) ∧ ((u9.1 1) < (u9.1 2)) ∧ ((u9.1 1) < (i 2)))) ∧ (((i 3) = 0) ∨ ((TM (u9.1 2) (u9.1 0) < TM (i 5) (i 3))))) (fun u => k_B (dC, dI) vwCl (tyy cI cJ cZ cM) A ((fun (u9 : SU) => [(h, .inr (7, oM r (upd (upd (upd (upd (upd i 3 (u9.1 0)) 4 (u9.1 1)) 5 (u9.1 2)) 6 (u9.1 3)) 12 (u9.1 4)) (vp_updL j 7 (u9.2.1 0)))), ((r 0), .inl (cI, 1800, .inl f0))]) u)) A) args s 0 0 A) (F0 m 263 ls []) := by
                                        intro j263p162p185p198p202p240p331p240_M0_12 hj263p162p185p198p202p240p331p240_M0_12 H locs ls hP hD hS hl
                                        refine lv_iload hx hb dX7_ahead_263 (lv_at hl 5 rfl) ?_
                                        refine lv_bipush (v := 8) hx hb dX7_ahead_265 (by decide +kernel) ?_
                                        have J_293p162p185p198p202p240p331p240 : ∀   (H : Heap) (locs : List Loc) (ls : Array Slot), va_P (dC, dI) vwCl [(h, .inr (7, oM r (upd (upd (upd (upd (upd i 3 2) 4 j5_L1) 5 y_153) 6 j325p162p185p198p202p240_M0_6) 12 j263p162p185p198p202p240p331p240_M0_12) (vp_updL j 7 0))), ((r 0), .inl (cI, 1800, .inl f0))] H → va_D A [(h, .inr (7, oM r (upd (upd (upd (upd (upd i 3 2) 4 j5_L1) 5 y_153) 6 j325p162p185p198p202p240_M0_6) 12 j263p162p185p198p202p240p331p240_M0_12) (vp_updL j 7 0))), ((r 0), .inl (cI, 1800, .inl f0))] → va_S A s.heap H locs → lv_has ls 6 [(0, .ref h), (1, .int y_328p162p185p198p202p240), (2, .int r_76), (3, .int r_86), (4, .int 4), (5, .int y_325p162p185p198p202p240)] → W p l e ({ frames := 2, cells := 0, slots := 0, locals := 62 }) s m args below meth c H locs 0 0 (MQ below (va_Qv (fun (u9 : SU) => ((i 5) ≤ (u9.1 1)) ∧ ((u9.1 1) ≤ (u9.1 2)) ∧ (iR (u9.1 0) 0 3) ∧ (iR (u9.1 1) 0 1600) ∧ (iR (u9.1 2) 0 1600) ∧ (iR (u9.1 3) 0 9999) ∧ (iR (u9.1 4) (-1) 1599) ∧ (TM (u9.1 2) (u9.1 0) ≤ TM (i 5) (i 3)) ∧ (((u9.1 0) = 0) ∨ (((i 5) < (u9.1 2)) ∧ ((u9.1 1) < (u9.1 2)) ∧ ((u9.1 1) < (i 2)))) ∧ (((i 3) = 0) ∨ ((TM (u9.1 2) (u9.1 0) < TM (i 5) (i 3))))) (fun u => k_B (dC, dI) vwCl (tyy cI cJ cZ cM) A ((fun (u9 : SU) => [(h, .inr (7, oM r (upd (upd (upd (upd (upd i 3 (u9.1 0)) 4 (u9.1 1)) 5 (u9.1 2)) 6 (u9.1 3)) 12 (u9.1 4)) (vp_updL j 7 (u9.2.1 0)))), ((r 0), .inl (cI, 1800, .inl f0))]) u)) A) args s 0 0 A) (F0 m 293 ls []) := by
                                          intro   H locs ls hP hD hS hl
                                          refine lv_iload hx hb dX7_ahead_293 (lv_at hl 5 rfl) ?_
                                          refine lv_iload hx hb dX7_ahead_295 (lv_at hl 4 rfl) ?_
                                          refine lv_icmp_ge (tgt := 325) hx hb dX7_ahead_297 (by decide) (fun c_297p162p185p198p202p240p331p240 => ?_) (fun c_297p162p185p198p202p240p331p240 => ?_)
                                          · have c_297p162p185p198p202p240p331p240 : 4 ≤ y_325p162p185p198p202p240 := c_297p162p185p198p202p240p331p240
                                            have f_325p162p185p198p202p240p331p240_1 : iR y_325p162p185p198p202p240 4 1601 := iR_leR c_297p162p185p198p202p240p331p240 (iR_c (n := 4) (a := 4) (b := 4) (by decide +kernel) (by decide +kernel)) f_325p162p185p198p202p240_1 (by decide +kernel)
                                            have f_325p162p185p198p202p240p331p240_2 : iR j325p162p185p198p202p240_L5 3 1600 := iR_addB ey_325p162p185p198p202p240 hj325p162p185p198p202p240_L5 (iR_c (n := 1) (a := 1) (b := 1) (by decide +kernel) (by decide +kernel)) f_325p162p185p198p202p240p331p240_1 (by decide +kernel)
                                            exact ih_325p162p185p198p202p240 y_328p162p185p198p202p240 y_325p162p185p198p202p240 j325p162p185p198p202p240_M0_6 j263p162p185p198p202p240p331p240_M0_12 (iR_w f_212p162p185p198p202p240p331_3 (by decide +kernel)) (by have q0 : 4 ≤ y_325p162p185p198p202p240.toInt ∧ y_325p162p185p198p202p240.toInt ≤ 1601 := f_325p162p185p198p202p240p331p240_1; have q1 : 0 ≤ j325p162p185p198p202p240_M0_6.toInt ∧ j325p162p185p198p202p240_M0_6.toInt ≤ 9999 := hj325p162p185p198p202p240_M0_6; have q2 : 0 ≤ j5_L1.toInt ∧ j5_L1.toInt ≤ 1599 := f_70_1; have q3 : 1 ≤ y_328p162p185p198p202p240.toInt ∧ y_328p162p185p198p202p240.toInt ≤ 1599 := f_212p162p185p198p202p240p331_3; have q4 : 3 ≤ j325p162p185p198p202p240_L5.toInt ∧ j325p162p185p198p202p240_L5.toInt ≤ 1600 := f_325p162p185p198p202p240p331p240_2; have q5 : 0 ≤ j325p162p185p198p202p240_L1.toInt ∧ j325p162p185p198p202p240_L1.toInt ≤ 1598 := f_212p162p185p198p202p240p331_4; have r1 : j5_L1.toInt ≤ j325p162p185p198p202p240_L1.toInt := i_ti_le rfl rfl v325p162p185p198p202p240_1; have r2 : 4 ≤ y_325p162p185p198p202p240.toInt := i_ti_le (by decide) rfl c_297p162p185p198p202p240p331p240; show (0:Int) ≤ y_325p162p185p198p202p240.toInt ∧ y_325p162p185p198p202p240.toInt ≤ 1600; omega) hj325p162p185p198p202p240_M0_6 hj263p162p185p198p202p240p331p240_M0_12 (i_lestep v325p162p185p198p202p240_0 ey_328p162p185p198p202p240 f_212p162p185p198p202p240p331_4 (iR_c (n := 1) (a := 1) (b := 1) (by decide +kernel) (by decide +kernel)) (by decide +kernel)) (i_lestep v325p162p185p198p202p240_1 ey_328p162p185p198p202p240 f_212p162p185p198p202p240p331_4 (iR_c (n := 1) (a := 1) (b := 1) (by decide +kernel) (by decide +kernel)) (by decide +kernel)) c_209p162p185p198p202p240p331 (show 0 ≤ y_325p162p185p198p202p240.toInt ∧ (y_325p162p185p198p202p240.toInt = 0 → j325p162p185p198p202p240_M0_6.toInt ≤ 9) ∧ (y_325p162p185p198p202p240.toInt = 1 → j325p162p185p198p202p240_M0_6.toInt ≤ 99) ∧ (y_325p162p185p198p202p240.toInt = 2 → j325p162p185p198p202p240_M0_6.toInt ≤ 999) ∧ y_325p162p185p198p202p240.toInt + j5_L1.toInt = y_328p162p185p198p202p240.toInt from (by have q0 : 4 ≤ y_325p162p185p198p202p240.toInt ∧ y_325p162p185p198p202p240.toInt ≤ 1601 := f_325p162p185p198p202p240p331p240_1; have q1 : 0 ≤ j325p162p185p198p202p240_M0_6.toInt ∧ j325p162p185p198p202p240_M0_6.toInt ≤ 9999 := hj325p162p185p198p202p240_M0_6; have q2 : 0 ≤ j5_L1.toInt ∧ j5_L1.toInt ≤ 1599 := f_70_1; have q3 : 1 ≤ y_328p162p185p198p202p240.toInt ∧ y_328p162p185p198p202p240.toInt ≤ 1599 := f_212p162p185p198p202p240p331_3; have q4 : 3 ≤ j325p162p185p198p202p240_L5.toInt ∧ j325p162p185p198p202p240_L5.toInt ≤ 1600 := f_325p162p185p198p202p240p331p240_2; have q5 : 0 ≤ j325p162p185p198p202p240_L1.toInt ∧ j325p162p185p198p202p240_L1.toInt ≤ 1598 := f_212p162p185p198p202p240p331_4; have r1 : j5_L1.toInt ≤ j325p162p185p198p202p240_L1.toInt := i_ti_le rfl rfl v325p162p185p198p202p240_1; have r2 : 4 ≤ y_325p162p185p198p202p240.toInt := i_ti_le (by decide) rfl c_297p162p185p198p202p240p331p240; omega)) (m_up (B := 1599) hm_325p162p185p198p202p240 ey_328p162p185p198p202p240 f_212p162p185p198p202p240p331_4 (by decide +kernel)) H locs ls hP hD hS (lv_sub hl [0, 1, 2, 3, 4, 5] rfl)
                                          · have c_297p162p185p198p202p240p331p240 : y_325p162p185p198p202p240 < 4 := i_nle c_297p162p185p198p202p240p331p240
                                            have f_300p162p185p198p202p240p331p240_1 : iR y_325p162p185p198p202p240 1 3 := iR_ltL c_297p162p185p198p202p240p331p240 f_325p162p185p198p202p240_1 (iR_c (n := 4) (a := 4) (b := 4) (by decide +kernel) (by decide +kernel)) (by decide +kernel)
                                            have f_300p162p185p198p202p240p331p240_2 : iR j325p162p185p198p202p240_L5 0 2 := iR_addB ey_325p162p185p198p202p240 hj325p162p185p198p202p240_L5 (iR_c (n := 1) (a := 1) (b := 1) (by decide +kernel) (by decide +kernel)) f_300p162p185p198p202p240p331p240_1 (by decide +kernel)
                                            refine lv_iload_n hx hb dX7_ahead_300 rfl (lv_at hl 3 rfl) ?_
                                            refine lv_if_eq (tgt := 325) hx hb dX7_ahead_301 (by decide) (fun c_301p162p185p198p202p240p331p240 => ?_) (fun c_301p162p185p198p202p240p331p240 => ?_)
                                            · exact iR_cl (iR_eqL (a' := 1) (b' := 0) c_301p162p185p198p202p240p331p240 f_176_3 (iR_c (n := 0) (a := 0) (b := 0) (by decide +kernel) (by decide +kernel)) (by decide +kernel)) (by decide +kernel)
                                            · have c_301p162p185p198p202p240p331p240 : ¬ r_86 = 0 := c_301p162p185p198p202p240p331p240
                                              refine lv_aload_n hx hb dX7_ahead_304 rfl (lv_at hl 0 rfl) ?_
                                              refine lv_bipush (v := 10) hx hb dX7_ahead_305 (by decide +kernel) ?_
                                              refine lv_aload_n hx hb dX7_ahead_307 rfl (lv_at hl 0 rfl) ?_
                                              refine k_get (D := (dC, dI)) (ci := 7) (v := .int j325p162p185p198p202p240_M0_6) (C := RX7) (T := TX7) (N := 92) hx hb hts hinX7 hown hK hP 0 rfl rfl 6 (by decide) w_6 rfl rfl dX7_ahead_308 ?_
                                              refine lv_imul hx hb dX7_ahead_311 ?_
                                              refine lv_topi (fun y_311p162p185p198p202p240p331p240 ey_311p162p185p198p202p240p331p240 => ?_)
                                              have xy_311p162p185p198p202p240p331p240 : y_311p162p185p198p202p240p331p240.toInt = 10 * j325p162p185p198p202p240_M0_6.toInt := i_mul ey_311p162p185p198p202p240p331p240 (iR_c (n := 10) (a := 10) (b := 10) (by decide +kernel) (by decide +kernel)) hj325p162p185p198p202p240_M0_6 (by decide +kernel)
                                              have f_311p162p185p198p202p240p331p240_3 : iR y_311p162p185p198p202p240p331p240 0 99990 := iR_mul ey_311p162p185p198p202p240p331p240 (iR_c (n := 10) (a := 10) (b := 10) (by decide +kernel) (by decide +kernel)) hj325p162p185p198p202p240_M0_6 (by decide +kernel)
                                              refine lv_aload_n hx hb dX7_ahead_312 rfl (lv_at hl 0 rfl) ?_
                                              refine k_get (D := (dC, dI)) (ci := 7) (v := .ref (r 0)) (C := RX7) (T := TX7) (N := 92) hx hb hts hinX7 hown hK hP 0 rfl rfl 0 (by decide) w_5 rfl rfl dX7_ahead_313 ?_
                                              refine lv_iload_n hx hb dX7_ahead_316 rfl (lv_at hl 1 rfl) ?_
                                              refine va_iald hx hb hK hP 1 0 rfl rfl (iR_vp f_212p162p185p198p202p240p331_3 (by decide +kernel)) dX7_ahead_317 ?_
                                              refine lv_iadd hx hb dX7_ahead_318 ?_
                                              refine lv_topi (fun y_318p162p185p198p202p240p331p240 ey_318p162p185p198p202p240p331p240 => ?_)
                                              have xy_318p162p185p198p202p240p331p240 : y_318p162p185p198p202p240p331p240.toInt = y_311p162p185p198p202p240p331p240.toInt + (f0 y_328p162p185p198p202p240.toNatClampNeg).toInt := i_add ey_318p162p185p198p202p240p331p240 f_311p162p185p198p202p240p331p240_3 f_243p162p185p198p202p240p331_9 (by decide +kernel)
                                              have f_318p162p185p198p202p240p331p240_4 : iR y_318p162p185p198p202p240p331p240 48 100047 := iR_add ey_318p162p185p198p202p240p331p240 f_311p162p185p198p202p240p331p240_3 f_243p162p185p198p202p240p331_9 (by decide +kernel)
                                              refine lv_bipush (v := 48) hx hb dX7_ahead_319 (by decide +kernel) ?_
                                              refine lv_isub hx hb dX7_ahead_321 ?_
                                              refine lv_topi (fun y_321p162p185p198p202p240p331p240 ey_321p162p185p198p202p240p331p240 => ?_)
                                              have xy_321p162p185p198p202p240p331p240 : y_321p162p185p198p202p240p331p240.toInt = y_318p162p185p198p202p240p331p240.toInt - 48 := i_sub ey_321p162p185p198p202p240p331p240 f_318p162p185p198p202p240p331p240_4 (iR_c (n := 48) (a := 48) (b := 48) (by decide +kernel) (by decide +kernel)) (by decide +kernel)
                                              have f_321p162p185p198p202p240p331p240_5 : iR y_321p162p185p198p202p240p331p240 0 99999 := iR_sub ey_321p162p185p198p202p240p331p240 f_318p162p185p198p202p240p331p240_4 (iR_c (n := 48) (a := 48) (b := 48) (by decide +kernel) (by decide +kernel)) (by decide +kernel)
                                              refine k_put (D := (dC, dI)) (ci := 7) (v := .int y_321p162p185p198p202p240p331p240) (C := RX7) (T := TX7) (N := 92) (ws' := [(h, .inr (7, oM r (upd (upd (upd (upd (upd i 3 2) 4 j5_L1) 5 y_153) 6 y_321p162p185p198p202p240p331p240) 12 j263p162p185p198p202p240p331p240_M0_12) (vp_updL j 7 0))), ((r 0), .inl (cI, 1800, .inl f0))]) hx hb hts hinX7 tyX7 tyX7_ok nmX7 hown hK hP hD hS 0 rfl rfl 6 (by decide) w_6 rfl rfl rfl rfl (Nat.le_of_ble_eq_true rfl) rfl dX7_ahead_322 (fun H locs hP hD hS => ?_)
                                              exact ih_325p162p185p198p202p240 y_328p162p185p198p202p240 y_325p162p185p198p202p240 y_321p162p185p198p202p240p331p240 j263p162p185p198p202p240p331p240_M0_12 (iR_w f_212p162p185p198p202p240p331_3 (by decide +kernel)) (iR_w f_300p162p185p198p202p240p331p240_1 (by decide +kernel)) (by have q0 : 1 ≤ y_325p162p185p198p202p240.toInt ∧ y_325p162p185p198p202p240.toInt ≤ 3 := f_300p162p185p198p202p240p331p240_1; have q1 : 0 ≤ y_321p162p185p198p202p240p331p240.toInt ∧ y_321p162p185p198p202p240p331p240.toInt ≤ 99999 := f_321p162p185p198p202p240p331p240_5; have q2 : 0 ≤ j5_L1.toInt ∧ j5_L1.toInt ≤ 1599 := f_70_1; have q3 : 1 ≤ y_328p162p185p198p202p240.toInt ∧ y_328p162p185p198p202p240.toInt ≤ 1599 := f_212p162p185p198p202p240p331_3; have q4 : 48 ≤ y_318p162p185p198p202p240p331p240.toInt ∧ y_318p162p185p198p202p240p331p240.toInt ≤ 100047 := f_318p162p185p198p202p240p331p240_4; have q5 : 0 ≤ y_311p162p185p198p202p240p331p240.toInt ∧ y_311p162p185p198p202p240p331p240.toInt ≤ 99990 := f_311p162p185p198p202p240p331p240_3; have q6 : 48 ≤ (f0 y_328p162p185p198p202p240.toNatClampNeg).toInt ∧ (f0 y_328p162p185p198p202p240.toNatClampNeg).toInt ≤ 57 := f_243p162p185p198p202p240p331_9; have q7 : 0 ≤ j325p162p185p198p202p240_M0_6.toInt ∧ j325p162p185p198p202p240_M0_6.toInt ≤ 9999 := hj325p162p185p198p202p240_M0_6; have q8 : 0 ≤ j325p162p185p198p202p240_L5.toInt ∧ j325p162p185p198p202p240_L5.toInt ≤ 2 := f_300p162p185p198p202p240p331p240_2; have q9 : 0 ≤ j325p162p185p198p202p240_L1.toInt ∧ j325p162p185p198p202p240_L1.toInt ≤ 1598 := f_212p162p185p198p202p240p331_4; have r1 : j5_L1.toInt ≤ j325p162p185p198p202p240_L1.toInt := i_ti_le rfl rfl v325p162p185p198p202p240_1; have r2 : 48 ≤ (f0 y_328p162p185p198p202p240.toNatClampNeg).toInt := i_ti_le (by decide) rfl d_240p162p185p198p202p240p331_3_0; have r3 : (f0 y_328p162p185p198p202p240.toNatClampNeg).toInt ≤ 57 := i_ti_le rfl (by decide) d_240p162p185p198p202p240p331_3_1; have r4 : y_325p162p185p198p202p240.toInt < 4 := i_ti_lt rfl (by decide) c_297p162p185p198p202p240p331p240; show (0:Int) ≤ y_321p162p185p198p202p240p331p240.toInt ∧ y_321p162p185p198p202p240p331p240.toInt ≤ 9999; omega) hj263p162p185p198p202p240p331p240_M0_12 (i_lestep v325p162p185p198p202p240_0 ey_328p162p185p198p202p240 f_212p162p185p198p202p240p331_4 (iR_c (n := 1) (a := 1) (b := 1) (by decide +kernel) (by decide +kernel)) (by decide +kernel)) (i_lestep v325p162p185p198p202p240_1 ey_328p162p185p198p202p240 f_212p162p185p198p202p240p331_4 (iR_c (n := 1) (a := 1) (b := 1) (by decide +kernel) (by decide +kernel)) (by decide +kernel)) c_209p162p185p198p202p240p331 (show 0 ≤ y_325p162p185p198p202p240.toInt ∧ (y_325p162p185p198p202p240.toInt = 0 → y_321p162p185p198p202p240p331p240.toInt ≤ 9) ∧ (y_325p162p185p198p202p240.toInt = 1 → y_321p162p185p198p202p240p331p240.toInt ≤ 99) ∧ (y_325p162p185p198p202p240.toInt = 2 → y_321p162p185p198p202p240p331p240.toInt ≤ 999) ∧ y_325p162p185p198p202p240.toInt + j5_L1.toInt = y_328p162p185p198p202p240.toInt from (by have q0 : 1 ≤ y_325p162p185p198p202p240.toInt ∧ y_325p162p185p198p202p240.toInt ≤ 3 := f_300p162p185p198p202p240p331p240_1; have q1 : 0 ≤ y_321p162p185p198p202p240p331p240.toInt ∧ y_321p162p185p198p202p240p331p240.toInt ≤ 99999 := f_321p162p185p198p202p240p331p240_5; have q2 : 0 ≤ j5_L1.toInt ∧ j5_L1.toInt ≤ 1599 := f_70_1; have q3 : 1 ≤ y_328p162p185p198p202p240.toInt ∧ y_328p162p185p198p202p240.toInt ≤ 1599 := f_212p162p185p198p202p240p331_3; have q4 : 48 ≤ y_318p162p185p198p202p240p331p240.toInt ∧ y_318p162p185p198p202p240p331p240.toInt ≤ 100047 := f_318p162p185p198p202p240p331p240_4; have q5 : 0 ≤ y_311p162p185p198p202p240p331p240.toInt ∧ y_311p162p185p198p202p240p331p240.toInt ≤ 99990 := f_311p162p185p198p202p240p331p240_3; have q6 : 48 ≤ (f0 y_328p162p185p198p202p240.toNatClampNeg).toInt ∧ (f0 y_328p162p185p198p202p240.toNatClampNeg).toInt ≤ 57 := f_243p162p185p198p202p240p331_9; have q7 : 0 ≤ j325p162p185p198p202p240_M0_6.toInt ∧ j325p162p185p198p202p240_M0_6.toInt ≤ 9999 := hj325p162p185p198p202p240_M0_6; have q8 : 0 ≤ j325p162p185p198p202p240_L5.toInt ∧ j325p162p185p198p202p240_L5.toInt ≤ 2 := f_300p162p185p198p202p240p331p240_2; have q9 : 0 ≤ j325p162p185p198p202p240_L1.toInt ∧ j325p162p185p198p202p240_L1.toInt ≤ 1598 := f_212p162p185p198p202p240p331_4; have r1 : j5_L1.toInt ≤ j325p162p185p198p202p240_L1.toInt := i_ti_le rfl rfl v325p162p185p198p202p240_1; have r2 : 48 ≤ (f0 y_328p162p185p198p202p240.toNatClampNeg).toInt := i_ti_le (by decide) rfl d_240p162p185p198p202p240p331_3_0; have r3 : (f0 y_328p162p185p198p202p240.toNatClampNeg).toInt ≤ 57 := i_ti_le rfl (by decide) d_240p162p185p198p202p240p331_3_1; have r4 : y_325p162p185p198p202p240.toInt < 4 := i_ti_lt rfl (by decide) c_297p162p185p198p202p240p331p240; omega)) (m_up (B := 1599) hm_325p162p185p198p202p240 ey_328p162p185p198p202p240 f_212p162p185p198p202p240p331_4 (by decide +kernel)) H locs ls hP hD hS (lv_sub hl [0, 1, 2, 3, 4, 5] rfl)
                                        refine lv_icmp_ge (tgt := 293) hx hb dX7_ahead_267 (by decide) (fun c_267p162p185p198p202p240p331p240 => ?_) (fun c_267p162p185p198p202p240p331p240 => ?_)
                                        · have c_267p162p185p198p202p240p331p240 : 8 ≤ y_325p162p185p198p202p240 := c_267p162p185p198p202p240p331p240
                                          have f_293p162p185p198p202p240p331p240_1 : iR y_325p162p185p198p202p240 8 1601 := iR_leR c_267p162p185p198p202p240p331p240 (iR_c (n := 8) (a := 8) (b := 8) (by decide +kernel) (by decide +kernel)) f_325p162p185p198p202p240_1 (by decide +kernel)
                                          have f_293p162p185p198p202p240p331p240_2 : iR j325p162p185p198p202p240_L5 7 1600 := iR_addB ey_325p162p185p198p202p240 hj325p162p185p198p202p240_L5 (iR_c (n := 1) (a := 1) (b := 1) (by decide +kernel) (by decide +kernel)) f_293p162p185p198p202p240p331p240_1 (by decide +kernel)
                                          exact J_293p162p185p198p202p240p331p240   H locs ls hP hD hS (lv_sub hl [0, 1, 2, 3, 4, 5] rfl)
                                        · have c_267p162p185p198p202p240p331p240 : y_325p162p185p198p202p240 < 8 := i_nle c_267p162p185p198p202p240p331p240
                                          have f_270p162p185p198p202p240p331p240_1 : iR y_325p162p185p198p202p240 1 7 := iR_ltL c_267p162p185p198p202p240p331p240 f_325p162p185p198p202p240_1 (iR_c (n := 8) (a := 8) (b := 8) (by decide +kernel) (by decide +kernel)) (by decide +kernel)
                                          have f_270p162p185p198p202p240p331p240_2 : iR j325p162p185p198p202p240_L5 0 6 := iR_addB ey_325p162p185p198p202p240 hj325p162p185p198p202p240_L5 (iR_c (n := 1) (a := 1) (b := 1) (by decide +kernel) (by decide +kernel)) f_270p162p185p198p202p240p331p240_1 (by decide +kernel)
                                          refine lv_iload_n hx hb dX7_ahead_270 rfl (lv_at hl 2 rfl) ?_
                                          refine lv_if_eq (tgt := 293) hx hb dX7_ahead_271 (by decide) (fun c_271p162p185p198p202p240p331p240 => ?_) (fun c_271p162p185p198p202p240p331p240 => ?_)
                                          · have c_271p162p185p198p202p240p331p240 : r_76 = 0 := c_271p162p185p198p202p240p331p240
                                            exact J_293p162p185p198p202p240p331p240   H locs ls hP hD hS (lv_sub hl [0, 1, 2, 3, 4, 5] rfl)
                                          · exact absurd (i_eqc f_161_2 (iR_c (n := 0) (a := 0) (b := 0) (by decide +kernel) (by decide +kernel))) c_271p162p185p198p202p240p331p240
                                      refine lv_icmp_ne (tgt := 263) hx hb dX7_ahead_247 (by decide) (fun c_247p162p185p198p202p240p331p240 => ?_) (fun c_247p162p185p198p202p240p331p240 => ?_)
                                      · have c_247p162p185p198p202p240p331p240 : ¬ y_325p162p185p198p202p240 = 4 := c_247p162p185p198p202p240p331p240
                                        exact J_263p162p185p198p202p240p331p240 j325p162p185p198p202p240_M0_12 hj325p162p185p198p202p240_M0_12 H locs ls hP hD hS (lv_sub hl [2, 0, 3, 4, 5, 1] rfl)
                                      · have c_247p162p185p198p202p240p331p240 : y_325p162p185p198p202p240 = 4 := c_247p162p185p198p202p240p331p240
                                        have f_250p162p185p198p202p240p331p240_10 : iR y_325p162p185p198p202p240 4 4 := iR_eqL c_247p162p185p198p202p240p331p240 f_325p162p185p198p202p240_1 (iR_c (n := 4) (a := 4) (b := 4) (by decide +kernel) (by decide +kernel)) (by decide +kernel)
                                        have f_250p162p185p198p202p240p331p240_11 : iR j325p162p185p198p202p240_L5 3 3 := iR_addB ey_325p162p185p198p202p240 hj325p162p185p198p202p240_L5 (iR_c (n := 1) (a := 1) (b := 1) (by decide +kernel) (by decide +kernel)) f_250p162p185p198p202p240p331p240_10 (by decide +kernel)
                                        refine lv_aload_n hx hb dX7_ahead_250 rfl (lv_at hl 2 rfl) ?_
                                        refine k_get (D := (dC, dI)) (ci := 7) (v := .int j325p162p185p198p202p240_M0_12) (C := RX7) (T := TX7) (N := 92) hx hb hts hinX7 hown hK hP 0 rfl rfl 12 (by decide) w_4 rfl rfl dX7_ahead_251 ?_
                                        refine lv_iconst (v := (-1)) hx hb dX7_ahead_254 (by decide +kernel) ?_
                                        refine lv_icmp_ne (tgt := 263) hx hb dX7_ahead_255 (by decide) (fun c_255p162p185p198p202p240p331p240 => ?_) (fun c_255p162p185p198p202p240p331p240 => ?_)
                                        · have c_255p162p185p198p202p240p331p240 : ¬ j325p162p185p198p202p240_M0_12 = (-1) := c_255p162p185p198p202p240p331p240
                                          have f_263p162p185p198p202p240p331p240_12 : iR j325p162p185p198p202p240_M0_12 0 1599 := iR_neL c_255p162p185p198p202p240p331p240 hj325p162p185p198p202p240_M0_12 (iR_c (n := (-1)) (a := (-1)) (b := (-1)) (by decide +kernel) (by decide +kernel)) (by decide +kernel)
                                          exact J_263p162p185p198p202p240p331p240 j325p162p185p198p202p240_M0_12 (iR_w f_263p162p185p198p202p240p331p240_12 (by decide +kernel)) H locs ls hP hD hS (lv_sub hl [2, 0, 3, 4, 5, 1] rfl)
                                        · have c_255p162p185p198p202p240p331p240 : j325p162p185p198p202p240_M0_12 = (-1) := c_255p162p185p198p202p240p331p240
                                          have f_258p162p185p198p202p240p331p240_12 : iR j325p162p185p198p202p240_M0_12 (-1) (-1) := iR_eqL c_255p162p185p198p202p240p331p240 hj325p162p185p198p202p240_M0_12 (iR_c (n := (-1)) (a := (-1)) (b := (-1)) (by decide +kernel) (by decide +kernel)) (by decide +kernel)
                                          refine lv_aload_n hx hb dX7_ahead_258 rfl (lv_at hl 2 rfl) ?_
                                          refine lv_iload_n hx hb dX7_ahead_259 rfl (lv_at hl 0 rfl) ?_
                                          refine k_put (D := (dC, dI)) (ci := 7) (v := .int y_328p162p185p198p202p240) (C := RX7) (T := TX7) (N := 92) (ws' := [(h, .inr (7, oM r (upd (upd (upd (upd (upd i 3 2) 4 j5_L1) 5 y_153) 6 j325p162p185p198p202p240_M0_6) 12 y_328p162p185p198p202p240) (vp_updL j 7 0))), ((r 0), .inl (cI, 1800, .inl f0))]) hx hb hts hinX7 tyX7 tyX7_ok nmX7 hown hK hP hD hS 0 rfl rfl 12 (by decide) w_4 rfl rfl rfl rfl (Nat.le_of_ble_eq_true rfl) rfl dX7_ahead_260 (fun H locs hP hD hS => ?_)
                                          exact J_263p162p185p198p202p240p331p240 y_328p162p185p198p202p240 (iR_w f_212p162p185p198p202p240p331_3 (by decide +kernel)) H locs ls hP hD hS (lv_sub hl [2, 0, 3, 4, 5, 1] rfl)
                                  · exact absurd (i_eqc f_161_2 (iR_c (n := 0) (a := 0) (b := 0) (by decide +kernel) (by decide +kernel))) c_213p162p185p198p202p240p331
                            refine lv_icmp_ge (tgt := 325) hx hb dX7_ahead_297 (by decide) (fun q9 => absurd q9 (by decide +kernel)) (fun _ => ?_)
                            refine lv_iload_n hx hb dX7_ahead_300 rfl (lv_at hl 3 rfl) ?_
                            refine lv_if_eq (tgt := 325) hx hb dX7_ahead_301 (by decide) (fun c_301p162p185p198p202p240 => ?_) (fun c_301p162p185p198p202p240 => ?_)
                            · exact iR_cl (iR_eqL (a' := 1) (b' := 0) c_301p162p185p198p202p240 f_176_3 (iR_c (n := 0) (a := 0) (b := 0) (by decide +kernel) (by decide +kernel)) (by decide +kernel)) (by decide +kernel)
                            · have c_301p162p185p198p202p240 : ¬ r_86 = 0 := c_301p162p185p198p202p240
                              refine lv_aload_n hx hb dX7_ahead_304 rfl (lv_at hl 0 rfl) ?_
                              refine lv_bipush (v := 10) hx hb dX7_ahead_305 (by decide +kernel) ?_
                              refine lv_aload_n hx hb dX7_ahead_307 rfl (lv_at hl 0 rfl) ?_
                              refine k_get (D := (dC, dI)) (ci := 7) (v := .int 0) (C := RX7) (T := TX7) (N := 92) hx hb hts hinX7 hown hK hP 0 rfl rfl 6 (by decide) w_6 rfl rfl dX7_ahead_308 ?_
                              refine lv_imul hx hb dX7_ahead_311 ?_
                              refine k_int (v := 0) (by decide +kernel) ?_
                              refine lv_aload_n hx hb dX7_ahead_312 rfl (lv_at hl 0 rfl) ?_
                              refine k_get (D := (dC, dI)) (ci := 7) (v := .ref (r 0)) (C := RX7) (T := TX7) (N := 92) hx hb hts hinX7 hown hK hP 0 rfl rfl 0 (by decide) w_5 rfl rfl dX7_ahead_313 ?_
                              refine lv_iload_n hx hb dX7_ahead_316 rfl (lv_at hl 1 rfl) ?_
                              refine va_iald hx hb hK hP 1 0 rfl rfl (iR_vp f_70_1 (by decide +kernel)) dX7_ahead_317 ?_
                              refine lv_iadd hx hb dX7_ahead_318 ?_
                              refine lv_topi (fun y_318p162p185p198p202p240 ey_318p162p185p198p202p240 => ?_)
                              have xy_318p162p185p198p202p240 : y_318p162p185p198p202p240.toInt = 0 + (f0 j5_L1.toNatClampNeg).toInt := i_add ey_318p162p185p198p202p240 (iR_c (n := 0) (a := 0) (b := 0) (by decide +kernel) (by decide +kernel)) f_176_5 (by decide +kernel)
                              have f_318p162p185p198p202p240_1 : iR y_318p162p185p198p202p240 48 57 := iR_add ey_318p162p185p198p202p240 (iR_c (n := 0) (a := 0) (b := 0) (by decide +kernel) (by decide +kernel)) f_176_5 (by decide +kernel)
                              refine lv_bipush (v := 48) hx hb dX7_ahead_319 (by decide +kernel) ?_
                              refine lv_isub hx hb dX7_ahead_321 ?_
                              refine lv_topi (fun y_321p162p185p198p202p240 ey_321p162p185p198p202p240 => ?_)
                              have xy_321p162p185p198p202p240 : y_321p162p185p198p202p240.toInt = y_318p162p185p198p202p240.toInt - 48 := i_sub ey_321p162p185p198p202p240 f_318p162p185p198p202p240_1 (iR_c (n := 48) (a := 48) (b := 48) (by decide +kernel) (by decide +kernel)) (by decide +kernel)
                              have f_321p162p185p198p202p240_2 : iR y_321p162p185p198p202p240 0 9 := iR_sub ey_321p162p185p198p202p240 f_318p162p185p198p202p240_1 (iR_c (n := 48) (a := 48) (b := 48) (by decide +kernel) (by decide +kernel)) (by decide +kernel)
                              refine k_put (D := (dC, dI)) (ci := 7) (v := .int y_321p162p185p198p202p240) (C := RX7) (T := TX7) (N := 92) (ws' := [(h, .inr (7, oM r (upd (upd (upd (upd (upd i 3 2) 4 j5_L1) 5 y_153) 6 y_321p162p185p198p202p240) 12 j135_M0_12) (vp_updL j 7 0))), ((r 0), .inl (cI, 1800, .inl f0))]) hx hb hts hinX7 tyX7 tyX7_ok nmX7 hown hK hP hD hS 0 rfl rfl 6 (by decide) w_6 rfl rfl rfl rfl (Nat.le_of_ble_eq_true rfl) rfl dX7_ahead_322 (fun H locs hP hD hS => ?_)
                              exact J_325p162p185p198p202p240 _ j5_L1 0 y_321p162p185p198p202p240 j135_M0_12 f_70_1 (iR_c (n := 0) (a := 0) (b := 1600) (by decide +kernel) (by decide +kernel)) (iR_w f_321p162p185p198p202p240_2 (by decide +kernel)) hj135_M0_12 v5_0 (Int32.le_refl _) c_209p162p185p198p202 (show 0 ≤ 0 ∧ (0 = 0 → y_321p162p185p198p202p240.toInt ≤ 9) ∧ (0 = 1 → y_321p162p185p198p202p240.toInt ≤ 99) ∧ (0 = 2 → y_321p162p185p198p202p240.toInt ≤ 999) ∧ 0 + j5_L1.toInt = j5_L1.toInt from (by have q0 : 0 ≤ y_321p162p185p198p202p240.toInt ∧ y_321p162p185p198p202p240.toInt ≤ 9 := f_321p162p185p198p202p240_2; have q1 : 0 ≤ j5_L1.toInt ∧ j5_L1.toInt ≤ 1599 := f_70_1; have q2 : 48 ≤ y_318p162p185p198p202p240.toInt ∧ y_318p162p185p198p202p240.toInt ≤ 57 := f_318p162p185p198p202p240_1; have q3 : 48 ≤ (f0 j5_L1.toNatClampNeg).toInt ∧ (f0 j5_L1.toNatClampNeg).toInt ≤ 57 := f_176_5; have r1 : 48 ≤ (f0 j5_L1.toNatClampNeg).toInt := i_ti_le (by decide) rfl d237p162p185p198p202_2_0; have r2 : (f0 j5_L1.toNatClampNeg).toInt ≤ 57 := i_ti_le rfl (by decide) d237p162p185p198p202_2_1; omega)) (Nat.lt_succ_self _) H locs ls hP hD hS (lv_sub hl [0, 1, 2, 3, 4, 5] rfl)
                          refine lv_icmp_ge (tgt := 293) hx hb dX7_ahead_267 (by decide) (fun q9 => absurd q9 (by decide +kernel)) (fun _ => ?_)
                          refine lv_iload_n hx hb dX7_ahead_270 rfl (lv_at hl 2 rfl) ?_
                          refine lv_if_eq (tgt := 293) hx hb dX7_ahead_271 (by decide) (fun c_271p162p185p198p202p240 => ?_) (fun c_271p162p185p198p202p240 => ?_)
                          · have c_271p162p185p198p202p240 : r_76 = 0 := c_271p162p185p198p202p240
                            exact J_293p162p185p198p202p240   H locs ls hP hD hS (lv_sub hl [0, 1, 2, 3, 4, 5] rfl)
                          · exact absurd (i_eqc f_161_2 (iR_c (n := 0) (a := 0) (b := 0) (by decide +kernel) (by decide +kernel))) c_271p162p185p198p202p240
                        refine lv_icmp_ne (tgt := 263) hx hb dX7_ahead_247 (by decide) (fun _ => ?_) (fun q9 => absurd q9 (by decide +kernel))
                        exact J_263p162p185p198p202p240   H locs ls hP hD hS (lv_sub hl [2, 3, 4, 5, 1, 0] rfl)
                      · exact absurd (i_eqc f_161_2 (iR_c (n := 0) (a := 0) (b := 0) (by decide +kernel) (by decide +kernel))) c_213p162p185p198p202
                  · exact absurd (i_eqc f_161_2 (iR_c (n := 0) (a := 0) (b := 0) (by decide +kernel) (by decide +kernel))) c_190p162p185
                · exact absurd (i_eqc f_161_2 (iR_c (n := 0) (a := 0) (b := 0) (by decide +kernel) (by decide +kernel))) c_178p162
              · have c_162 : r_86 = 0 := c_162
                have f_165_3 : iR r_86 0 0 := iR_eqL c_162 g_86_0 (iR_c (n := 0) (a := 0) (b := 0) (by decide +kernel) (by decide +kernel)) (by decide +kernel)
                refine lv_aload_n hx hb dX7_ahead_165 rfl (lv_at hl 0 rfl) ?_
                refine lv_aload_n hx hb dX7_ahead_166 rfl (lv_at hl 0 rfl) ?_
                refine k_get (D := (dC, dI)) (ci := 7) (v := .ref (r 0)) (C := RX7) (T := TX7) (N := 92) hx hb hts hinX7 hown hK hP 0 rfl rfl 0 (by decide) w_5 rfl rfl dX7_ahead_167 ?_
                refine lv_iload_n hx hb dX7_ahead_170 rfl (lv_at hl 1 rfl) ?_
                refine va_iald hx hb hK hP 1 0 rfl rfl (iR_vp f_70_1 (by decide +kernel)) dX7_ahead_171 ?_
                refine k_put (D := (dC, dI)) (ci := 7) (v := .int (f0 j5_L1.toNatClampNeg)) (C := RX7) (T := TX7) (N := 92) (ws' := [(h, .inr (7, oM r (upd (upd (upd (upd (upd i 3 3) 4 j5_L1) 5 y_153) 6 (f0 j5_L1.toNatClampNeg)) 12 j135_M0_12) (vp_updL j 7 0))), ((r 0), .inl (cI, 1800, .inl f0))]) hx hb hts hinX7 tyX7 tyX7_ok nmX7 hown hK hP hD hS 0 rfl rfl 6 (by decide) w_6 rfl rfl rfl rfl (Nat.le_of_ble_eq_true rfl) rfl dX7_ahead_172 (fun H locs hP hD hS => ?_)
                exact k_rv B hP hD hS dX7_ahead_175 ((fun k9 => match k9 with | 0 => 3 | 1 => j5_L1 | 2 => y_153 | 3 => (f0 j5_L1.toNatClampNeg) | 4 => j135_M0_12 | _ => 0), (fun k9 => match k9 with | 0 => 0 | _ => 0), (fun _ => (fun _ => 0)), (fun _ => (fun _ => 0)), (fun _ => 0)) [0, 1] rfl rfl (Nat.le_of_ble_eq_true rfl) (Nat.le_of_ble_eq_true rfl) ⟨(show (i 5) ≤ j5_L1 from v5_0), (show j5_L1 ≤ y_153 from (i_lestep (Int32.le_refl _) ey_153 f_70_1 (iR_c (n := 1) (a := 1) (b := 1) (by decide +kernel) (by decide +kernel)) (by decide +kernel))), (show iR 3 0 3 from (iR_c (n := 3) (a := 0) (b := 3) (by decide +kernel) (by decide +kernel))), (show iR j5_L1 0 1600 from (iR_w f_70_1 (by decide +kernel))), (show iR y_153 0 1600 from (iR_w f_153_1 (by decide +kernel))), (show iR (f0 j5_L1.toNatClampNeg) 0 9999 from (iR_w f_75_3 (by decide +kernel))), (show iR j135_M0_12 (-1) 1599 from hj135_M0_12), (show TM y_153 3 ≤ TM (i 5) (i 3) from (by have r1 : (i 5).toInt < y_153.toInt := i_ti_lt rfl rfl (i_ltstep v5_0 ey_153 f_70_1 (iR_c (n := 1) (a := 1) (b := 1) (by decide +kernel) (by decide +kernel)) (by decide +kernel)); unfold TM; rw [if_neg (show ¬ (3 : Int32).toInt = 0 by decide)]; split <;> omega)), (show (3 = 0) ∨ (((i 5) < y_153) ∧ (j5_L1 < y_153) ∧ (j5_L1 < (i 2))) from (Or.inr ⟨(i_ltstep v5_0 ey_153 f_70_1 (iR_c (n := 1) (a := 1) (b := 1) (by decide +kernel) (by decide +kernel)) (by decide +kernel)), (i_ltstep (Int32.le_refl _) ey_153 f_70_1 (iR_c (n := 1) (a := 1) (b := 1) (by decide +kernel) (by decide +kernel)) (by decide +kernel)), c_66⟩)), (show ((i 3) = 0) ∨ ((TM y_153 3 < TM (i 5) (i 3))) from (by have r1 : (i 5).toInt < y_153.toInt := i_ti_lt rfl rfl (i_ltstep v5_0 ey_153 f_70_1 (iR_c (n := 1) (a := 1) (b := 1) (by decide +kernel) (by decide +kernel)) (by decide +kernel)); by_cases z : (i 3) = 0; exact Or.inl z; refine Or.inr ?_; have z2 : ¬ (i 3).toInt = 0 := i_ti_ne rfl (by decide) z; unfold TM; rw [if_neg z2]; rw [if_neg (show ¬ (3 : Int32).toInt = 0 by decide)]; omega))⟩
          have J_98 : ∀  (k98_0 : iR (f0 j5_L1.toNatClampNeg) 48 122) (H : Heap) (locs : List Loc) (ls : Array Slot), va_P (dC, dI) vwCl [(h, .inr (7, oM r (upd (upd (upd (upd i 3 0) 4 j5_L1) 5 j5_L1) 12 (-1)) j)), ((r 0), .inl (cI, 1800, .inl f0))] H → va_D A [(h, .inr (7, oM r (upd (upd (upd (upd i 3 0) 4 j5_L1) 5 j5_L1) 12 (-1)) j)), ((r 0), .inl (cI, 1800, .inl f0))] → va_S A s.heap H locs → lv_has ls 6 [(0, .ref h), (1, .int j5_L1), (2, .int r_76), (3, .int r_86)] → W p l e ({ frames := 2, cells := 0, slots := 0, locals := 62 }) s m args below meth c H locs 0 0 (MQ below (va_Qv (fun (u9 : SU) => ((i 5) ≤ (u9.1 1)) ∧ ((u9.1 1) ≤ (u9.1 2)) ∧ (iR (u9.1 0) 0 3) ∧ (iR (u9.1 1) 0 1600) ∧ (iR (u9.1 2) 0 1600) ∧ (iR (u9.1 3) 0 9999) ∧ (iR (u9.1 4) (-1) 1599) ∧ (TM (u9.1 2) (u9.1 0) ≤ TM (i 5) (i 3)) ∧ (((u9.1 0) = 0) ∨ (((i 5) < (u9.1 2)) ∧ ((u9.1 1) < (u9.1 2)) ∧ ((u9.1 1) < (i 2)))) ∧ (((i 3) = 0) ∨ ((TM (u9.1 2) (u9.1 0) < TM (i 5) (i 3))))) (fun u => k_B (dC, dI) vwCl (tyy cI cJ cZ cM) A ((fun (u9 : SU) => [(h, .inr (7, oM r (upd (upd (upd (upd (upd i 3 (u9.1 0)) 4 (u9.1 1)) 5 (u9.1 2)) 6 (u9.1 3)) 12 (u9.1 4)) (vp_updL j 7 (u9.2.1 0)))), ((r 0), .inl (cI, 1800, .inl f0))]) u)) A) args s 0 0 A) (F0 m 98 ls []) := by
            intro  k98_0 H locs ls hP hD hS hl
            refine lv_iload_n hx hb dX7_ahead_98 rfl (lv_at hl 1 rfl) ?_
            refine lv_if_le (tgt := 135) hx hb dX7_ahead_99 (by decide) (fun c_99 => ?_) (fun c_99 => ?_)
            · have c_99 : j5_L1 ≤ 0 := c_99
              have f_135_1 : iR j5_L1 0 0 := iR_leL c_99 f_70_1 (iR_c (n := 0) (a := 0) (b := 0) (by decide +kernel) (by decide +kernel)) (by decide +kernel)
              exact J_135 (-1) (iR_c (n := (-1)) (a := (-1)) (b := 1599) (by decide +kernel) (by decide +kernel)) H locs ls hP hD hS (lv_sub hl [0, 1, 2, 3] rfl)
            · have c_99 : 0 < j5_L1 := i_nle c_99
              have f_102_1 : iR j5_L1 1 1599 := iR_ltR c_99 (iR_c (n := 0) (a := 0) (b := 0) (by decide +kernel) (by decide +kernel)) f_70_1 (by decide +kernel)
              refine lv_aload_n hx hb dX7_ahead_102 rfl (lv_at hl 0 rfl) ?_
              refine k_get (D := (dC, dI)) (ci := 7) (v := .ref (r 0)) (C := RX7) (T := TX7) (N := 92) hx hb hts hinX7 hown hK hP 0 rfl rfl 0 (by decide) w_5 rfl rfl dX7_ahead_103 ?_
              refine lv_iload_n hx hb dX7_ahead_106 rfl (lv_at hl 1 rfl) ?_
              refine lv_iconst (v := 1) hx hb dX7_ahead_107 (by decide +kernel) ?_
              refine lv_isub hx hb dX7_ahead_108 ?_
              refine lv_topi (fun y_108 ey_108 => ?_)
              have xy_108 : y_108.toInt = j5_L1.toInt - 1 := i_sub ey_108 f_102_1 (iR_c (n := 1) (a := 1) (b := 1) (by decide +kernel) (by decide +kernel)) (by decide +kernel)
              have f_108_2 : iR y_108 0 1598 := iR_sub ey_108 f_102_1 (iR_c (n := 1) (a := 1) (b := 1) (by decide +kernel) (by decide +kernel)) (by decide +kernel)
              refine va_iald hx hb hK hP 1 0 rfl rfl (iR_vp f_108_2 (by decide +kernel)) dX7_ahead_109 ?_
              have f_109_3 : iR (f0 y_108.toNatClampNeg) 0 255 := hf0 _
              refine k_ci (wc := []) (wr := [(h, .inr (7, oM r (upd (upd (upd (upd i 3 0) 4 j5_L1) 5 j5_L1) 12 (-1)) j)), ((r 0), .inl (cI, 1800, .inl f0))]) (fun hPc hDc hFc => va_runS (As := [.int (f0 y_108.toNatClampNeg)]) (rest := []) ⟨hx, hb, hml, hown, hts⟩ (s_X7_isLetter_v0 l dC dI cI cJ cZ cM (f0 y_108.toNatClampNeg) H.size) (va_cwS 1 hts gX7_ahead_X7_isLetter rfl rfl rfl (by decide +kernel) ⟨(Nat.le_of_ble_eq_true rfl), (Nat.le_of_ble_eq_true rfl)⟩) (k_pS hPc hDc hK hN hC hS hFc) rfl rfl hl.1 rfl (lv_room (Nat.le_of_ble_eq_true rfl)) dX7_ahead_110 ⟨(Nat.le_of_ble_eq_true rfl), (Nat.le_of_ble_eq_true rfl)⟩) hP hD hS hA [] [0, 1] rfl rfl rfl rfl (by decide) (fun _ => rfl) 0 0 rfl rfl (fun r_110 u_110 H locs hw hP hD hS => ?_)
              obtain ⟨g_110_0, g_110_1⟩ := hw
              have hP : va_P (dC, dI) vwCl [(h, .inr (7, oM r (upd (upd (upd (upd i 3 0) 4 j5_L1) 5 j5_L1) 12 (-1)) j)), ((r 0), .inl (cI, 1800, .inl f0))] H := hP
              have hD : va_D A [(h, .inr (7, oM r (upd (upd (upd (upd i 3 0) 4 j5_L1) 5 j5_L1) 12 (-1)) j)), ((r 0), .inl (cI, 1800, .inl f0))] := hD
              have g_110_1 : (r_110 = 0) ∨ ((97 ≤ (f0 y_108.toNatClampNeg)) ∧ ((f0 y_108.toNatClampNeg) ≤ 122)) := g_110_1
              have J_130 : ∀   (H : Heap) (locs : List Loc) (ls : Array Slot), va_P (dC, dI) vwCl [(h, .inr (7, oM r (upd (upd (upd (upd i 3 0) 4 j5_L1) 5 j5_L1) 12 (-1)) j)), ((r 0), .inl (cI, 1800, .inl f0))] H → va_D A [(h, .inr (7, oM r (upd (upd (upd (upd i 3 0) 4 j5_L1) 5 j5_L1) 12 (-1)) j)), ((r 0), .inl (cI, 1800, .inl f0))] → va_S A s.heap H locs → lv_has ls 6 [(0, .ref h), (1, .int j5_L1), (2, .int r_76), (3, .int r_86)] → W p l e ({ frames := 2, cells := 0, slots := 0, locals := 62 }) s m args below meth c H locs 0 0 (MQ below (va_Qv (fun (u9 : SU) => ((i 5) ≤ (u9.1 1)) ∧ ((u9.1 1) ≤ (u9.1 2)) ∧ (iR (u9.1 0) 0 3) ∧ (iR (u9.1 1) 0 1600) ∧ (iR (u9.1 2) 0 1600) ∧ (iR (u9.1 3) 0 9999) ∧ (iR (u9.1 4) (-1) 1599) ∧ (TM (u9.1 2) (u9.1 0) ≤ TM (i 5) (i 3)) ∧ (((u9.1 0) = 0) ∨ (((i 5) < (u9.1 2)) ∧ ((u9.1 1) < (u9.1 2)) ∧ ((u9.1 1) < (i 2)))) ∧ (((i 3) = 0) ∨ ((TM (u9.1 2) (u9.1 0) < TM (i 5) (i 3))))) (fun u => k_B (dC, dI) vwCl (tyy cI cJ cZ cM) A ((fun (u9 : SU) => [(h, .inr (7, oM r (upd (upd (upd (upd (upd i 3 (u9.1 0)) 4 (u9.1 1)) 5 (u9.1 2)) 6 (u9.1 3)) 12 (u9.1 4)) (vp_updL j 7 (u9.2.1 0)))), ((r 0), .inl (cI, 1800, .inl f0))]) u)) A) args s 0 0 A) (F0 m 130 ls []) := by
                intro   H locs ls hP hD hS hl
                refine lv_aload_n hx hb dX7_ahead_130 rfl (lv_at hl 0 rfl) ?_
                refine lv_iload_n hx hb dX7_ahead_131 rfl (lv_at hl 1 rfl) ?_
                refine k_put (D := (dC, dI)) (ci := 7) (v := .int j5_L1) (C := RX7) (T := TX7) (N := 92) (ws' := [(h, .inr (7, oM r (upd (upd (upd (upd i 3 0) 4 j5_L1) 5 j5_L1) 12 j5_L1) j)), ((r 0), .inl (cI, 1800, .inl f0))]) hx hb hts hinX7 tyX7 tyX7_ok nmX7 hown hK hP hD hS 0 rfl rfl 12 (by decide) w_4 rfl rfl rfl rfl (Nat.le_of_ble_eq_true rfl) rfl dX7_ahead_132 (fun H locs hP hD hS => ?_)
                exact J_135 j5_L1 (iR_w f_102_1 (by decide +kernel)) H locs ls hP hD hS (lv_sub hl [0, 1, 2, 3] rfl)
              refine lv_if_ne (tgt := 130) hx hb dX7_ahead_113 (by decide) (fun c_113 => ?_) (fun c_113 => ?_)
              · have c_113 : ¬ r_110 = 0 := c_113
                have f_130_4 : iR r_110 1 1 := iR_neL c_113 g_110_0 (iR_c (n := 0) (a := 0) (b := 0) (by decide +kernel) (by decide +kernel)) (by decide +kernel)
                obtain ⟨d_113_1_0, d_113_1_1⟩ := g_110_1.resolve_left c_113
                have f_130_5 : iR (f0 y_108.toNatClampNeg) 97 255 := iR_leR d_113_1_0 (iR_c (n := 97) (a := 97) (b := 97) (by decide +kernel) (by decide +kernel)) f_109_3 (by decide +kernel)
                have f_130_6 : iR (f0 y_108.toNatClampNeg) 97 122 := iR_leL d_113_1_1 f_130_5 (iR_c (n := 122) (a := 122) (b := 122) (by decide +kernel) (by decide +kernel)) (by decide +kernel)
                exact J_130   H locs ls hP hD hS (lv_sub hl [0, 1, 2, 3] rfl)
              · have c_113 : r_110 = 0 := c_113
                have f_116_4 : iR r_110 0 0 := iR_eqL c_113 g_110_0 (iR_c (n := 0) (a := 0) (b := 0) (by decide +kernel) (by decide +kernel)) (by decide +kernel)
                refine lv_aload_n hx hb dX7_ahead_116 rfl (lv_at hl 0 rfl) ?_
                refine k_get (D := (dC, dI)) (ci := 7) (v := .ref (r 0)) (C := RX7) (T := TX7) (N := 92) hx hb hts hinX7 hown hK hP 0 rfl rfl 0 (by decide) w_5 rfl rfl dX7_ahead_117 ?_
                refine lv_iload_n hx hb dX7_ahead_120 rfl (lv_at hl 1 rfl) ?_
                refine lv_iconst (v := 1) hx hb dX7_ahead_121 (by decide +kernel) ?_
                refine lv_isub hx hb dX7_ahead_122 ?_
                refine lv_topi (fun y_122 ey_122 => ?_)
                have xy_122 : y_122.toInt = j5_L1.toInt - 1 := i_sub ey_122 f_102_1 (iR_c (n := 1) (a := 1) (b := 1) (by decide +kernel) (by decide +kernel)) (by decide +kernel)
                have f_122_5 : iR y_122 0 1598 := iR_sub ey_122 f_102_1 (iR_c (n := 1) (a := 1) (b := 1) (by decide +kernel) (by decide +kernel)) (by decide +kernel)
                refine va_iald hx hb hK hP 1 0 rfl rfl (iR_vp f_122_5 (by decide +kernel)) dX7_ahead_123 ?_
                have f_123_6 : iR (f0 y_122.toNatClampNeg) 0 255 := hf0 _
                refine k_ci (wc := []) (wr := [(h, .inr (7, oM r (upd (upd (upd (upd i 3 0) 4 j5_L1) 5 j5_L1) 12 (-1)) j)), ((r 0), .inl (cI, 1800, .inl f0))]) (fun hPc hDc hFc => va_runS (As := [.int (f0 y_122.toNatClampNeg)]) (rest := []) ⟨hx, hb, hml, hown, hts⟩ (s_X7_isDigit_v0 l dC dI cI cJ cZ cM (f0 y_122.toNatClampNeg) H.size) (va_cwS 1 hts gX7_ahead_X7_isDigit rfl rfl rfl (by decide +kernel) ⟨(Nat.le_of_ble_eq_true rfl), (Nat.le_of_ble_eq_true rfl)⟩) (k_pS hPc hDc hK hN hC hS hFc) rfl rfl hl.1 rfl (lv_room (Nat.le_of_ble_eq_true rfl)) dX7_ahead_124 ⟨(Nat.le_of_ble_eq_true rfl), (Nat.le_of_ble_eq_true rfl)⟩) hP hD hS hA [] [0, 1] rfl rfl rfl rfl (by decide) (fun _ => rfl) 0 0 rfl rfl (fun r_124 u_124 H locs hw hP hD hS => ?_)
                obtain ⟨g_124_0, g_124_1⟩ := hw
                have hP : va_P (dC, dI) vwCl [(h, .inr (7, oM r (upd (upd (upd (upd i 3 0) 4 j5_L1) 5 j5_L1) 12 (-1)) j)), ((r 0), .inl (cI, 1800, .inl f0))] H := hP
                have hD : va_D A [(h, .inr (7, oM r (upd (upd (upd (upd i 3 0) 4 j5_L1) 5 j5_L1) 12 (-1)) j)), ((r 0), .inl (cI, 1800, .inl f0))] := hD
                have g_124_1 : (r_124 = 0) ∨ ((48 ≤ (f0 y_122.toNatClampNeg)) ∧ ((f0 y_122.toNatClampNeg) ≤ 57)) := g_124_1
                refine lv_if_eq (tgt := 135) hx hb dX7_ahead_127 (by decide) (fun c_127 => ?_) (fun c_127 => ?_)
                · have c_127 : r_124 = 0 := c_127
                  have f_135_7 : iR r_124 0 0 := iR_eqL c_127 g_124_0 (iR_c (n := 0) (a := 0) (b := 0) (by decide +kernel) (by decide +kernel)) (by decide +kernel)
                  exact J_135 (-1) (iR_c (n := (-1)) (a := (-1)) (b := 1599) (by decide +kernel) (by decide +kernel)) H locs ls hP hD hS (lv_sub hl [0, 1, 2, 3] rfl)
                · have c_127 : ¬ r_124 = 0 := c_127
                  have f_130_7 : iR r_124 1 1 := iR_neL c_127 g_124_0 (iR_c (n := 0) (a := 0) (b := 0) (by decide +kernel) (by decide +kernel)) (by decide +kernel)
                  obtain ⟨d_127_1_0, d_127_1_1⟩ := g_124_1.resolve_left c_127
                  have f_130_8 : iR (f0 y_122.toNatClampNeg) 48 255 := iR_leR d_127_1_0 (iR_c (n := 48) (a := 48) (b := 48) (by decide +kernel) (by decide +kernel)) f_123_6 (by decide +kernel)
                  have f_130_9 : iR (f0 y_122.toNatClampNeg) 48 57 := iR_leL d_127_1_1 f_130_8 (iR_c (n := 57) (a := 57) (b := 57) (by decide +kernel) (by decide +kernel)) (by decide +kernel)
                  exact J_130   H locs ls hP hD hS (lv_sub hl [0, 1, 2, 3] rfl)
          refine lv_if_ne (tgt := 98) hx hb dX7_ahead_91 (by decide) (fun c_91 => ?_) (fun c_91 => ?_)
          · have c_91 : ¬ r_76 = 0 := c_91
            have f_98_4 : iR r_76 1 1 := iR_neL c_91 g_76_0 (iR_c (n := 0) (a := 0) (b := 0) (by decide +kernel) (by decide +kernel)) (by decide +kernel)
            obtain ⟨d_91_1_0, d_91_1_1⟩ := g_76_1.resolve_left c_91
            have f_98_5 : iR (f0 j5_L1.toNatClampNeg) 97 255 := iR_leR d_91_1_0 (iR_c (n := 97) (a := 97) (b := 97) (by decide +kernel) (by decide +kernel)) f_75_3 (by decide +kernel)
            have f_98_6 : iR (f0 j5_L1.toNatClampNeg) 97 122 := iR_leL d_91_1_1 f_98_5 (iR_c (n := 122) (a := 122) (b := 122) (by decide +kernel) (by decide +kernel)) (by decide +kernel)
            exact J_98  (iR_w f_98_6 (by decide +kernel)) H locs ls hP hD hS (lv_sub hl [2, 3, 1, 0] rfl)
          · have c_91 : r_76 = 0 := c_91
            have f_94_4 : iR r_76 0 0 := iR_eqL c_91 g_76_0 (iR_c (n := 0) (a := 0) (b := 0) (by decide +kernel) (by decide +kernel)) (by decide +kernel)
            refine lv_iload_n hx hb dX7_ahead_94 rfl (lv_at hl 0 rfl) ?_
            refine lv_if_eq (tgt := 135) hx hb dX7_ahead_95 (by decide) (fun c_95 => ?_) (fun c_95 => ?_)
            · have c_95 : r_86 = 0 := c_95
              have f_135_5 : iR r_86 0 0 := iR_eqL c_95 g_86_0 (iR_c (n := 0) (a := 0) (b := 0) (by decide +kernel) (by decide +kernel)) (by decide +kernel)
              exact J_135 (-1) (iR_c (n := (-1)) (a := (-1)) (b := 1599) (by decide +kernel) (by decide +kernel)) H locs ls hP hD hS (lv_sub hl [2, 3, 1, 0] rfl)
            · have c_95 : ¬ r_86 = 0 := c_95
              have f_98_5 : iR r_86 1 1 := iR_neL c_95 g_86_0 (iR_c (n := 0) (a := 0) (b := 0) (by decide +kernel) (by decide +kernel)) (by decide +kernel)
              obtain ⟨d_95_1_0, d_95_1_1⟩ := g_86_1.resolve_left c_95
              have f_98_6 : iR (f0 j5_L1.toNatClampNeg) 48 255 := iR_leR d_95_1_0 (iR_c (n := 48) (a := 48) (b := 48) (by decide +kernel) (by decide +kernel)) f_75_3 (by decide +kernel)
              have f_98_7 : iR (f0 j5_L1.toNatClampNeg) 48 57 := iR_leL d_95_1_1 f_98_6 (iR_c (n := 57) (a := 57) (b := 57) (by decide +kernel) (by decide +kernel)) (by decide +kernel)
              exact J_98  (iR_w f_98_7 (by decide +kernel)) H locs ls hP hD hS (lv_sub hl [2, 3, 1, 0] rfl)
        · have c_66 : (i 2) ≤ j5_L1 := i_nlt c_66
          exact k_rv B hP hD hS dX7_ahead_69 ((fun k9 => match k9 with | 0 => 0 | 1 => j5_L1 | 2 => j5_L1 | 3 => (i 6) | 4 => -1 | _ => 0), (fun k9 => match k9 with | 0 => (j 7) | _ => 0), (fun _ => (fun _ => 0)), (fun _ => (fun _ => 0)), (fun _ => 0)) [0, 1] rfl rfl (Nat.le_of_ble_eq_true rfl) (Nat.le_of_ble_eq_true rfl) ⟨(show (i 5) ≤ j5_L1 from v5_0), (show j5_L1 ≤ j5_L1 from (Int32.le_refl _)), (show iR 0 0 3 from (iR_c (n := 0) (a := 0) (b := 3) (by decide +kernel) (by decide +kernel))), (show iR j5_L1 0 1600 from hj5_L1), (show iR j5_L1 0 1600 from hj5_L1), (show iR (i 6) 0 9999 from (hI 6)), (show iR (-1) (-1) 1599 from (iR_c (n := (-1)) (a := (-1)) (b := 1599) (by decide +kernel) (by decide +kernel))), (show TM j5_L1 0 ≤ TM (i 5) (i 3) from (by have r1 : (i 5).toInt ≤ j5_L1.toInt := i_ti_le rfl rfl v5_0; unfold TM; rw [if_pos (show (0 : Int32).toInt = 0 by decide)]; split <;> omega)), (show (0 = 0) ∨ (((i 5) < j5_L1) ∧ (j5_L1 < j5_L1) ∧ (j5_L1 < (i 2))) from (Or.inl rfl)), (show ((i 3) = 0) ∨ ((TM j5_L1 0 < TM (i 5) (i 3))) from (by have r1 : (i 5).toInt ≤ j5_L1.toInt := i_ti_le rfl rfl v5_0; by_cases z : (i 3) = 0; exact Or.inl z; refine Or.inr ?_; have z2 : ¬ (i 3).toInt = 0 := i_ti_ne rfl (by decide) z; unfold TM; rw [if_neg z2]; rw [if_pos (show (0 : Int32).toInt = 0 by decide)]; omega))⟩
      refine lv_icmp_ge (tgt := 41) hx hb dX7_ahead_10 (by decide) (fun c_10 => ?_) (fun c_10 => ?_)
      · have c_10 : (i 2) ≤ j5_L1 := c_10
        exact J_41   H locs ls hP hD hS (lv_sub hl [0, 1] rfl)
      · have c_10 : j5_L1 < (i 2) := i_nle c_10
        have f_13_2 : iR j5_L1 0 1599 := iR_ltL c_10 hj5_L1 f_7_1 (by decide +kernel)
        have f_13_3 : iR (i 2) 1 1600 := iR_ltR c_10 hj5_L1 f_7_1 (by decide +kernel)
        refine lv_aload_n hx hb dX7_ahead_13 rfl (lv_at hl 0 rfl) ?_
        refine k_get (D := (dC, dI)) (ci := 7) (v := .ref (r 0)) (C := RX7) (T := TX7) (N := 92) hx hb hts hinX7 hown hK hP 0 rfl rfl 0 (by decide) w_5 rfl rfl dX7_ahead_14 ?_
        refine lv_iload_n hx hb dX7_ahead_17 rfl (lv_at hl 1 rfl) ?_
        refine va_iald hx hb hK hP 1 0 rfl rfl (iR_vp f_13_2 (by decide +kernel)) dX7_ahead_18 ?_
        have f_18_4 : iR (f0 j5_L1.toNatClampNeg) 0 255 := hf0 _
        refine lv_bipush (v := 32) hx hb dX7_ahead_19 (by decide +kernel) ?_
        have J_35 : ∀  (k35_0 : iR (f0 j5_L1.toNatClampNeg) 10 32) (H : Heap) (locs : List Loc) (ls : Array Slot), va_P (dC, dI) vwCl [(h, .inr (7, oM r i j)), ((r 0), .inl (cI, 1800, .inl f0))] H → va_D A [(h, .inr (7, oM r i j)), ((r 0), .inl (cI, 1800, .inl f0))] → va_S A s.heap H locs → lv_has ls 6 [(0, .ref h), (1, .int j5_L1)] → W p l e ({ frames := 2, cells := 0, slots := 0, locals := 62 }) s m args below meth c H locs 0 0 (MQ below (va_Qv (fun (u9 : SU) => ((i 5) ≤ (u9.1 1)) ∧ ((u9.1 1) ≤ (u9.1 2)) ∧ (iR (u9.1 0) 0 3) ∧ (iR (u9.1 1) 0 1600) ∧ (iR (u9.1 2) 0 1600) ∧ (iR (u9.1 3) 0 9999) ∧ (iR (u9.1 4) (-1) 1599) ∧ (TM (u9.1 2) (u9.1 0) ≤ TM (i 5) (i 3)) ∧ (((u9.1 0) = 0) ∨ (((i 5) < (u9.1 2)) ∧ ((u9.1 1) < (u9.1 2)) ∧ ((u9.1 1) < (i 2)))) ∧ (((i 3) = 0) ∨ ((TM (u9.1 2) (u9.1 0) < TM (i 5) (i 3))))) (fun u => k_B (dC, dI) vwCl (tyy cI cJ cZ cM) A ((fun (u9 : SU) => [(h, .inr (7, oM r (upd (upd (upd (upd (upd i 3 (u9.1 0)) 4 (u9.1 1)) 5 (u9.1 2)) 6 (u9.1 3)) 12 (u9.1 4)) (vp_updL j 7 (u9.2.1 0)))), ((r 0), .inl (cI, 1800, .inl f0))]) u)) A) args s 0 0 A) (F0 m 35 ls []) := by
          intro  k35_0 H locs ls hP hD hS hl
          obtain ⟨y_35, ey_35⟩ : ∃ y : Int32, y = j5_L1 + 1 := ⟨_, rfl⟩
          refine lv_iinc (v := y_35) (lv' := [(1, .int y_35), (0, .ref h)]) hx hb dX7_ahead_35 hl (k := 1) rfl ey_35.symm (by decide) rfl (fun ls hl => ?_)
          have f_35_1 : iR y_35 1 1600 := iR_add ey_35 f_13_2 (iR_c (n := 1) (a := 1) (b := 1) (by decide +kernel) (by decide +kernel)) (by decide +kernel)
          have xy_35 : y_35.toInt = j5_L1.toInt + 1 := i_add ey_35 f_13_2 (iR_c (n := 1) (a := 1) (b := 1) (by decide +kernel) (by decide +kernel)) (by decide +kernel)
          refine lv_goto (tgt := 5) hx hb dX7_ahead_38 (by decide) ?_
          exact ih_5 y_35 (iR_w f_35_1 (by decide +kernel)) (i_lestep v5_0 ey_35 f_13_2 (iR_c (n := 1) (a := 1) (b := 1) (by decide +kernel) (by decide +kernel)) (by decide +kernel)) (m_up (B := 1600) hm_5 ey_35 f_13_2 (by decide +kernel)) H locs ls hP hD hS (lv_sub hl [1, 0] rfl)
        refine lv_icmp_eq (tgt := 35) hx hb dX7_ahead_21 (by decide) (fun c_21 => ?_) (fun c_21 => ?_)
        · have c_21 : (f0 j5_L1.toNatClampNeg) = 32 := c_21
          have f_35_5 : iR (f0 j5_L1.toNatClampNeg) 32 32 := iR_eqL c_21 f_18_4 (iR_c (n := 32) (a := 32) (b := 32) (by decide +kernel) (by decide +kernel)) (by decide +kernel)
          exact J_35  (iR_w f_35_5 (by decide +kernel)) H locs ls hP hD hS (lv_sub hl [0, 1] rfl)
        · have c_21 : ¬ (f0 j5_L1.toNatClampNeg) = 32 := c_21
          refine lv_aload_n hx hb dX7_ahead_24 rfl (lv_at hl 0 rfl) ?_
          refine k_get (D := (dC, dI)) (ci := 7) (v := .ref (r 0)) (C := RX7) (T := TX7) (N := 92) hx hb hts hinX7 hown hK hP 0 rfl rfl 0 (by decide) w_5 rfl rfl dX7_ahead_25 ?_
          refine lv_iload_n hx hb dX7_ahead_28 rfl (lv_at hl 1 rfl) ?_
          refine va_iald hx hb hK hP 1 0 rfl rfl (iR_vp f_13_2 (by decide +kernel)) dX7_ahead_29 ?_
          refine lv_bipush (v := 10) hx hb dX7_ahead_30 (by decide +kernel) ?_
          refine lv_icmp_ne (tgt := 41) hx hb dX7_ahead_32 (by decide) (fun c_32 => ?_) (fun c_32 => ?_)
          · have c_32 : ¬ (f0 j5_L1.toNatClampNeg) = 10 := c_32
            exact J_41   H locs ls hP hD hS (lv_sub hl [0, 1] rfl)
          · have c_32 : (f0 j5_L1.toNatClampNeg) = 10 := c_32
            have f_35_5 : iR (f0 j5_L1.toNatClampNeg) 10 10 := iR_eqL c_32 f_18_4 (iR_c (n := 10) (a := 10) (b := 10) (by decide +kernel) (by decide +kernel)) (by decide +kernel)
            exact J_35  (iR_w f_35_5 (by decide +kernel)) H locs ls hP hD hS (lv_sub hl [0, 1] rfl)
  refine lv_istore_n (lv' := [(1, .int (i 5)), (0, .ref h)]) hx hb dX7_ahead_4 rfl hl (by decide) rfl (fun ls hl => ?_)
  exact J_5 _ (i 5) f_1_1 (Int32.le_refl _) (Nat.lt_succ_self _) H locs ls hP hD hS (lv_sub hl [1, 0] rfl)
