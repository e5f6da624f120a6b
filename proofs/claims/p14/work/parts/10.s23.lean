set_option maxHeartbeats 8000000 in
set_option maxRecDepth 100000 in
theorem s_X7_fresh_v0 (l : Launch) (dC : Nat → ClassId) (dI : Nat → Nat → Nat) (cI cJ cZ cM : ClassId) (h : Nat) (r : Nat → Nat) (i : Nat → Int32) (j : Nat → Int64) (f0 : Nat → Int32) (f14 : Nat → Int32) (f18 : Nat → Int32) (g34 : Nat → Int64) (g35 : Nat → Int64) (hI : mR i) (hf0 : aR f0 0 255) (hf14 : aR f14 0 10) (hf18 : aR f18 0 12) : k_Ml l yX7_fresh wsX7_fresh ({ frames := 3, cells := 0, slots := 0, locals := 87 }) (dC, dI) vwCl (tyy cI cJ cZ cM) [(h, .inr (7, oM r i j)), ((r 0), .inl (cI, 1800, .inl f0)), ((r 14), .inl (cI, 2, .inl f14)), ((r 18), .inl (cI, 2, .inl f18)), ((r 34), .inl (cJ, 20, .inr (.inl g34))), ((r 35), .inl (cJ, 24, .inr (.inl g35)))] [.ref h] 0 0 (fun (u9 : SU) => [(h, .inr (7, oM r (upd (upd (upd (upd (upd (upd (upd i 3 (u9.1 0)) 4 (u9.1 1)) 5 (u9.1 2)) 6 (u9.1 3)) 8 (u9.1 4)) 9 (u9.1 5)) 12 (u9.1 6)) (vp_updL j 7 (u9.2.1 0)))), ((r 0), .inl (cI, 1800, .inl f0)), ((r 14), .inl (cI, 2, .inl f14)), ((r 18), .inl (cI, 2, .inl f18)), ((r 34), .inl (cJ, 20, .inr (.inl g34))), ((r 35), .inl (cJ, 24, .inr (.inl g35)))]) (fun (r9 : Int64) (u9 : SU) => (iR (u9.1 0) 0 3) ∧ (iR (u9.1 1) 0 1600) ∧ (iR (u9.1 2) 0 1600) ∧ (iR (u9.1 3) 0 9999) ∧ (iR (u9.1 4) 0 6)) := by
  refine fun sz => k_enter (cc := cX7_fresh) (maxL := 3) (ret := some (.long)) (Qc := fun A => va_Ql (fun (r9 : Int64) (u9 : SU) => (iR (u9.1 0) 0 3) ∧ (iR (u9.1 1) 0 1600) ∧ (iR (u9.1 2) 0 1600) ∧ (iR (u9.1 3) 0 9999) ∧ (iR (u9.1 4) 0 6)) (fun u => k_B (dC, dI) vwCl (tyy cI cJ cZ cM) A ((fun (u9 : SU) => [(h, .inr (7, oM r (upd (upd (upd (upd (upd (upd (upd i 3 (u9.1 0)) 4 (u9.1 1)) 5 (u9.1 2)) 6 (u9.1 3)) 8 (u9.1 4)) 9 (u9.1 5)) 12 (u9.1 6)) (vp_updL j 7 (u9.2.1 0)))), ((r 0), .inl (cI, 1800, .inl f0)), ((r 14), .inl (cI, 2, .inl f14)), ((r 18), .inl (cI, 2, .inl f18)), ((r 34), .inl (cJ, 20, .inr (.inl g34))), ((r 35), .inl (cJ, 24, .inr (.inl g35)))]) u)) A) sz (by decide +kernel) rfl (Nat.le_of_ble_eq_true rfl) (fun p e s m args below meth c A ls H locs B hP hD hS hl => ?_)
  obtain ⟨hx, hb, hml, hown, hts, hr, hlk, hnm, hK, hA, hN, hC⟩ := id B
  have hown : s.vm.findClass RX7 = some m.cls := hown
  have hl : lv_has ls 3 [(0, .ref h)] := hl
  have w_0 : (Cond.fieldLink RX7 36 "WishSeaModel" "faultKind" "I").before args s = true := hts _ (List.mem_of_getElem? (i := 1) rfl)
  have w_1 : (Cond.fieldLink RX7 20 "WishSeaModel" "sign" "I").before args s = true := hts _ (List.mem_of_getElem? (i := 2) rfl)
  have w_2 : (Cond.fieldLink RX7 32 "WishSeaModel" "word" "J").before args s = true := hts _ (List.mem_of_getElem? (i := 3) rfl)
  have w_3 : (Cond.fieldLink RX7 23 "WishSeaModel" "signAt" "I").before args s = true := hts _ (List.mem_of_getElem? (i := 4) rfl)
  have hinX7 : ∀ w ∈ u_ws RX7 TX7 92, w ∈ wsX7_fresh := fun _ h => List.mem_cons_of_mem _ (List.mem_append_right _ h)
  refine lv_aload_n hx hb dX7_fresh_0 rfl (lv_at hl 0 rfl) ?_
  refine k_cv (wc := [(h, .inr (7, oM r i j))]) (wr := [((r 0), .inl (cI, 1800, .inl f0)), ((r 14), .inl (cI, 2, .inl f14)), ((r 18), .inl (cI, 2, .inl f18)), ((r 34), .inl (cJ, 20, .inr (.inl g34))), ((r 35), .inl (cJ, 24, .inr (.inl g35)))]) (fun hPc hDc hFc => va_runV (As := []) (rest := []) ⟨hx, hb, hml, hown, hts⟩ (s_X7_lex_v5 l dC dI cI cJ cZ cM h r i j hI H.size) (cwV 0 hts gX7_fresh_X7_lex rfl rfl rfl (by decide +kernel) ⟨(Nat.le_of_ble_eq_true rfl), (Nat.le_of_ble_eq_true rfl)⟩) (k_pV hPc hDc hK hN hC hS hFc hP (q0 := 0) (ci := 7) rfl rfl) rfl rfl hl.1 rfl (lv_room (Nat.le_of_ble_eq_true rfl)) dX7_fresh_1 ⟨(Nat.le_of_ble_eq_true rfl), (Nat.le_of_ble_eq_true rfl)⟩) hP hD hS hA [0] [1, 2, 3, 4, 5] rfl rfl rfl rfl (by decide) (fun _ => rfl) 0 0 rfl rfl (fun u_1 H locs hw hP hD hS => ?_)
  have g_1_0 := hw
  have hP : va_P (dC, dI) vwCl [((r 0), .inl (cI, 1800, .inl f0)), ((r 14), .inl (cI, 2, .inl f14)), ((r 18), .inl (cI, 2, .inl f18)), ((r 34), .inl (cJ, 20, .inr (.inl g34))), ((r 35), .inl (cJ, 24, .inr (.inl g35))), (h, .inr (7, oM r (upd (upd i 8 (u_1.1 0)) 9 (u_1.1 1)) j))] H := hP
  have hD : va_D A [((r 0), .inl (cI, 1800, .inl f0)), ((r 14), .inl (cI, 2, .inl f14)), ((r 18), .inl (cI, 2, .inl f18)), ((r 34), .inl (cJ, 20, .inr (.inl g34))), ((r 35), .inl (cJ, 24, .inr (.inl g35))), (h, .inr (7, oM r (upd (upd i 8 (u_1.1 0)) 9 (u_1.1 1)) j))] := hD
  refine lv_aload_n hx hb dX7_fresh_4 rfl (lv_at hl 0 rfl) ?_
  refine k_get (D := (dC, dI)) (ci := 7) (v := .int (u_1.1 0)) (C := RX7) (T := TX7) (N := 92) hx hb hts hinX7 hown hK hP 5 rfl rfl 8 (by decide) w_0 rfl rfl dX7_fresh_5 ?_
  refine lv_if_le (tgt := 13) hx hb dX7_fresh_8 (by decide) (fun c_8 => ?_) (fun c_8 => ?_)
  · have c_8 : (u_1.1 0) ≤ 0 := c_8
    have f_13_1 : iR (u_1.1 0) 0 0 := iR_leL c_8 g_1_0 (iR_c (n := 0) (a := 0) (b := 0) (by decide +kernel) (by decide +kernel)) (by decide +kernel)
    refine lv_aload_n hx hb dX7_fresh_13 rfl (lv_at hl 0 rfl) ?_
    have f_14_2 : iR (i 3) 0 3 := hI 3
    refine k_get (D := (dC, dI)) (ci := 7) (v := .int (i 3)) (C := RX7) (T := TX7) (N := 92) hx hb hts hinX7 hown hK hP 5 rfl rfl 3 (by decide) w_1 rfl rfl dX7_fresh_14 ?_
    refine lv_iconst (v := 1) hx hb dX7_fresh_17 (by decide +kernel) ?_
    have J_41 : ∀ (j41_M0_8 : Int32) (j41_M0_9 : Int32) (hj41_M0_8 : iR j41_M0_8 0 6) (H : Heap) (locs : List Loc) (ls : Array Slot), va_P (dC, dI) vwCl [(h, .inr (7, oM r (upd (upd i 8 j41_M0_8) 9 j41_M0_9) j)), ((r 0), .inl (cI, 1800, .inl f0)), ((r 14), .inl (cI, 2, .inl f14)), ((r 18), .inl (cI, 2, .inl f18)), ((r 34), .inl (cJ, 20, .inr (.inl g34))), ((r 35), .inl (cJ, 24, .inr (.inl g35)))] H → va_D A [(h, .inr (7, oM r (upd (upd i 8 j41_M0_8) 9 j41_M0_9) j)), ((r 0), .inl (cI, 1800, .inl f0)), ((r 14), .inl (cI, 2, .inl f14)), ((r 18), .inl (cI, 2, .inl f18)), ((r 34), .inl (cJ, 20, .inr (.inl g34))), ((r 35), .inl (cJ, 24, .inr (.inl g35)))] → va_S A s.heap H locs → lv_has ls 3 [(0, .ref h)] → W p l e ({ frames := 3, cells := 0, slots := 0, locals := 87 }) s m args below meth c H locs 0 0 (MQ below (va_Ql (fun (r9 : Int64) (u9 : SU) => (iR (u9.1 0) 0 3) ∧ (iR (u9.1 1) 0 1600) ∧ (iR (u9.1 2) 0 1600) ∧ (iR (u9.1 3) 0 9999) ∧ (iR (u9.1 4) 0 6)) (fun u => k_B (dC, dI) vwCl (tyy cI cJ cZ cM) A ((fun (u9 : SU) => [(h, .inr (7, oM r (upd (upd (upd (upd (upd (upd (upd i 3 (u9.1 0)) 4 (u9.1 1)) 5 (u9.1 2)) 6 (u9.1 3)) 8 (u9.1 4)) 9 (u9.1 5)) 12 (u9.1 6)) (vp_updL j 7 (u9.2.1 0)))), ((r 0), .inl (cI, 1800, .inl f0)), ((r 14), .inl (cI, 2, .inl f14)), ((r 18), .inl (cI, 2, .inl f18)), ((r 34), .inl (cJ, 20, .inr (.inl g34))), ((r 35), .inl (cJ, 24, .inr (.inl g35)))]) u)) A) args s 0 0 A) (F0 m 41 ls []) := by
      intro j41_M0_8 j41_M0_9 hj41_M0_8 H locs ls hP hD hS hl
      refine lv_iconst (v := 0) hx hb dX7_fresh_41 (by decide +kernel) ?_
      refine lv_istore_n (lv' := [(1, .int 0), (0, .ref h)]) hx hb dX7_fresh_42 rfl hl (by decide) rfl (fun ls hl => ?_)
      refine lv_iload_n hx hb dX7_fresh_43 rfl (lv_at hl 0 rfl) ?_
      refine lv_iconst (v := 1) hx hb dX7_fresh_44 (by decide +kernel) ?_
      have J_83p42 : ∀  (k83p42_0 : iR j41_M0_8 1 6) (q83p42_0 : ¬ j41_M0_8 = 0) (H : Heap) (locs : List Loc) (ls : Array Slot), va_P (dC, dI) vwCl [(h, .inr (7, oM r (upd (upd i 8 j41_M0_8) 9 j41_M0_9) j)), ((r 0), .inl (cI, 1800, .inl f0)), ((r 14), .inl (cI, 2, .inl f14)), ((r 18), .inl (cI, 2, .inl f18)), ((r 34), .inl (cJ, 20, .inr (.inl g34))), ((r 35), .inl (cJ, 24, .inr (.inl g35)))] H → va_D A [(h, .inr (7, oM r (upd (upd i 8 j41_M0_8) 9 j41_M0_9) j)), ((r 0), .inl (cI, 1800, .inl f0)), ((r 14), .inl (cI, 2, .inl f14)), ((r 18), .inl (cI, 2, .inl f18)), ((r 34), .inl (cJ, 20, .inr (.inl g34))), ((r 35), .inl (cJ, 24, .inr (.inl g35)))] → va_S A s.heap H locs → lv_has ls 3 [(0, .ref h)] → W p l e ({ frames := 3, cells := 0, slots := 0, locals := 87 }) s m args below meth c H locs 0 0 (MQ below (va_Ql (fun (r9 : Int64) (u9 : SU) => (iR (u9.1 0) 0 3) ∧ (iR (u9.1 1) 0 1600) ∧ (iR (u9.1 2) 0 1600) ∧ (iR (u9.1 3) 0 9999) ∧ (iR (u9.1 4) 0 6)) (fun u => k_B (dC, dI) vwCl (tyy cI cJ cZ cM) A ((fun (u9 : SU) => [(h, .inr (7, oM r (upd (upd (upd (upd (upd (upd (upd i 3 (u9.1 0)) 4 (u9.1 1)) 5 (u9.1 2)) 6 (u9.1 3)) 8 (u9.1 4)) 9 (u9.1 5)) 12 (u9.1 6)) (vp_updL j 7 (u9.2.1 0)))), ((r 0), .inl (cI, 1800, .inl f0)), ((r 14), .inl (cI, 2, .inl f14)), ((r 18), .inl (cI, 2, .inl f18)), ((r 34), .inl (cJ, 20, .inr (.inl g34))), ((r 35), .inl (cJ, 24, .inr (.inl g35)))]) u)) A) args s 0 0 A) (F0 m 83 ls []) := by
        intro  k83p42_0 q83p42_0 H locs ls hP hD hS hl
        refine lv_aload_n hx hb dX7_fresh_83 rfl (lv_at hl 0 rfl) ?_
        refine k_get (D := (dC, dI)) (ci := 7) (v := .long (j 7)) (C := RX7) (T := TX7) (N := 92) hx hb hts hinX7 hown hK hP 0 rfl rfl 7 (by decide) w_2 rfl rfl dX7_fresh_84 ?_
        refine lv_lstore_n (lv' := [(1, .long (j 7)), (0, .ref h)]) hx hb dX7_fresh_87 rfl hl (by decide) rfl (fun ls hl => ?_)
        refine lv_aload_n hx hb dX7_fresh_88 rfl (lv_at hl 1 rfl) ?_
        refine k_get (D := (dC, dI)) (ci := 7) (v := .int j41_M0_8) (C := RX7) (T := TX7) (N := 92) hx hb hts hinX7 hown hK hP 0 rfl rfl 8 (by decide) w_0 rfl rfl dX7_fresh_89 ?_
        have J_99p42 : ∀   (H : Heap) (locs : List Loc) (ls : Array Slot), va_P (dC, dI) vwCl [(h, .inr (7, oM r (upd (upd i 8 j41_M0_8) 9 j41_M0_9) j)), ((r 0), .inl (cI, 1800, .inl f0)), ((r 14), .inl (cI, 2, .inl f14)), ((r 18), .inl (cI, 2, .inl f18)), ((r 34), .inl (cJ, 20, .inr (.inl g34))), ((r 35), .inl (cJ, 24, .inr (.inl g35)))] H → va_D A [(h, .inr (7, oM r (upd (upd i 8 j41_M0_8) 9 j41_M0_9) j)), ((r 0), .inl (cI, 1800, .inl f0)), ((r 14), .inl (cI, 2, .inl f14)), ((r 18), .inl (cI, 2, .inl f18)), ((r 34), .inl (cJ, 20, .inr (.inl g34))), ((r 35), .inl (cJ, 24, .inr (.inl g35)))] → va_S A s.heap H locs → lv_has ls 3 [(1, .long (j 7))] → W p l e ({ frames := 3, cells := 0, slots := 0, locals := 87 }) s m args below meth c H locs 0 0 (MQ below (va_Ql (fun (r9 : Int64) (u9 : SU) => (iR (u9.1 0) 0 3) ∧ (iR (u9.1 1) 0 1600) ∧ (iR (u9.1 2) 0 1600) ∧ (iR (u9.1 3) 0 9999) ∧ (iR (u9.1 4) 0 6)) (fun u => k_B (dC, dI) vwCl (tyy cI cJ cZ cM) A ((fun (u9 : SU) => [(h, .inr (7, oM r (upd (upd (upd (upd (upd (upd (upd i 3 (u9.1 0)) 4 (u9.1 1)) 5 (u9.1 2)) 6 (u9.1 3)) 8 (u9.1 4)) 9 (u9.1 5)) 12 (u9.1 6)) (vp_updL j 7 (u9.2.1 0)))), ((r 0), .inl (cI, 1800, .inl f0)), ((r 14), .inl (cI, 2, .inl f14)), ((r 18), .inl (cI, 2, .inl f18)), ((r 34), .inl (cJ, 20, .inr (.inl g34))), ((r 35), .inl (cJ, 24, .inr (.inl g35)))]) u)) A) args s 0 0 A) (F0 m 99 ls []) := by
          intro   H locs ls hP hD hS hl
          refine lv_lload_n hx hb dX7_fresh_99 rfl (lv_at hl 0 rfl) ?_
          exact k_rl B hP hD hS dX7_fresh_100 ((fun k9 => match k9 with | 0 => (i 3) | 1 => (i 4) | 2 => (i 5) | 3 => (i 6) | 4 => j41_M0_8 | 5 => j41_M0_9 | 6 => (i 12) | _ => 0), (fun k9 => match k9 with | 0 => (j 7) | _ => 0), (fun _ => (fun _ => 0)), (fun _ => (fun _ => 0)), (fun _ => 0)) [0, 1, 2, 3, 4, 5] rfl rfl (Nat.le_of_ble_eq_true rfl) (Nat.le_of_ble_eq_true rfl) ⟨(show iR (i 3) 0 3 from f_14_2), (show iR (i 4) 0 1600 from (hI 4)), (show iR (i 5) 0 1600 from (hI 5)), (show iR (i 6) 0 9999 from (hI 6)), (show iR j41_M0_8 0 6 from (iR_w k83p42_0 (by decide +kernel)))⟩
        refine lv_if_ne (tgt := 99) hx hb dX7_fresh_92 (by decide) (fun c_92p42 => ?_) (fun c_92p42 => ?_)
        · have c_92p42 : ¬ j41_M0_8 = 0 := c_92p42
          exact J_99p42   H locs ls hP hD hS (lv_sub hl [0] rfl)
        · exact iR_cl (iR_eqL (a' := 1) (b' := 0) c_92p42 k83p42_0 (iR_c (n := 0) (a := 0) (b := 0) (by decide +kernel) (by decide +kernel)) (by decide +kernel)) (by decide +kernel)
      refine lv_icmp_gt (tgt := 83) hx hb dX7_fresh_45 (by decide) (fun q9 => absurd q9 (by decide +kernel)) (fun _ => ?_)
      refine lv_aload_n hx hb dX7_fresh_48 rfl (lv_at hl 1 rfl) ?_
      refine k_get (D := (dC, dI)) (ci := 7) (v := .int j41_M0_8) (C := RX7) (T := TX7) (N := 92) hx hb hts hinX7 hown hK hP 0 rfl rfl 8 (by decide) w_0 rfl rfl dX7_fresh_49 ?_
      refine lv_if_ne (tgt := 83) hx hb dX7_fresh_52 (by decide) (fun c_52p42 => ?_) (fun c_52p42 => ?_)
      · have c_52p42 : ¬ j41_M0_8 = 0 := c_52p42
        have f_83p42_1 : iR j41_M0_8 1 6 := iR_neL c_52p42 hj41_M0_8 (iR_c (n := 0) (a := 0) (b := 0) (by decide +kernel) (by decide +kernel)) (by decide +kernel)
        exact J_83p42  f_83p42_1 c_52p42 H locs ls hP hD hS (lv_sub hl [1] rfl)
      · have c_52p42 : j41_M0_8 = 0 := c_52p42
        have f_55p42_1 : iR j41_M0_8 0 0 := iR_eqL c_52p42 hj41_M0_8 (iR_c (n := 0) (a := 0) (b := 0) (by decide +kernel) (by decide +kernel)) (by decide +kernel)
        refine lv_aload_n hx hb dX7_fresh_55 rfl (lv_at hl 1 rfl) ?_
        refine lv_iload_n hx hb dX7_fresh_56 rfl (lv_at hl 0 rfl) ?_
        refine lv_aload_n hx hb dX7_fresh_57 rfl (lv_at hl 1 rfl) ?_
        refine k_get (D := (dC, dI)) (ci := 7) (v := .long (j 7)) (C := RX7) (T := TX7) (N := 92) hx hb hts hinX7 hown hK hP 0 rfl rfl 7 (by decide) w_2 rfl rfl dX7_fresh_58 ?_
        refine k_ci (wc := [(h, .inr (7, oM r (upd (upd i 8 j41_M0_8) 9 j41_M0_9) j)), ((r 14), .inl (cI, 2, .inl f14)), ((r 34), .inl (cJ, 20, .inr (.inl g34)))]) (wr := [((r 0), .inl (cI, 1800, .inl f0)), ((r 18), .inl (cI, 2, .inl f18)), ((r 35), .inl (cJ, 24, .inr (.inl g35)))]) (fun hPc hDc hFc => va_runV (As := [.int 0, .long (j 7)]) (rest := []) ⟨hx, hb, hml, hown, hts⟩ (s_X7_named_v2 l dC dI cI cJ cZ cM h r (upd (upd i 8 j41_M0_8) 9 j41_M0_9) j (j 7) f14 g34 (mR_upd 9 (mR_upd 8 hI (show iR _ (loI 8) (hiI 8) from (iR_w f_55p42_1 (by decide +kernel)))) (show iR _ (loI 9) (hiI 9) from (iR_top _))) hf14 H.size) (cwV 2 hts gX7_fresh_X7_named rfl rfl rfl (by decide +kernel) ⟨(Nat.le_of_ble_eq_true rfl), (Nat.le_of_ble_eq_true rfl)⟩) (k_pV hPc hDc hK hN hC hS hFc hP (q0 := 0) (ci := 7) rfl rfl) rfl rfl hl.1 rfl (lv_room (Nat.le_of_ble_eq_true rfl)) dX7_fresh_61 ⟨(Nat.le_of_ble_eq_true rfl), (Nat.le_of_ble_eq_true rfl)⟩) hP hD hS hA [0, 2, 4] [1, 3, 5] rfl rfl rfl rfl (by decide) (fun _ => rfl) 0 0 rfl rfl (fun r_61p42 u_61p42 H locs hw hP hD hS => ?_)
        have g_61p42_0 := hw
        have hP : va_P (dC, dI) vwCl [((r 0), .inl (cI, 1800, .inl f0)), ((r 18), .inl (cI, 2, .inl f18)), ((r 35), .inl (cJ, 24, .inr (.inl g35))), (h, .inr (7, oM r (upd (upd i 8 j41_M0_8) 9 j41_M0_9) j)), ((r 14), .inl (cI, 2, .inl f14)), ((r 34), .inl (cJ, 20, .inr (.inl g34)))] H := hP
        have hD : va_D A [((r 0), .inl (cI, 1800, .inl f0)), ((r 18), .inl (cI, 2, .inl f18)), ((r 35), .inl (cJ, 24, .inr (.inl g35))), (h, .inr (7, oM r (upd (upd i 8 j41_M0_8) 9 j41_M0_9) j)), ((r 14), .inl (cI, 2, .inl f14)), ((r 34), .inl (cJ, 20, .inr (.inl g34)))] := hD
        refine lv_iconst (v := (-1)) hx hb dX7_fresh_64 (by decide +kernel) ?_
        have J_77p42 : ∀ (j77p42_M0_8 : Int32) (j77p42_M0_9 : Int32) (hj77p42_M0_8 : iR j77p42_M0_8 0 6) (H : Heap) (locs : List Loc) (ls : Array Slot), va_P (dC, dI) vwCl [(h, .inr (7, oM r (upd (upd i 8 j77p42_M0_8) 9 j77p42_M0_9) j)), ((r 0), .inl (cI, 1800, .inl f0)), ((r 14), .inl (cI, 2, .inl f14)), ((r 18), .inl (cI, 2, .inl f18)), ((r 34), .inl (cJ, 20, .inr (.inl g34))), ((r 35), .inl (cJ, 24, .inr (.inl g35)))] H → va_D A [(h, .inr (7, oM r (upd (upd i 8 j77p42_M0_8) 9 j77p42_M0_9) j)), ((r 0), .inl (cI, 1800, .inl f0)), ((r 14), .inl (cI, 2, .inl f14)), ((r 18), .inl (cI, 2, .inl f18)), ((r 34), .inl (cJ, 20, .inr (.inl g34))), ((r 35), .inl (cJ, 24, .inr (.inl g35)))] → va_S A s.heap H locs → lv_has ls 3 [(0, .ref h), (1, .int 0)] → W p l e ({ frames := 3, cells := 0, slots := 0, locals := 87 }) s m args below meth c H locs 0 0 (MQ below (va_Ql (fun (r9 : Int64) (u9 : SU) => (iR (u9.1 0) 0 3) ∧ (iR (u9.1 1) 0 1600) ∧ (iR (u9.1 2) 0 1600) ∧ (iR (u9.1 3) 0 9999) ∧ (iR (u9.1 4) 0 6)) (fun u => k_B (dC, dI) vwCl (tyy cI cJ cZ cM) A ((fun (u9 : SU) => [(h, .inr (7, oM r (upd (upd (upd (upd (upd (upd (upd i 3 (u9.1 0)) 4 (u9.1 1)) 5 (u9.1 2)) 6 (u9.1 3)) 8 (u9.1 4)) 9 (u9.1 5)) 12 (u9.1 6)) (vp_updL j 7 (u9.2.1 0)))), ((r 0), .inl (cI, 1800, .inl f0)), ((r 14), .inl (cI, 2, .inl f14)), ((r 18), .inl (cI, 2, .inl f18)), ((r 34), .inl (cJ, 20, .inr (.inl g34))), ((r 35), .inl (cJ, 24, .inr (.inl g35)))]) u)) A) args s 0 0 A) (F0 m 77 ls []) := by
          intro j77p42_M0_8 j77p42_M0_9 hj77p42_M0_8 H locs ls hP hD hS hl
          refine lv_iinc (v := 1) (lv' := [(1, .int 1), (0, .ref h)]) hx hb dX7_fresh_77 hl (k := 1) rfl (by decide +kernel) (by decide) rfl (fun ls hl => ?_)
          refine lv_goto (tgt := 43) hx hb dX7_fresh_80 (by decide) ?_
          refine lv_iload_n hx hb dX7_fresh_43 rfl (lv_at hl 0 rfl) ?_
          refine lv_iconst (v := 1) hx hb dX7_fresh_44 (by decide +kernel) ?_
          have J_83p42p80 : ∀  (k83p42p80_0 : iR j77p42_M0_8 1 6) (q83p42p80_0 : ¬ j77p42_M0_8 = 0) (H : Heap) (locs : List Loc) (ls : Array Slot), va_P (dC, dI) vwCl [(h, .inr (7, oM r (upd (upd i 8 j77p42_M0_8) 9 j77p42_M0_9) j)), ((r 0), .inl (cI, 1800, .inl f0)), ((r 14), .inl (cI, 2, .inl f14)), ((r 18), .inl (cI, 2, .inl f18)), ((r 34), .inl (cJ, 20, .inr (.inl g34))), ((r 35), .inl (cJ, 24, .inr (.inl g35)))] H → va_D A [(h, .inr (7, oM r (upd (upd i 8 j77p42_M0_8) 9 j77p42_M0_9) j)), ((r 0), .inl (cI, 1800, .inl f0)), ((r 14), .inl (cI, 2, .inl f14)), ((r 18), .inl (cI, 2, .inl f18)), ((r 34), .inl (cJ, 20, .inr (.inl g34))), ((r 35), .inl (cJ, 24, .inr (.inl g35)))] → va_S A s.heap H locs → lv_has ls 3 [(0, .ref h)] → W p l e ({ frames := 3, cells := 0, slots := 0, locals := 87 }) s m args below meth c H locs 0 0 (MQ below (va_Ql (fun (r9 : Int64) (u9 : SU) => (iR (u9.1 0) 0 3) ∧ (iR (u9.1 1) 0 1600) ∧ (iR (u9.1 2) 0 1600) ∧ (iR (u9.1 3) 0 9999) ∧ (iR (u9.1 4) 0 6)) (fun u => k_B (dC, dI) vwCl (tyy cI cJ cZ cM) A ((fun (u9 : SU) => [(h, .inr (7, oM r (upd (upd (upd (upd (upd (upd (upd i 3 (u9.1 0)) 4 (u9.1 1)) 5 (u9.1 2)) 6 (u9.1 3)) 8 (u9.1 4)) 9 (u9.1 5)) 12 (u9.1 6)) (vp_updL j 7 (u9.2.1 0)))), ((r 0), .inl (cI, 1800, .inl f0)), ((r 14), .inl (cI, 2, .inl f14)), ((r 18), .inl (cI, 2, .inl f18)), ((r 34), .inl (cJ, 20, .inr (.inl g34))), ((r 35), .inl (cJ, 24, .inr (.inl g35)))]) u)) A) args s 0 0 A) (F0 m 83 ls []) := by
            intro  k83p42p80_0 q83p42p80_0 H locs ls hP hD hS hl
            refine lv_aload_n hx hb dX7_fresh_83 rfl (lv_at hl 0 rfl) ?_
            refine k_get (D := (dC, dI)) (ci := 7) (v := .long (j 7)) (C := RX7) (T := TX7) (N := 92) hx hb hts hinX7 hown hK hP 0 rfl rfl 7 (by decide) w_2 rfl rfl dX7_fresh_84 ?_
            refine lv_lstore_n (lv' := [(1, .long (j 7)), (0, .ref h)]) hx hb dX7_fresh_87 rfl hl (by decide) rfl (fun ls hl => ?_)
            refine lv_aload_n hx hb dX7_fresh_88 rfl (lv_at hl 1 rfl) ?_
            refine k_get (D := (dC, dI)) (ci := 7) (v := .int j77p42_M0_8) (C := RX7) (T := TX7) (N := 92) hx hb hts hinX7 hown hK hP 0 rfl rfl 8 (by decide) w_0 rfl rfl dX7_fresh_89 ?_
            have J_99p42p80 : ∀   (H : Heap) (locs : List Loc) (ls : Array Slot), va_P (dC, dI) vwCl [(h, .inr (7, oM r (upd (upd i 8 j77p42_M0_8) 9 j77p42_M0_9) j)), ((r 0), .inl (cI, 1800, .inl f0)), ((r 14), .inl (cI, 2, .inl f14)), ((r 18), .inl (cI, 2, .inl f18)), ((r 34), .inl (cJ, 20, .inr (.inl g34))), ((r 35), .inl (cJ, 24, .inr (.inl g35)))] H → va_D A [(h, .inr (7, oM r (upd (upd i 8 j77p42_M0_8) 9 j77p42_M0_9) j)), ((r 0), .inl (cI, 1800, .inl f0)), ((r 14), .inl (cI, 2, .inl f14)), ((r 18), .inl (cI, 2, .inl f18)), ((r 34), .inl (cJ, 20, .inr (.inl g34))), ((r 35), .inl (cJ, 24, .inr (.inl g35)))] → va_S A s.heap H locs → lv_has ls 3 [(1, .long (j 7))] → W p l e ({ frames := 3, cells := 0, slots := 0, locals := 87 }) s m args below meth c H locs 0 0 (MQ below (va_Ql (fun (r9 : Int64) (u9 : SU) => (iR (u9.1 0) 0 3) ∧ (iR (u9.1 1) 0 1600) ∧ (iR (u9.1 2) 0 1600) ∧ (iR (u9.1 3) 0 9999) ∧ (iR (u9.1 4) 0 6)) (fun u => k_B (dC, dI) vwCl (tyy cI cJ cZ cM) A ((fun (u9 : SU) => [(h, .inr (7, oM r (upd (upd (upd (upd (upd (upd (upd i 3 (u9.1 0)) 4 (u9.1 1)) 5 (u9.1 2)) 6 (u9.1 3)) 8 (u9.1 4)) 9 (u9.1 5)) 12 (u9.1 6)) (vp_updL j 7 (u9.2.1 0)))), ((r 0), .inl (cI, 1800, .inl f0)), ((r 14), .inl (cI, 2, .inl f14)), ((r 18), .inl (cI, 2, .inl f18)), ((r 34), .inl (cJ, 20, .inr (.inl g34))), ((r 35), .inl (cJ, 24, .inr (.inl g35)))]) u)) A) args s 0 0 A) (F0 m 99 ls []) := by
              intro   H locs ls hP hD hS hl
              refine lv_lload_n hx hb dX7_fresh_99 rfl (lv_at hl 0 rfl) ?_
              exact k_rl B hP hD hS dX7_fresh_100 ((fun k9 => match k9 with | 0 => (i 3) | 1 => (i 4) | 2 => (i 5) | 3 => (i 6) | 4 => j77p42_M0_8 | 5 => j77p42_M0_9 | 6 => (i 12) | _ => 0), (fun k9 => match k9 with | 0 => (j 7) | _ => 0), (fun _ => (fun _ => 0)), (fun _ => (fun _ => 0)), (fun _ => 0)) [0, 1, 2, 3, 4, 5] rfl rfl (Nat.le_of_ble_eq_true rfl) (Nat.le_of_ble_eq_true rfl) ⟨(show iR (i 3) 0 3 from f_14_2), (show iR (i 4) 0 1600 from (hI 4)), (show iR (i 5) 0 1600 from (hI 5)), (show iR (i 6) 0 9999 from (hI 6)), (show iR j77p42_M0_8 0 6 from (iR_w k83p42p80_0 (by decide +kernel)))⟩
            refine lv_if_ne (tgt := 99) hx hb dX7_fresh_92 (by decide) (fun c_92p42p80 => ?_) (fun c_92p42p80 => ?_)
            · have c_92p42p80 : ¬ j77p42_M0_8 = 0 := c_92p42p80
              exact J_99p42p80   H locs ls hP hD hS (lv_sub hl [0] rfl)
            · exact iR_cl (iR_eqL (a' := 1) (b' := 0) c_92p42p80 k83p42p80_0 (iR_c (n := 0) (a := 0) (b := 0) (by decide +kernel) (by decide +kernel)) (by decide +kernel)) (by decide +kernel)
          refine lv_icmp_gt (tgt := 83) hx hb dX7_fresh_45 (by decide) (fun q9 => absurd q9 (by decide +kernel)) (fun _ => ?_)
          refine lv_aload_n hx hb dX7_fresh_48 rfl (lv_at hl 1 rfl) ?_
          refine k_get (D := (dC, dI)) (ci := 7) (v := .int j77p42_M0_8) (C := RX7) (T := TX7) (N := 92) hx hb hts hinX7 hown hK hP 0 rfl rfl 8 (by decide) w_0 rfl rfl dX7_fresh_49 ?_
          refine lv_if_ne (tgt := 83) hx hb dX7_fresh_52 (by decide) (fun c_52p42p80 => ?_) (fun c_52p42p80 => ?_)
          · have c_52p42p80 : ¬ j77p42_M0_8 = 0 := c_52p42p80
            have f_83p42p80_1 : iR j77p42_M0_8 1 6 := iR_neL c_52p42p80 hj77p42_M0_8 (iR_c (n := 0) (a := 0) (b := 0) (by decide +kernel) (by decide +kernel)) (by decide +kernel)
            exact J_83p42p80  f_83p42p80_1 c_52p42p80 H locs ls hP hD hS (lv_sub hl [1] rfl)
          · have c_52p42p80 : j77p42_M0_8 = 0 := c_52p42p80
            have f_55p42p80_1 : iR j77p42_M0_8 0 0 := iR_eqL c_52p42p80 hj77p42_M0_8 (iR_c (n := 0) (a := 0) (b := 0) (by decide +kernel) (by decide +kernel)) (by decide +kernel)
            refine lv_aload_n hx hb dX7_fresh_55 rfl (lv_at hl 1 rfl) ?_
            refine lv_iload_n hx hb dX7_fresh_56 rfl (lv_at hl 0 rfl) ?_
            refine lv_aload_n hx hb dX7_fresh_57 rfl (lv_at hl 1 rfl) ?_
            refine k_get (D := (dC, dI)) (ci := 7) (v := .long (j 7)) (C := RX7) (T := TX7) (N := 92) hx hb hts hinX7 hown hK hP 0 rfl rfl 7 (by decide) w_2 rfl rfl dX7_fresh_58 ?_
            refine k_ci (wc := [(h, .inr (7, oM r (upd (upd i 8 j77p42_M0_8) 9 j77p42_M0_9) j)), ((r 18), .inl (cI, 2, .inl f18)), ((r 35), .inl (cJ, 24, .inr (.inl g35)))]) (wr := [((r 0), .inl (cI, 1800, .inl f0)), ((r 14), .inl (cI, 2, .inl f14)), ((r 34), .inl (cJ, 20, .inr (.inl g34)))]) (fun hPc hDc hFc => va_runV (As := [.int 1, .long (j 7)]) (rest := []) ⟨hx, hb, hml, hown, hts⟩ (s_X7_named_v3 l dC dI cI cJ cZ cM h r (upd (upd i 8 j77p42_M0_8) 9 j77p42_M0_9) j (j 7) f18 g35 (mR_upd 9 (mR_upd 8 hI (show iR _ (loI 8) (hiI 8) from (iR_w f_55p42p80_1 (by decide +kernel)))) (show iR _ (loI 9) (hiI 9) from (iR_top _))) hf18 H.size) (cwV 2 hts gX7_fresh_X7_named rfl rfl rfl (by decide +kernel) ⟨(Nat.le_of_ble_eq_true rfl), (Nat.le_of_ble_eq_true rfl)⟩) (k_pV hPc hDc hK hN hC hS hFc hP (q0 := 0) (ci := 7) rfl rfl) rfl rfl hl.1 rfl (lv_room (Nat.le_of_ble_eq_true rfl)) dX7_fresh_61 ⟨(Nat.le_of_ble_eq_true rfl), (Nat.le_of_ble_eq_true rfl)⟩) hP hD hS hA [0, 3, 5] [1, 2, 4] rfl rfl rfl rfl (by decide) (fun _ => rfl) 0 0 rfl rfl (fun r_61p42p80 u_61p42p80 H locs hw hP hD hS => ?_)
            have g_61p42p80_0 := hw
            have hP : va_P (dC, dI) vwCl [((r 0), .inl (cI, 1800, .inl f0)), ((r 14), .inl (cI, 2, .inl f14)), ((r 34), .inl (cJ, 20, .inr (.inl g34))), (h, .inr (7, oM r (upd (upd i 8 j77p42_M0_8) 9 j77p42_M0_9) j)), ((r 18), .inl (cI, 2, .inl f18)), ((r 35), .inl (cJ, 24, .inr (.inl g35)))] H := hP
            have hD : va_D A [((r 0), .inl (cI, 1800, .inl f0)), ((r 14), .inl (cI, 2, .inl f14)), ((r 34), .inl (cJ, 20, .inr (.inl g34))), (h, .inr (7, oM r (upd (upd i 8 j77p42_M0_8) 9 j77p42_M0_9) j)), ((r 18), .inl (cI, 2, .inl f18)), ((r 35), .inl (cJ, 24, .inr (.inl g35)))] := hD
            refine lv_iconst (v := (-1)) hx hb dX7_fresh_64 (by decide +kernel) ?_
            have J_77p42p80 : ∀ (j77p42p80_M0_8 : Int32) (j77p42p80_M0_9 : Int32) (hj77p42p80_M0_8 : iR j77p42p80_M0_8 0 6) (H : Heap) (locs : List Loc) (ls : Array Slot), va_P (dC, dI) vwCl [(h, .inr (7, oM r (upd (upd i 8 j77p42p80_M0_8) 9 j77p42p80_M0_9) j)), ((r 0), .inl (cI, 1800, .inl f0)), ((r 14), .inl (cI, 2, .inl f14)), ((r 18), .inl (cI, 2, .inl f18)), ((r 34), .inl (cJ, 20, .inr (.inl g34))), ((r 35), .inl (cJ, 24, .inr (.inl g35)))] H → va_D A [(h, .inr (7, oM r (upd (upd i 8 j77p42p80_M0_8) 9 j77p42p80_M0_9) j)), ((r 0), .inl (cI, 1800, .inl f0)), ((r 14), .inl (cI, 2, .inl f14)), ((r 18), .inl (cI, 2, .inl f18)), ((r 34), .inl (cJ, 20, .inr (.inl g34))), ((r 35), .inl (cJ, 24, .inr (.inl g35)))] → va_S A s.heap H locs → lv_has ls 3 [(0, .ref h), (1, .int 1)] → W p l e ({ frames := 3, cells := 0, slots := 0, locals := 87 }) s m args below meth c H locs 0 0 (MQ below (va_Ql (fun (r9 : Int64) (u9 : SU) => (iR (u9.1 0) 0 3) ∧ (iR (u9.1 1) 0 1600) ∧ (iR (u9.1 2) 0 1600) ∧ (iR (u9.1 3) 0 9999) ∧ (iR (u9.1 4) 0 6)) (fun u => k_B (dC, dI) vwCl (tyy cI cJ cZ cM) A ((fun (u9 : SU) => [(h, .inr (7, oM r (upd (upd (upd (upd (upd (upd (upd i 3 (u9.1 0)) 4 (u9.1 1)) 5 (u9.1 2)) 6 (u9.1 3)) 8 (u9.1 4)) 9 (u9.1 5)) 12 (u9.1 6)) (vp_updL j 7 (u9.2.1 0)))), ((r 0), .inl (cI, 1800, .inl f0)), ((r 14), .inl (cI, 2, .inl f14)), ((r 18), .inl (cI, 2, .inl f18)), ((r 34), .inl (cJ, 20, .inr (.inl g34))), ((r 35), .inl (cJ, 24, .inr (.inl g35)))]) u)) A) args s 0 0 A) (F0 m 77 ls []) := by
              intro j77p42p80_M0_8 j77p42p80_M0_9 hj77p42p80_M0_8 H locs ls hP hD hS hl
              refine lv_iinc (v := 2) (lv' := [(1, .int 2), (0, .ref h)]) hx hb dX7_fresh_77 hl (k := 1) rfl (by decide +kernel) (by decide) rfl (fun ls hl => ?_)
              refine lv_goto (tgt := 43) hx hb dX7_fresh_80 (by decide) ?_
              refine lv_iload_n hx hb dX7_fresh_43 rfl (lv_at hl 0 rfl) ?_
              refine lv_iconst (v := 1) hx hb dX7_fresh_44 (by decide +kernel) ?_
              have J_83p42p80p80 : ∀   (H : Heap) (locs : List Loc) (ls : Array Slot), va_P (dC, dI) vwCl [(h, .inr (7, oM r (upd (upd i 8 j77p42p80_M0_8) 9 j77p42p80_M0_9) j)), ((r 0), .inl (cI, 1800, .inl f0)), ((r 14), .inl (cI, 2, .inl f14)), ((r 18), .inl (cI, 2, .inl f18)), ((r 34), .inl (cJ, 20, .inr (.inl g34))), ((r 35), .inl (cJ, 24, .inr (.inl g35)))] H → va_D A [(h, .inr (7, oM r (upd (upd i 8 j77p42p80_M0_8) 9 j77p42p80_M0_9) j)), ((r 0), .inl (cI, 1800, .inl f0)), ((r 14), .inl (cI, 2, .inl f14)), ((r 18), .inl (cI, 2, .inl f18)), ((r 34), .inl (cJ, 20, .inr (.inl g34))), ((r 35), .inl (cJ, 24, .inr (.inl g35)))] → va_S A s.heap H locs → lv_has ls 3 [(0, .ref h)] → W p l e ({ frames := 3, cells := 0, slots := 0, locals := 87 }) s m args below meth c H locs 0 0 (MQ below (va_Ql (fun (r9 : Int64) (u9 : SU) => (iR (u9.1 0) 0 3) ∧ (iR (u9.1 1) 0 1600) ∧ (iR (u9.1 2) 0 1600) ∧ (iR (u9.1 3) 0 9999) ∧ (iR (u9.1 4) 0 6)) (fun u => k_B (dC, dI) vwCl (tyy cI cJ cZ cM) A ((fun (u9 : SU) => [(h, .inr (7, oM r (upd (upd (upd (upd (upd (upd (upd i 3 (u9.1 0)) 4 (u9.1 1)) 5 (u9.1 2)) 6 (u9.1 3)) 8 (u9.1 4)) 9 (u9.1 5)) 12 (u9.1 6)) (vp_updL j 7 (u9.2.1 0)))), ((r 0), .inl (cI, 1800, .inl f0)), ((r 14), .inl (cI, 2, .inl f14)), ((r 18), .inl (cI, 2, .inl f18)), ((r 34), .inl (cJ, 20, .inr (.inl g34))), ((r 35), .inl (cJ, 24, .inr (.inl g35)))]) u)) A) args s 0 0 A) (F0 m 83 ls []) := by
                intro   H locs ls hP hD hS hl
                refine lv_aload_n hx hb dX7_fresh_83 rfl (lv_at hl 0 rfl) ?_
                refine k_get (D := (dC, dI)) (ci := 7) (v := .long (j 7)) (C := RX7) (T := TX7) (N := 92) hx hb hts hinX7 hown hK hP 0 rfl rfl 7 (by decide) w_2 rfl rfl dX7_fresh_84 ?_
                refine lv_lstore_n (lv' := [(1, .long (j 7)), (0, .ref h)]) hx hb dX7_fresh_87 rfl hl (by decide) rfl (fun ls hl => ?_)
                refine lv_aload_n hx hb dX7_fresh_88 rfl (lv_at hl 1 rfl) ?_
                refine k_get (D := (dC, dI)) (ci := 7) (v := .int j77p42p80_M0_8) (C := RX7) (T := TX7) (N := 92) hx hb hts hinX7 hown hK hP 0 rfl rfl 8 (by decide) w_0 rfl rfl dX7_fresh_89 ?_
                have J_99p42p80p80 : ∀ (j99p42p80p80_M0_3 : Int32) (j99p42p80p80_M0_4 : Int32) (j99p42p80p80_M0_5 : Int32) (j99p42p80p80_M0_6 : Int32) (j99p42p80p80_M0_7 : Int64) (j99p42p80p80_M0_12 : Int32) (hj99p42p80p80_M0_3 : iR j99p42p80p80_M0_3 0 3) (hj99p42p80p80_M0_4 : iR j99p42p80p80_M0_4 0 1600) (hj99p42p80p80_M0_5 : iR j99p42p80p80_M0_5 0 1600) (hj99p42p80p80_M0_6 : iR j99p42p80p80_M0_6 0 9999) (H : Heap) (locs : List Loc) (ls : Array Slot), va_P (dC, dI) vwCl [(h, .inr (7, oM r (upd (upd (upd (upd (upd (upd (upd i 3 j99p42p80p80_M0_3) 4 j99p42p80p80_M0_4) 5 j99p42p80p80_M0_5) 6 j99p42p80p80_M0_6) 8 j77p42p80_M0_8) 9 j77p42p80_M0_9) 12 j99p42p80p80_M0_12) (vp_updL j 7 j99p42p80p80_M0_7))), ((r 0), .inl (cI, 1800, .inl f0)), ((r 14), .inl (cI, 2, .inl f14)), ((r 18), .inl (cI, 2, .inl f18)), ((r 34), .inl (cJ, 20, .inr (.inl g34))), ((r 35), .inl (cJ, 24, .inr (.inl g35)))] H → va_D A [(h, .inr (7, oM r (upd (upd (upd (upd (upd (upd (upd i 3 j99p42p80p80_M0_3) 4 j99p42p80p80_M0_4) 5 j99p42p80p80_M0_5) 6 j99p42p80p80_M0_6) 8 j77p42p80_M0_8) 9 j77p42p80_M0_9) 12 j99p42p80p80_M0_12) (vp_updL j 7 j99p42p80p80_M0_7))), ((r 0), .inl (cI, 1800, .inl f0)), ((r 14), .inl (cI, 2, .inl f14)), ((r 18), .inl (cI, 2, .inl f18)), ((r 34), .inl (cJ, 20, .inr (.inl g34))), ((r 35), .inl (cJ, 24, .inr (.inl g35)))] → va_S A s.heap H locs → lv_has ls 3 [(1, .long (j 7))] → W p l e ({ frames := 3, cells := 0, slots := 0, locals := 87 }) s m args below meth c H locs 0 0 (MQ below (va_Ql (fun (r9 : Int64) (u9 : SU) => (iR (u9.1 0) 0 3) ∧ (iR (u9.1 1) 0 1600) ∧ (iR (u9.1 2) 0 1600) ∧ (iR (u9.1 3) 0 9999) ∧ (iR (u9.1 4) 0 6)) (fun u => k_B (dC, dI) vwCl (tyy cI cJ cZ cM) A ((fun (u9 : SU) => [(h, .inr (7, oM r (upd (upd (upd (upd (upd (upd (upd i 3 (u9.1 0)) 4 (u9.1 1)) 5 (u9.1 2)) 6 (u9.1 3)) 8 (u9.1 4)) 9 (u9.1 5)) 12 (u9.1 6)) (vp_updL j 7 (u9.2.1 0)))), ((r 0), .inl (cI, 1800, .inl f0)), ((r 14), .inl (cI, 2, .inl f14)), ((r 18), .inl (cI, 2, .inl f18)), ((r 34), .inl (cJ, 20, .inr (.inl g34))), ((r 35), .inl (cJ, 24, .inr (.inl g35)))]) u)) A) args s 0 0 A) (F0 m 99 ls []) := by
                  intro j99p42p80p80_M0_3 j99p42p80p80_M0_4 j99p42p80p80_M0_5 j99p42p80p80_M0_6 j99p42p80p80_M0_7 j99p42p80p80_M0_12 hj99p42p80p80_M0_3 hj99p42p80p80_M0_4 hj99p42p80p80_M0_5 hj99p42p80p80_M0_6 H locs ls hP hD hS hl
                  refine lv_lload_n hx hb dX7_fresh_99 rfl (lv_at hl 0 rfl) ?_
                  exact k_rl B hP hD hS dX7_fresh_100 ((fun k9 => match k9 with | 0 => j99p42p80p80_M0_3 | 1 => j99p42p80p80_M0_4 | 2 => j99p42p80p80_M0_5 | 3 => j99p42p80p80_M0_6 | 4 => j77p42p80_M0_8 | 5 => j77p42p80_M0_9 | 6 => j99p42p80p80_M0_12 | _ => 0), (fun k9 => match k9 with | 0 => j99p42p80p80_M0_7 | _ => 0), (fun _ => (fun _ => 0)), (fun _ => (fun _ => 0)), (fun _ => 0)) [0, 1, 2, 3, 4, 5] rfl rfl (Nat.le_of_ble_eq_true rfl) (Nat.le_of_ble_eq_true rfl) ⟨(show iR j99p42p80p80_M0_3 0 3 from hj99p42p80p80_M0_3), (show iR j99p42p80p80_M0_4 0 1600 from hj99p42p80p80_M0_4), (show iR j99p42p80p80_M0_5 0 1600 from hj99p42p80p80_M0_5), (show iR j99p42p80p80_M0_6 0 9999 from hj99p42p80p80_M0_6), (show iR j77p42p80_M0_8 0 6 from hj77p42p80_M0_8)⟩
                refine lv_if_ne (tgt := 99) hx hb dX7_fresh_92 (by decide) (fun c_92p42p80p80 => ?_) (fun c_92p42p80p80 => ?_)
                · have c_92p42p80p80 : ¬ j77p42p80_M0_8 = 0 := c_92p42p80p80
                  have f_99p42p80p80_1 : iR j77p42p80_M0_8 1 6 := iR_neL c_92p42p80p80 hj77p42p80_M0_8 (iR_c (n := 0) (a := 0) (b := 0) (by decide +kernel) (by decide +kernel)) (by decide +kernel)
                  exact J_99p42p80p80 (i 3) (i 4) (i 5) (i 6) (j 7) (i 12) f_14_2 (show iR (i 4) 0 1600 from hI 4) (show iR (i 5) 0 1600 from hI 5) (show iR (i 6) 0 9999 from hI 6) H locs ls hP hD hS (lv_sub hl [0] rfl)
                · have c_92p42p80p80 : j77p42p80_M0_8 = 0 := c_92p42p80p80
                  have f_95p42p80p80_1 : iR j77p42p80_M0_8 0 0 := iR_eqL c_92p42p80p80 hj77p42p80_M0_8 (iR_c (n := 0) (a := 0) (b := 0) (by decide +kernel) (by decide +kernel)) (by decide +kernel)
                  refine lv_aload_n hx hb dX7_fresh_95 rfl (lv_at hl 1 rfl) ?_
                  refine k_cv (wc := [(h, .inr (7, oM r (upd (upd i 8 j77p42p80_M0_8) 9 j77p42p80_M0_9) j)), ((r 0), .inl (cI, 1800, .inl f0))]) (wr := [((r 14), .inl (cI, 2, .inl f14)), ((r 18), .inl (cI, 2, .inl f18)), ((r 34), .inl (cJ, 20, .inr (.inl g34))), ((r 35), .inl (cJ, 24, .inr (.inl g35)))]) (fun hPc hDc hFc => va_runV (As := []) (rest := []) ⟨hx, hb, hml, hown, hts⟩ (s_X7_ahead_v6 l dC dI cI cJ cZ cM h r (upd (upd i 8 j77p42p80_M0_8) 9 j77p42p80_M0_9) j f0 (mR_upd 9 (mR_upd 8 hI (show iR _ (loI 8) (hiI 8) from (iR_w f_95p42p80p80_1 (by decide +kernel)))) (show iR _ (loI 9) (hiI 9) from (iR_top _))) hf0 H.size) (cwV 0 hts gX7_fresh_X7_ahead rfl rfl rfl (by decide +kernel) ⟨(Nat.le_of_ble_eq_true rfl), (Nat.le_of_ble_eq_true rfl)⟩) (k_pV hPc hDc hK hN hC hS hFc hP (q0 := 0) (ci := 7) rfl rfl) rfl rfl hl.1 rfl (lv_room (Nat.le_of_ble_eq_true rfl)) dX7_fresh_96 ⟨(Nat.le_of_ble_eq_true rfl), (Nat.le_of_ble_eq_true rfl)⟩) hP hD hS hA [0, 1] [2, 3, 4, 5] rfl rfl rfl rfl (by decide) (fun _ => rfl) 0 0 rfl rfl (fun u_96p42p80p80 H locs hw hP hD hS => ?_)
                  obtain ⟨g_96p42p80p80_0, g_96p42p80p80_1, g_96p42p80p80_2, g_96p42p80p80_3, g_96p42p80p80_4, g_96p42p80p80_5, g_96p42p80p80_6, g_96p42p80p80_7, g_96p42p80p80_8, g_96p42p80p80_9⟩ := hw
                  have hP : va_P (dC, dI) vwCl [((r 14), .inl (cI, 2, .inl f14)), ((r 18), .inl (cI, 2, .inl f18)), ((r 34), .inl (cJ, 20, .inr (.inl g34))), ((r 35), .inl (cJ, 24, .inr (.inl g35))), (h, .inr (7, oM r (upd (upd (upd (upd (upd (upd (upd i 3 (u_96p42p80p80.1 0)) 4 (u_96p42p80p80.1 1)) 5 (u_96p42p80p80.1 2)) 6 (u_96p42p80p80.1 3)) 8 j77p42p80_M0_8) 9 j77p42p80_M0_9) 12 (u_96p42p80p80.1 4)) (vp_updL j 7 (u_96p42p80p80.2.1 0)))), ((r 0), .inl (cI, 1800, .inl f0))] H := hP
                  have hD : va_D A [((r 14), .inl (cI, 2, .inl f14)), ((r 18), .inl (cI, 2, .inl f18)), ((r 34), .inl (cJ, 20, .inr (.inl g34))), ((r 35), .inl (cJ, 24, .inr (.inl g35))), (h, .inr (7, oM r (upd (upd (upd (upd (upd (upd (upd i 3 (u_96p42p80p80.1 0)) 4 (u_96p42p80p80.1 1)) 5 (u_96p42p80p80.1 2)) 6 (u_96p42p80p80.1 3)) 8 j77p42p80_M0_8) 9 j77p42p80_M0_9) 12 (u_96p42p80p80.1 4)) (vp_updL j 7 (u_96p42p80p80.2.1 0)))), ((r 0), .inl (cI, 1800, .inl f0))] := hD
                  have g_96p42p80p80_0 : (i 5) ≤ (u_96p42p80p80.1 1) := g_96p42p80p80_0
                  have g_96p42p80p80_1 : (u_96p42p80p80.1 1) ≤ (u_96p42p80p80.1 2) := g_96p42p80p80_1
                  have g_96p42p80p80_7 : TM (u_96p42p80p80.1 2) (u_96p42p80p80.1 0) ≤ TM (i 5) (i 3) := g_96p42p80p80_7
                  have g_96p42p80p80_8 : ((u_96p42p80p80.1 0) = 0) ∨ (((i 5) < (u_96p42p80p80.1 2)) ∧ ((u_96p42p80p80.1 1) < (u_96p42p80p80.1 2)) ∧ ((u_96p42p80p80.1 1) < (i 2))) := g_96p42p80p80_8
                  have g_96p42p80p80_9 : ((i 3) = 0) ∨ ((TM (u_96p42p80p80.1 2) (u_96p42p80p80.1 0) < TM (i 5) (i 3))) := g_96p42p80p80_9
                  exact J_99p42p80p80 (u_96p42p80p80.1 0) (u_96p42p80p80.1 1) (u_96p42p80p80.1 2) (u_96p42p80p80.1 3) (u_96p42p80p80.2.1 0) (u_96p42p80p80.1 4) g_96p42p80p80_2 g_96p42p80p80_3 g_96p42p80p80_4 g_96p42p80p80_5 H locs ls (hP.sub [4, 5, 0, 1, 2, 3] rfl) (hD.sub [4, 5, 0, 1, 2, 3] (by decide +kernel) rfl) hS (lv_sub hl [0] rfl)
              refine lv_icmp_gt (tgt := 83) hx hb dX7_fresh_45 (by decide) (fun _ => ?_) (fun q9 => absurd q9 (by decide +kernel))
              exact J_83p42p80p80   H locs ls hP hD hS (lv_sub hl [1] rfl)
            refine lv_icmp_eq (tgt := 77) hx hb dX7_fresh_65 (by decide) (fun c_65p42p80 => ?_) (fun c_65p42p80 => ?_)
            · have c_65p42p80 : r_61p42p80 = (-1) := c_65p42p80
              have f_77p42p80_2 : iR r_61p42p80 (-1) (-1) := iR_eqL c_65p42p80 g_61p42p80_0 (iR_c (n := (-1)) (a := (-1)) (b := (-1)) (by decide +kernel) (by decide +kernel)) (by decide +kernel)
              exact J_77p42p80 j77p42_M0_8 j77p42_M0_9 (iR_w f_55p42p80_1 (by decide +kernel)) H locs ls (hP.sub [3, 0, 1, 4, 2, 5] rfl) (hD.sub [3, 0, 1, 4, 2, 5] (by decide +kernel) rfl) hS (lv_sub hl [1, 0] rfl)
            · have c_65p42p80 : ¬ r_61p42p80 = (-1) := c_65p42p80
              have f_68p42p80_2 : iR r_61p42p80 0 11 := iR_neL c_65p42p80 g_61p42p80_0 (iR_c (n := (-1)) (a := (-1)) (b := (-1)) (by decide +kernel) (by decide +kernel)) (by decide +kernel)
              refine lv_aload_n hx hb dX7_fresh_68 rfl (lv_at hl 1 rfl) ?_
              refine lv_iconst (v := 2) hx hb dX7_fresh_69 (by decide +kernel) ?_
              refine lv_aload_n hx hb dX7_fresh_70 rfl (lv_at hl 1 rfl) ?_
              have f_71p42p80_3 : iR (i 4) 0 1600 := hI 4
              refine k_get (D := (dC, dI)) (ci := 7) (v := .int (i 4)) (C := RX7) (T := TX7) (N := 92) hx hb hts hinX7 hown hK hP 3 rfl rfl 4 (by decide) w_3 rfl rfl dX7_fresh_71 ?_
              refine k_cv (wc := [(h, .inr (7, oM r (upd (upd i 8 j77p42_M0_8) 9 j77p42_M0_9) j))]) (wr := [((r 0), .inl (cI, 1800, .inl f0)), ((r 14), .inl (cI, 2, .inl f14)), ((r 34), .inl (cJ, 20, .inr (.inl g34))), ((r 18), .inl (cI, 2, .inl f18)), ((r 35), .inl (cJ, 24, .inr (.inl g35)))]) (fun hPc hDc hFc => va_runV (As := [.int 2, .int (i 4)]) (rest := []) ⟨hx, hb, hml, hown, hts⟩ (s_X7_blame_v7 l dC dI cI cJ cZ cM h r (upd (upd i 8 j77p42_M0_8) 9 j77p42_M0_9) j 2 (i 4) (iR_c (n := 2) (a := 1) (b := 6) (by decide +kernel) (by decide +kernel)) (mR_upd 9 (mR_upd 8 hI (show iR _ (loI 8) (hiI 8) from (iR_w f_55p42p80_1 (by decide +kernel)))) (show iR _ (loI 9) (hiI 9) from (iR_top _))) H.size) (cwV 2 hts gX7_fresh_X7_blame rfl rfl rfl (by decide +kernel) ⟨(Nat.le_of_ble_eq_true rfl), (Nat.le_of_ble_eq_true rfl)⟩) (k_pV hPc hDc hK hN hC hS hFc hP (q0 := 3) (ci := 7) rfl rfl) rfl rfl hl.1 rfl (lv_room (Nat.le_of_ble_eq_true rfl)) dX7_fresh_74 ⟨(Nat.le_of_ble_eq_true rfl), (Nat.le_of_ble_eq_true rfl)⟩) hP hD hS hA [3] [0, 1, 2, 4, 5] rfl rfl rfl rfl (by decide) (fun _ => rfl) 0 0 rfl rfl (fun u_74p42p80 H locs hw hP hD hS => ?_)
              have g_74p42p80_0 := hw
              have hP : va_P (dC, dI) vwCl [((r 0), .inl (cI, 1800, .inl f0)), ((r 14), .inl (cI, 2, .inl f14)), ((r 34), .inl (cJ, 20, .inr (.inl g34))), ((r 18), .inl (cI, 2, .inl f18)), ((r 35), .inl (cJ, 24, .inr (.inl g35))), (h, .inr (7, oM r (upd (upd i 8 (u_74p42p80.1 0)) 9 (u_74p42p80.1 1)) j))] H := hP
              have hD : va_D A [((r 0), .inl (cI, 1800, .inl f0)), ((r 14), .inl (cI, 2, .inl f14)), ((r 34), .inl (cJ, 20, .inr (.inl g34))), ((r 18), .inl (cI, 2, .inl f18)), ((r 35), .inl (cJ, 24, .inr (.inl g35))), (h, .inr (7, oM r (upd (upd i 8 (u_74p42p80.1 0)) 9 (u_74p42p80.1 1)) j))] := hD
              exact J_77p42p80 (u_74p42p80.1 0) (u_74p42p80.1 1) (iR_w g_74p42p80_0 (by decide +kernel)) H locs ls (hP.sub [5, 0, 1, 3, 2, 4] rfl) (hD.sub [5, 0, 1, 3, 2, 4] (by decide +kernel) rfl) hS (lv_sub hl [1, 0] rfl)
        refine lv_icmp_eq (tgt := 77) hx hb dX7_fresh_65 (by decide) (fun c_65p42 => ?_) (fun c_65p42 => ?_)
        · have c_65p42 : r_61p42 = (-1) := c_65p42
          have f_77p42_2 : iR r_61p42 (-1) (-1) := iR_eqL c_65p42 g_61p42_0 (iR_c (n := (-1)) (a := (-1)) (b := (-1)) (by decide +kernel) (by decide +kernel)) (by decide +kernel)
          exact J_77p42 j41_M0_8 j41_M0_9 (iR_w f_55p42_1 (by decide +kernel)) H locs ls (hP.sub [3, 0, 4, 1, 5, 2] rfl) (hD.sub [3, 0, 4, 1, 5, 2] (by decide +kernel) rfl) hS (lv_sub hl [1, 0] rfl)
        · have c_65p42 : ¬ r_61p42 = (-1) := c_65p42
          have f_68p42_2 : iR r_61p42 0 9 := iR_neL c_65p42 g_61p42_0 (iR_c (n := (-1)) (a := (-1)) (b := (-1)) (by decide +kernel) (by decide +kernel)) (by decide +kernel)
          refine lv_aload_n hx hb dX7_fresh_68 rfl (lv_at hl 1 rfl) ?_
          refine lv_iconst (v := 2) hx hb dX7_fresh_69 (by decide +kernel) ?_
          refine lv_aload_n hx hb dX7_fresh_70 rfl (lv_at hl 1 rfl) ?_
          have f_71p42_3 : iR (i 4) 0 1600 := hI 4
          refine k_get (D := (dC, dI)) (ci := 7) (v := .int (i 4)) (C := RX7) (T := TX7) (N := 92) hx hb hts hinX7 hown hK hP 3 rfl rfl 4 (by decide) w_3 rfl rfl dX7_fresh_71 ?_
          refine k_cv (wc := [(h, .inr (7, oM r (upd (upd i 8 j41_M0_8) 9 j41_M0_9) j))]) (wr := [((r 0), .inl (cI, 1800, .inl f0)), ((r 18), .inl (cI, 2, .inl f18)), ((r 35), .inl (cJ, 24, .inr (.inl g35))), ((r 14), .inl (cI, 2, .inl f14)), ((r 34), .inl (cJ, 20, .inr (.inl g34)))]) (fun hPc hDc hFc => va_runV (As := [.int 2, .int (i 4)]) (rest := []) ⟨hx, hb, hml, hown, hts⟩ (s_X7_blame_v7 l dC dI cI cJ cZ cM h r (upd (upd i 8 j41_M0_8) 9 j41_M0_9) j 2 (i 4) (iR_c (n := 2) (a := 1) (b := 6) (by decide +kernel) (by decide +kernel)) (mR_upd 9 (mR_upd 8 hI (show iR _ (loI 8) (hiI 8) from (iR_w f_55p42_1 (by decide +kernel)))) (show iR _ (loI 9) (hiI 9) from (iR_top _))) H.size) (cwV 2 hts gX7_fresh_X7_blame rfl rfl rfl (by decide +kernel) ⟨(Nat.le_of_ble_eq_true rfl), (Nat.le_of_ble_eq_true rfl)⟩) (k_pV hPc hDc hK hN hC hS hFc hP (q0 := 3) (ci := 7) rfl rfl) rfl rfl hl.1 rfl (lv_room (Nat.le_of_ble_eq_true rfl)) dX7_fresh_74 ⟨(Nat.le_of_ble_eq_true rfl), (Nat.le_of_ble_eq_true rfl)⟩) hP hD hS hA [3] [0, 1, 2, 4, 5] rfl rfl rfl rfl (by decide) (fun _ => rfl) 0 0 rfl rfl (fun u_74p42 H locs hw hP hD hS => ?_)
          have g_74p42_0 := hw
          have hP : va_P (dC, dI) vwCl [((r 0), .inl (cI, 1800, .inl f0)), ((r 18), .inl (cI, 2, .inl f18)), ((r 35), .inl (cJ, 24, .inr (.inl g35))), ((r 14), .inl (cI, 2, .inl f14)), ((r 34), .inl (cJ, 20, .inr (.inl g34))), (h, .inr (7, oM r (upd (upd i 8 (u_74p42.1 0)) 9 (u_74p42.1 1)) j))] H := hP
          have hD : va_D A [((r 0), .inl (cI, 1800, .inl f0)), ((r 18), .inl (cI, 2, .inl f18)), ((r 35), .inl (cJ, 24, .inr (.inl g35))), ((r 14), .inl (cI, 2, .inl f14)), ((r 34), .inl (cJ, 20, .inr (.inl g34))), (h, .inr (7, oM r (upd (upd i 8 (u_74p42.1 0)) 9 (u_74p42.1 1)) j))] := hD
          exact J_77p42 (u_74p42.1 0) (u_74p42.1 1) (iR_w g_74p42_0 (by decide +kernel)) H locs ls (hP.sub [5, 0, 3, 1, 4, 2] rfl) (hD.sub [5, 0, 3, 1, 4, 2] (by decide +kernel) rfl) hS (lv_sub hl [1, 0] rfl)
    have J_32 : ∀   (H : Heap) (locs : List Loc) (ls : Array Slot), va_P (dC, dI) vwCl [(h, .inr (7, oM r (upd (upd i 8 (u_1.1 0)) 9 (u_1.1 1)) j)), ((r 0), .inl (cI, 1800, .inl f0)), ((r 14), .inl (cI, 2, .inl f14)), ((r 18), .inl (cI, 2, .inl f18)), ((r 34), .inl (cJ, 20, .inr (.inl g34))), ((r 35), .inl (cJ, 24, .inr (.inl g35)))] H → va_D A [(h, .inr (7, oM r (upd (upd i 8 (u_1.1 0)) 9 (u_1.1 1)) j)), ((r 0), .inl (cI, 1800, .inl f0)), ((r 14), .inl (cI, 2, .inl f14)), ((r 18), .inl (cI, 2, .inl f18)), ((r 34), .inl (cJ, 20, .inr (.inl g34))), ((r 35), .inl (cJ, 24, .inr (.inl g35)))] → va_S A s.heap H locs → lv_has ls 3 [(0, .ref h)] → W p l e ({ frames := 3, cells := 0, slots := 0, locals := 87 }) s m args below meth c H locs 0 0 (MQ below (va_Ql (fun (r9 : Int64) (u9 : SU) => (iR (u9.1 0) 0 3) ∧ (iR (u9.1 1) 0 1600) ∧ (iR (u9.1 2) 0 1600) ∧ (iR (u9.1 3) 0 9999) ∧ (iR (u9.1 4) 0 6)) (fun u => k_B (dC, dI) vwCl (tyy cI cJ cZ cM) A ((fun (u9 : SU) => [(h, .inr (7, oM r (upd (upd (upd (upd (upd (upd (upd i 3 (u9.1 0)) 4 (u9.1 1)) 5 (u9.1 2)) 6 (u9.1 3)) 8 (u9.1 4)) 9 (u9.1 5)) 12 (u9.1 6)) (vp_updL j 7 (u9.2.1 0)))), ((r 0), .inl (cI, 1800, .inl f0)), ((r 14), .inl (cI, 2, .inl f14)), ((r 18), .inl (cI, 2, .inl f18)), ((r 34), .inl (cJ, 20, .inr (.inl g34))), ((r 35), .inl (cJ, 24, .inr (.inl g35)))]) u)) A) args s 0 0 A) (F0 m 32 ls []) := by
      intro   H locs ls hP hD hS hl
      refine lv_aload_n hx hb dX7_fresh_32 rfl (lv_at hl 0 rfl) ?_
      refine lv_iconst (v := 1) hx hb dX7_fresh_33 (by decide +kernel) ?_
      refine lv_aload_n hx hb dX7_fresh_34 rfl (lv_at hl 0 rfl) ?_
      have f_35_1 : iR (i 4) 0 1600 := hI 4
      refine k_get (D := (dC, dI)) (ci := 7) (v := .int (i 4)) (C := RX7) (T := TX7) (N := 92) hx hb hts hinX7 hown hK hP 0 rfl rfl 4 (by decide) w_3 rfl rfl dX7_fresh_35 ?_
      refine k_cv (wc := [(h, .inr (7, oM r (upd (upd i 8 (u_1.1 0)) 9 (u_1.1 1)) j))]) (wr := [((r 0), .inl (cI, 1800, .inl f0)), ((r 14), .inl (cI, 2, .inl f14)), ((r 18), .inl (cI, 2, .inl f18)), ((r 34), .inl (cJ, 20, .inr (.inl g34))), ((r 35), .inl (cJ, 24, .inr (.inl g35)))]) (fun hPc hDc hFc => va_runV (As := [.int 1, .int (i 4)]) (rest := []) ⟨hx, hb, hml, hown, hts⟩ (s_X7_blame_v7 l dC dI cI cJ cZ cM h r (upd (upd i 8 (u_1.1 0)) 9 (u_1.1 1)) j 1 (i 4) (iR_c (n := 1) (a := 1) (b := 6) (by decide +kernel) (by decide +kernel)) (mR_upd 9 (mR_upd 8 hI (show iR _ (loI 8) (hiI 8) from (iR_w f_13_1 (by decide +kernel)))) (show iR _ (loI 9) (hiI 9) from (iR_top _))) H.size) (cwV 2 hts gX7_fresh_X7_blame rfl rfl rfl (by decide +kernel) ⟨(Nat.le_of_ble_eq_true rfl), (Nat.le_of_ble_eq_true rfl)⟩) (k_pV hPc hDc hK hN hC hS hFc hP (q0 := 0) (ci := 7) rfl rfl) rfl rfl hl.1 rfl (lv_room (Nat.le_of_ble_eq_true rfl)) dX7_fresh_38 ⟨(Nat.le_of_ble_eq_true rfl), (Nat.le_of_ble_eq_true rfl)⟩) hP hD hS hA [0] [1, 2, 3, 4, 5] rfl rfl rfl rfl (by decide) (fun _ => rfl) 0 0 rfl rfl (fun u_38 H locs hw hP hD hS => ?_)
      have g_38_0 := hw
      have hP : va_P (dC, dI) vwCl [((r 0), .inl (cI, 1800, .inl f0)), ((r 14), .inl (cI, 2, .inl f14)), ((r 18), .inl (cI, 2, .inl f18)), ((r 34), .inl (cJ, 20, .inr (.inl g34))), ((r 35), .inl (cJ, 24, .inr (.inl g35))), (h, .inr (7, oM r (upd (upd i 8 (u_38.1 0)) 9 (u_38.1 1)) j))] H := hP
      have hD : va_D A [((r 0), .inl (cI, 1800, .inl f0)), ((r 14), .inl (cI, 2, .inl f14)), ((r 18), .inl (cI, 2, .inl f18)), ((r 34), .inl (cJ, 20, .inr (.inl g34))), ((r 35), .inl (cJ, 24, .inr (.inl g35))), (h, .inr (7, oM r (upd (upd i 8 (u_38.1 0)) 9 (u_38.1 1)) j))] := hD
      exact J_41 (u_38.1 0) (u_38.1 1) (iR_w g_38_0 (by decide +kernel)) H locs ls (hP.sub [5, 0, 1, 2, 3, 4] rfl) (hD.sub [5, 0, 1, 2, 3, 4] (by decide +kernel) rfl) hS (lv_sub hl [0] rfl)
    refine lv_icmp_ne (tgt := 32) hx hb dX7_fresh_18 (by decide) (fun c_18 => ?_) (fun c_18 => ?_)
    · have c_18 : ¬ (i 3) = 1 := c_18
      exact J_32   H locs ls (hP.sub [5, 0, 1, 2, 3, 4] rfl) (hD.sub [5, 0, 1, 2, 3, 4] (by decide +kernel) rfl) hS (lv_sub hl [0] rfl)
    · have c_18 : (i 3) = 1 := c_18
      have f_21_3 : iR (i 3) 1 1 := iR_eqL c_18 f_14_2 (iR_c (n := 1) (a := 1) (b := 1) (by decide +kernel) (by decide +kernel)) (by decide +kernel)
      refine lv_aload_n hx hb dX7_fresh_21 rfl (lv_at hl 0 rfl) ?_
      refine lv_aload_n hx hb dX7_fresh_22 rfl (lv_at hl 0 rfl) ?_
      refine k_get (D := (dC, dI)) (ci := 7) (v := .long (j 7)) (C := RX7) (T := TX7) (N := 92) hx hb hts hinX7 hown hK hP 5 rfl rfl 7 (by decide) w_2 rfl rfl dX7_fresh_23 ?_
      refine k_ci (wc := []) (wr := [((r 0), .inl (cI, 1800, .inl f0)), ((r 14), .inl (cI, 2, .inl f14)), ((r 18), .inl (cI, 2, .inl f18)), ((r 34), .inl (cJ, 20, .inr (.inl g34))), ((r 35), .inl (cJ, 24, .inr (.inl g35))), (h, .inr (7, oM r (upd (upd i 8 (u_1.1 0)) 9 (u_1.1 1)) j))]) (fun hPc hDc hFc => va_runV (As := [.long (j 7)]) (rest := []) ⟨hx, hb, hml, hown, hts⟩ (s_X7_isOwn_v6 l dC dI cI cJ cZ cM h (j 7) H.size) (cwV 1 hts gX7_fresh_X7_isOwn rfl rfl rfl (by decide +kernel) ⟨(Nat.le_of_ble_eq_true rfl), (Nat.le_of_ble_eq_true rfl)⟩) (k_pV hPc hDc hK hN hC hS hFc hP (q0 := 5) (ci := 7) rfl rfl) rfl rfl hl.1 rfl (lv_room (Nat.le_of_ble_eq_true rfl)) dX7_fresh_26 ⟨(Nat.le_of_ble_eq_true rfl), (Nat.le_of_ble_eq_true rfl)⟩) hP hD hS hA [] [0, 1, 2, 3, 4, 5] rfl rfl rfl rfl (by decide) (fun _ => rfl) 0 0 rfl rfl (fun r_26 u_26 H locs hw hP hD hS => ?_)
      have g_26_0 := hw
      have hP : va_P (dC, dI) vwCl [((r 0), .inl (cI, 1800, .inl f0)), ((r 14), .inl (cI, 2, .inl f14)), ((r 18), .inl (cI, 2, .inl f18)), ((r 34), .inl (cJ, 20, .inr (.inl g34))), ((r 35), .inl (cJ, 24, .inr (.inl g35))), (h, .inr (7, oM r (upd (upd i 8 (u_1.1 0)) 9 (u_1.1 1)) j))] H := hP
      have hD : va_D A [((r 0), .inl (cI, 1800, .inl f0)), ((r 14), .inl (cI, 2, .inl f14)), ((r 18), .inl (cI, 2, .inl f18)), ((r 34), .inl (cJ, 20, .inr (.inl g34))), ((r 35), .inl (cJ, 24, .inr (.inl g35))), (h, .inr (7, oM r (upd (upd i 8 (u_1.1 0)) 9 (u_1.1 1)) j))] := hD
      refine lv_if_eq (tgt := 41) hx hb dX7_fresh_29 (by decide) (fun c_29 => ?_) (fun c_29 => ?_)
      · have c_29 : r_26 = 0 := c_29
        have f_41_4 : iR r_26 0 0 := iR_eqL c_29 g_26_0 (iR_c (n := 0) (a := 0) (b := 0) (by decide +kernel) (by decide +kernel)) (by decide +kernel)
        exact J_41 (u_1.1 0) (u_1.1 1) (iR_w f_13_1 (by decide +kernel)) H locs ls (hP.sub [5, 0, 1, 2, 3, 4] rfl) (hD.sub [5, 0, 1, 2, 3, 4] (by decide +kernel) rfl) hS (lv_sub hl [0] rfl)
      · have c_29 : ¬ r_26 = 0 := c_29
        have f_32_4 : iR r_26 1 1 := iR_neL c_29 g_26_0 (iR_c (n := 0) (a := 0) (b := 0) (by decide +kernel) (by decide +kernel)) (by decide +kernel)
        exact J_32   H locs ls (hP.sub [5, 0, 1, 2, 3, 4] rfl) (hD.sub [5, 0, 1, 2, 3, 4] (by decide +kernel) rfl) hS (lv_sub hl [0] rfl)
  · have c_8 : 0 < (u_1.1 0) := i_nle c_8
    have f_11_1 : iR (u_1.1 0) 1 6 := iR_ltR c_8 (iR_c (n := 0) (a := 0) (b := 0) (by decide +kernel) (by decide +kernel)) g_1_0 (by decide +kernel)
    refine lv_lconst (v := 0) hx hb dX7_fresh_11 (by decide +kernel) ?_
    exact k_rl B hP hD hS dX7_fresh_12 ((fun k9 => match k9 with | 0 => (i 3) | 1 => (i 4) | 2 => (i 5) | 3 => (i 6) | 4 => (u_1.1 0) | 5 => (u_1.1 1) | 6 => (i 12) | _ => 0), (fun k9 => match k9 with | 0 => (j 7) | _ => 0), (fun _ => (fun _ => 0)), (fun _ => (fun _ => 0)), (fun _ => 0)) [5, 0, 1, 2, 3, 4] rfl rfl (Nat.le_of_ble_eq_true rfl) (Nat.le_of_ble_eq_true rfl) ⟨(show iR (i 3) 0 3 from (hI 3)), (show iR (i 4) 0 1600 from (hI 4)), (show iR (i 5) 0 1600 from (hI 5)), (show iR (i 6) 0 9999 from (hI 6)), (show iR (u_1.1 0) 0 6 from (iR_w f_11_1 (by decide +kernel)))⟩
set_option maxHeartbeats 8000000 in
set_option maxRecDepth 100000 in
theorem s_X7_blame_v8 (l : Launch) (dC : Nat → ClassId) (dI : Nat → Nat → Nat) (cI cJ cZ cM : ClassId) (h : Nat) (r : Nat → Nat) (i : Nat → Int32) (j : Nat → Int64) (x1 : Int32) (x2 : Int32) (hx1 : iR x1 1 6) (hI : mR i) : k_Mv l yX7_blame wsX7_blame ({ frames := 1, cells := 0, slots := 0, locals := 40 }) (dC, dI) vwCl (tyy cI cJ cZ cM) [(h, .inr (7, oM r i j))] [.ref h, .int x1, .int x2] 0 0 (fun (u9 : SU) => [(h, .inr (7, oM r (upd (upd i 8 (u9.1 0)) 9 (u9.1 1)) j))]) (fun (u9 : SU) => (iR (u9.1 0) 1 6)) := by
  refine fun sz => k_enter (cc := cX7_blame) (maxL := 3) (ret := none) (Qc := fun A => va_Qv (fun (u9 : SU) => (iR (u9.1 0) 1 6)) (fun u => k_B (dC, dI) vwCl (tyy cI cJ cZ cM) A ((fun (u9 : SU) => [(h, .inr (7, oM r (upd (upd i 8 (u9.1 0)) 9 (u9.1 1)) j))]) u)) A) sz (by decide +kernel) rfl (Nat.le_of_ble_eq_true rfl) (fun p e s m args below meth c A ls H locs B hP hD hS hl => ?_)
  obtain ⟨hx, hb, hml, hown, hts, hr, hlk, hnm, hK, hA, hN, hC⟩ := id B
  have hown : s.vm.findClass RX7 = some m.cls := hown
  have hl : lv_has ls 3 [(0, .ref h), (1, .int x1), (2, .int x2)] := hl
  have w_0 : (Cond.fieldLink RX7 36 "WishSeaModel" "faultKind" "I").before args s = true := hts _ (List.mem_of_getElem? (i := 1) rfl)
  have w_1 : (Cond.fieldLink RX7 39 "WishSeaModel" "faultPlace" "I").before args s = true := hts _ (List.mem_of_getElem? (i := 2) rfl)
  have hinX7 : ∀ w ∈ u_ws RX7 TX7 92, w ∈ wsX7_blame := fun _ h => List.mem_cons_of_mem _ (List.mem_append_right _ h)
  refine lv_aload_n hx hb dX7_blame_0 rfl (lv_at hl 0 rfl) ?_
  have f_1_1 : iR (i 8) 0 6 := hI 8
  refine k_get (D := (dC, dI)) (ci := 7) (v := .int (i 8)) (C := RX7) (T := TX7) (N := 92) hx hb hts hinX7 hown hK hP 0 rfl rfl 8 (by decide) w_0 rfl rfl dX7_blame_1 ?_
  refine lv_if_le (tgt := 8) hx hb dX7_blame_4 (by decide) (fun c_4 => ?_) (fun c_4 => ?_)
  · have c_4 : (i 8) ≤ 0 := c_4
    have f_8_2 : iR (i 8) 0 0 := iR_leL c_4 f_1_1 (iR_c (n := 0) (a := 0) (b := 0) (by decide +kernel) (by decide +kernel)) (by decide +kernel)
    refine lv_aload_n hx hb dX7_blame_8 rfl (lv_at hl 0 rfl) ?_
    refine lv_iload_n hx hb dX7_blame_9 rfl (lv_at hl 1 rfl) ?_
    refine k_put (D := (dC, dI)) (ci := 7) (v := .int x1) (C := RX7) (T := TX7) (N := 92) (ws' := [(h, .inr (7, oM r (upd i 8 x1) j))]) hx hb hts hinX7 tyX7 tyX7_ok nmX7 hown hK hP hD hS 0 rfl rfl 8 (by decide) w_0 rfl rfl rfl rfl (Nat.le_of_ble_eq_true rfl) rfl dX7_blame_10 (fun H locs hP hD hS => ?_)
    refine lv_aload_n hx hb dX7_blame_13 rfl (lv_at hl 0 rfl) ?_
    refine lv_iload_n hx hb dX7_blame_14 rfl (lv_at hl 2 rfl) ?_
    refine k_put (D := (dC, dI)) (ci := 7) (v := .int x2) (C := RX7) (T := TX7) (N := 92) (ws' := [(h, .inr (7, oM r (upd (upd i 8 x1) 9 x2) j))]) hx hb hts hinX7 tyX7 tyX7_ok nmX7 hown hK hP hD hS 0 rfl rfl 9 (by decide) w_1 rfl rfl rfl rfl (Nat.le_of_ble_eq_true rfl) rfl dX7_blame_15 (fun H locs hP hD hS => ?_)
    exact k_rv B hP hD hS dX7_blame_18 ((fun k9 => match k9 with | 0 => x1 | 1 => x2 | _ => 0), (fun _ => 0), (fun _ => (fun _ => 0)), (fun _ => (fun _ => 0)), (fun _ => 0)) [0] rfl rfl (Nat.le_of_ble_eq_true rfl) (Nat.le_of_ble_eq_true rfl) (show iR x1 1 6 from hx1)
  · have c_4 : 0 < (i 8) := i_nle c_4
    have f_7_2 : iR (i 8) 1 6 := iR_ltR c_4 (iR_c (n := 0) (a := 0) (b := 0) (by decide +kernel) (by decide +kernel)) f_1_1 (by decide +kernel)
    exact k_rv B hP hD hS dX7_blame_7 ((fun k9 => match k9 with | 0 => (i 8) | 1 => (i 9) | _ => 0), (fun _ => 0), (fun _ => (fun _ => 0)), (fun _ => (fun _ => 0)), (fun _ => 0)) [0] rfl rfl (Nat.le_of_ble_eq_true rfl) (Nat.le_of_ble_eq_true rfl) (show iR (i 8) 1 6 from f_7_2)
set_option maxHeartbeats 8000000 in
set_option maxRecDepth 100000 in
theorem s_X7_lex_v6 (l : Launch) (dC : Nat → ClassId) (dI : Nat → Nat → Nat) (cI cJ cZ cM : ClassId) (h : Nat) (r : Nat → Nat) (i : Nat → Int32) (j : Nat → Int64) (hI : mR i) : k_Mv l yX7_lex wsX7_lex ({ frames := 2, cells := 0, slots := 0, locals := 62 }) (dC, dI) vwCl (tyy cI cJ cZ cM) [(h, .inr (7, oM r i j))] [.ref h] 0 0 (fun (u9 : SU) => [(h, .inr (7, oM r (upd (upd i 8 (u9.1 0)) 9 (u9.1 1)) j))]) (fun (u9 : SU) => (iR (u9.1 0) 0 6)) := by
  refine fun sz => k_enter (cc := cX7_lex) (maxL := 1) (ret := none) (Qc := fun A => va_Qv (fun (u9 : SU) => (iR (u9.1 0) 0 6)) (fun u => k_B (dC, dI) vwCl (tyy cI cJ cZ cM) A ((fun (u9 : SU) => [(h, .inr (7, oM r (upd (upd i 8 (u9.1 0)) 9 (u9.1 1)) j))]) u)) A) sz (by decide +kernel) rfl (Nat.le_of_ble_eq_true rfl) (fun p e s m args below meth c A ls H locs B hP hD hS hl => ?_)
  obtain ⟨hx, hb, hml, hown, hts, hr, hlk, hnm, hK, hA, hN, hC⟩ := id B
  have hown : s.vm.findClass RX7 = some m.cls := hown
  have hl : lv_has ls 1 [(0, .ref h)] := hl
  have w_0 : (Cond.fieldLink RX7 48 "WishSeaModel" "lexAt" "I").before args s = true := hts _ (List.mem_of_getElem? (i := 1) rfl)
  have hinX7 : ∀ w ∈ u_ws RX7 TX7 92, w ∈ wsX7_lex := fun _ h => List.mem_cons_of_mem _ (List.mem_append_right _ h)
  refine lv_aload_n hx hb dX7_lex_0 rfl (lv_at hl 0 rfl) ?_
  refine k_get (D := (dC, dI)) (ci := 7) (v := .int (i 12)) (C := RX7) (T := TX7) (N := 92) hx hb hts hinX7 hown hK hP 0 rfl rfl 12 (by decide) w_0 rfl rfl dX7_lex_1 ?_
  refine lv_iconst (v := (-1)) hx hb dX7_lex_4 (by decide +kernel) ?_
  refine lv_icmp_eq (tgt := 17) hx hb dX7_lex_5 (by decide) (fun c_5 => ?_) (fun c_5 => ?_)
  · have c_5 : (i 12) = (-1) := c_5
    have f_17_1 : iR (i 12) (-1) (-1) := iR_eqL c_5 (iR_top _) (iR_c (n := (-1)) (a := (-1)) (b := (-1)) (by decide +kernel) (by decide +kernel)) (by decide +kernel)
    exact k_rv B hP hD hS dX7_lex_17 ((fun k9 => match k9 with | 0 => (i 8) | 1 => (i 9) | _ => 0), (fun _ => 0), (fun _ => (fun _ => 0)), (fun _ => (fun _ => 0)), (fun _ => 0)) [0] rfl rfl (Nat.le_of_ble_eq_true rfl) (Nat.le_of_ble_eq_true rfl) (show iR (i 8) 0 6 from (hI 8))
  · have c_5 : ¬ (i 12) = (-1) := c_5
    refine lv_aload_n hx hb dX7_lex_8 rfl (lv_at hl 0 rfl) ?_
    refine lv_iconst (v := 1) hx hb dX7_lex_9 (by decide +kernel) ?_
    refine lv_aload_n hx hb dX7_lex_10 rfl (lv_at hl 0 rfl) ?_
    refine k_get (D := (dC, dI)) (ci := 7) (v := .int (i 12)) (C := RX7) (T := TX7) (N := 92) hx hb hts hinX7 hown hK hP 0 rfl rfl 12 (by decide) w_0 rfl rfl dX7_lex_11 ?_
    refine k_cv (wc := [(h, .inr (7, oM r i j))]) (wr := []) (fun hPc hDc hFc => va_runV (As := [.int 1, .int (i 12)]) (rest := []) ⟨hx, hb, hml, hown, hts⟩ (s_X7_blame_v1 l dC dI cI cJ cZ cM h r i j 1 (i 12) (iR_c (n := 1) (a := 1) (b := 6) (by decide +kernel) (by decide +kernel)) hI H.size) (cwV 2 hts gX7_lex_X7_blame rfl rfl rfl (by decide +kernel) ⟨(Nat.le_of_ble_eq_true rfl), (Nat.le_of_ble_eq_true rfl)⟩) (k_pV hPc hDc hK hN hC hS hFc hP (q0 := 0) (ci := 7) rfl rfl) rfl rfl hl.1 rfl (lv_room (Nat.le_of_ble_eq_true rfl)) dX7_lex_14 ⟨(Nat.le_of_ble_eq_true rfl), (Nat.le_of_ble_eq_true rfl)⟩) hP hD hS hA [0] [] rfl rfl rfl rfl (by decide) (fun _ => rfl) 0 0 rfl rfl (fun u_14 H locs hw hP hD hS => ?_)
    have g_14_0 := hw
    have hP : va_P (dC, dI) vwCl [(h, .inr (7, oM r (upd (upd i 8 (u_14.1 0)) 9 (u_14.1 1)) j))] H := hP
    have hD : va_D A [(h, .inr (7, oM r (upd (upd i 8 (u_14.1 0)) 9 (u_14.1 1)) j))] := hD
    exact k_rv B hP hD hS dX7_lex_17 ((fun k9 => match k9 with | 0 => (u_14.1 0) | 1 => (u_14.1 1) | _ => 0), (fun _ => 0), (fun _ => (fun _ => 0)), (fun _ => (fun _ => 0)), (fun _ => 0)) [0] rfl rfl (Nat.le_of_ble_eq_true rfl) (Nat.le_of_ble_eq_true rfl) (show iR (u_14.1 0) 0 6 from (iR_w g_14_0 (by decide +kernel)))
set_option maxHeartbeats 8000000 in
set_option maxRecDepth 100000 in
theorem s_X7_isOwn_v7 (l : Launch) (dC : Nat → ClassId) (dI : Nat → Nat → Nat) (cI cJ cZ cM : ClassId) (h : Nat) (x1 : Int64)  : k_Mi l yX7_isOwn wsX7_isOwn ({ frames := 1, cells := 0, slots := 0, locals := 40 }) (dC, dI) vwCl (tyy cI cJ cZ cM) [] [.ref h, .long x1] 0 0 (fun (u9 : Unit) => []) (fun (r9 : Int32) (u9 : Unit) => (iR r9 0 1)) := by
  refine fun sz => k_enter (cc := cX7_isOwn) (maxL := 3) (ret := some (.boolean)) (Qc := fun A => va_Qi (fun (r9 : Int32) (u9 : Unit) => (iR r9 0 1)) (fun u => k_B (dC, dI) vwCl (tyy cI cJ cZ cM) A ((fun (u9 : Unit) => []) u)) A) sz (by decide +kernel) rfl (Nat.le_of_ble_eq_true rfl) (fun p e s m args below meth c A ls H locs B hP hD hS hl => ?_)
  obtain ⟨hx, hb, hml, hown, hts, hr, hlk, hnm, hK, hA, hN, hC⟩ := id B
  have hown : s.vm.findClass RX7 = some m.cls := hown
  have hl : lv_has ls 3 [(0, .ref h), (1, .long x1)] := hl
  have w_0 : (Cond.constantLong RX7 323 (499967946343)).before args s = true := hts _ (List.mem_of_getElem? (i := 1) rfl)
  have w_1 : (Cond.constantLong RX7 325 (512970880104)).before args s = true := hts _ (List.mem_of_getElem? (i := 2) rfl)
  have w_2 : (Cond.constantLong RX7 327 (125793039377779)).before args s = true := hts _ (List.mem_of_getElem? (i := 3) rfl)
  have w_3 : (Cond.constantLong RX7 329 (422826304870)).before args s = true := hts _ (List.mem_of_getElem? (i := 4) rfl)
  have w_4 : (Cond.constantLong RX7 331 (2003399528)).before args s = true := hts _ (List.mem_of_getElem? (i := 5) rfl)
  have w_5 : (Cond.constantLong RX7 333 (512970876019)).before args s = true := hts _ (List.mem_of_getElem? (i := 6) rfl)
  have w_6 : (Cond.constantLong RX7 335 (444150998387)).before args s = true := hts _ (List.mem_of_getElem? (i := 7) rfl)
  have w_7 : (Cond.constantLong RX7 337 (474147546227)).before args s = true := hts _ (List.mem_of_getElem? (i := 8) rfl)
  have w_8 : (Cond.constantLong RX7 339 (1970496883)).before args s = true := hts _ (List.mem_of_getElem? (i := 9) rfl)
  have w_9 : (Cond.constantLong RX7 341 (439855772532)).before args s = true := hts _ (List.mem_of_getElem? (i := 10) rfl)
  have w_10 : (Cond.constantLong RX7 343 (1684107883)).before args s = true := hts _ (List.mem_of_getElem? (i := 11) rfl)
  have w_11 : (Cond.constantLong RX7 345 (1919905645)).before args s = true := hts _ (List.mem_of_getElem? (i := 12) rfl)
  have w_12 : (Cond.constantLong RX7 347 (27988542884245108)).before args s = true := hts _ (List.mem_of_getElem? (i := 13) rfl)
  have w_13 : (Cond.constantLong RX7 349 (422607680115)).before args s = true := hts _ (List.mem_of_getElem? (i := 14) rfl)
  have w_14 : (Cond.constantLong RX7 351 (1667329133)).before args s = true := hts _ (List.mem_of_getElem? (i := 15) rfl)
  have w_15 : (Cond.constantLong RX7 353 (6840676)).before args s = true := hts _ (List.mem_of_getElem? (i := 16) rfl)
  have w_16 : (Cond.constantLong RX7 355 (7562593)).before args s = true := hts _ (List.mem_of_getElem? (i := 17) rfl)
  have w_17 : (Cond.constantLong RX7 357 (1935763812)).before args s = true := hts _ (List.mem_of_getElem? (i := 18) rfl)
  have w_18 : (Cond.constantLong RX7 359 (6578553)).before args s = true := hts _ (List.mem_of_getElem? (i := 19) rfl)
  have w_19 : (Cond.constantLong RX7 361 (28530)).before args s = true := hts _ (List.mem_of_getElem? (i := 20) rfl)
  have w_20 : (Cond.constantLong RX7 363 (6385252)).before args s = true := hts _ (List.mem_of_getElem? (i := 21) rfl)
  have w_21 : (Cond.constantLong RX7 365 (7237492)).before args s = true := hts _ (List.mem_of_getElem? (i := 22) rfl)
  have w_22 : (Cond.constantLong RX7 367 (6384748)).before args s = true := hts _ (List.mem_of_getElem? (i := 23) rfl)
  have w_23 : (Cond.constantLong RX7 369 (7170414)).before args s = true := hts _ (List.mem_of_getElem? (i := 24) rfl)
  have w_24 : (Cond.constantLong RX7 371 (7168376)).before args s = true := hts _ (List.mem_of_getElem? (i := 25) rfl)
  refine lv_lload_n hx hb dX7_isOwn_0 rfl (lv_at hl 1 rfl) ?_
  refine lv_ldc2 (v := 499967946343) hx hb hown w_0 dX7_isOwn_1 ?_
  refine W.lcmp hx hb dX7_isOwn_4 ?_
  refine lv_topi (fun y_4 ey_4 => ?_)
  have J_40 : ∀   (H : Heap) (locs : List Loc) (ls : Array Slot), va_P (dC, dI) vwCl [] H → va_D A [] → va_S A s.heap H locs → lv_has ls 3 [] → W p l e ({ frames := 1, cells := 0, slots := 0, locals := 40 }) s m args below meth c H locs 0 0 (MQ below (va_Qi (fun (r9 : Int32) (u9 : Unit) => (iR r9 0 1)) (fun u => k_B (dC, dI) vwCl (tyy cI cJ cZ cM) A ((fun (u9 : Unit) => []) u)) A) args s 0 0 A) (F0 m 40 ls []) := by
    intro   H locs ls hP hD hS hl
    refine lv_iconst (v := 1) hx hb dX7_isOwn_40 (by decide +kernel) ?_
    exact k_ri B hP hD hS dX7_isOwn_41 () [] rfl rfl rfl (Nat.le_of_ble_eq_true rfl) (Nat.le_of_ble_eq_true rfl) (show iR 1 0 1 from (iR_c (n := 1) (a := 0) (b := 1) (by decide +kernel) (by decide +kernel)))
  refine lv_if_eq (tgt := 40) hx hb dX7_isOwn_5 (by decide) (fun c_5 => ?_) (fun c_5 => ?_)
  · have c_5 : y_4 = 0 := c_5
    have f_40_1 : iR y_4 0 0 := iR_eqL c_5 (iR_top _) (iR_c (n := 0) (a := 0) (b := 0) (by decide +kernel) (by decide +kernel)) (by decide +kernel)
    have lc_5 : x1 = 499967946343 := l_cmpe ey_4 c_5
    exact J_40   H locs ls hP hD hS (lv_sub hl [] rfl)
  · have c_5 : ¬ y_4 = 0 := c_5
    have lc_5 : ¬ x1 = 499967946343 := l_cmpne ey_4 c_5
    refine lv_lload_n hx hb dX7_isOwn_8 rfl (lv_at hl 1 rfl) ?_
    refine lv_ldc2 (v := 512970880104) hx hb hown w_1 dX7_isOwn_9 ?_
    refine W.lcmp hx hb dX7_isOwn_12 ?_
    refine lv_topi (fun y_12 ey_12 => ?_)
    refine lv_if_eq (tgt := 40) hx hb dX7_isOwn_13 (by decide) (fun c_13 => ?_) (fun c_13 => ?_)
    · have c_13 : y_12 = 0 := c_13
      have f_40_1 : iR y_12 0 0 := iR_eqL c_13 (iR_top _) (iR_c (n := 0) (a := 0) (b := 0) (by decide +kernel) (by decide +kernel)) (by decide +kernel)
      have lc_13 : x1 = 512970880104 := l_cmpe ey_12 c_13
      exact J_40   H locs ls hP hD hS (lv_sub hl [] rfl)
    · have c_13 : ¬ y_12 = 0 := c_13
      have lc_13 : ¬ x1 = 512970880104 := l_cmpne ey_12 c_13
      refine lv_lload_n hx hb dX7_isOwn_16 rfl (lv_at hl 1 rfl) ?_
      refine lv_ldc2 (v := 125793039377779) hx hb hown w_2 dX7_isOwn_17 ?_
      refine W.lcmp hx hb dX7_isOwn_20 ?_
      refine lv_topi (fun y_20 ey_20 => ?_)
      refine lv_if_eq (tgt := 40) hx hb dX7_isOwn_21 (by decide) (fun c_21 => ?_) (fun c_21 => ?_)
      · have c_21 : y_20 = 0 := c_21
        have f_40_1 : iR y_20 0 0 := iR_eqL c_21 (iR_top _) (iR_c (n := 0) (a := 0) (b := 0) (by decide +kernel) (by decide +kernel)) (by decide +kernel)
        have lc_21 : x1 = 125793039377779 := l_cmpe ey_20 c_21
        exact J_40   H locs ls hP hD hS (lv_sub hl [] rfl)
      · have c_21 : ¬ y_20 = 0 := c_21
        have lc_21 : ¬ x1 = 125793039377779 := l_cmpne ey_20 c_21
        refine lv_lload_n hx hb dX7_isOwn_24 rfl (lv_at hl 1 rfl) ?_
        refine lv_ldc2 (v := 422826304870) hx hb hown w_3 dX7_isOwn_25 ?_
        refine W.lcmp hx hb dX7_isOwn_28 ?_
        refine lv_topi (fun y_28 ey_28 => ?_)
        refine lv_if_eq (tgt := 40) hx hb dX7_isOwn_29 (by decide) (fun c_29 => ?_) (fun c_29 => ?_)
        · have c_29 : y_28 = 0 := c_29
          have f_40_1 : iR y_28 0 0 := iR_eqL c_29 (iR_top _) (iR_c (n := 0) (a := 0) (b := 0) (by decide +kernel) (by decide +kernel)) (by decide +kernel)
          have lc_29 : x1 = 422826304870 := l_cmpe ey_28 c_29
          exact J_40   H locs ls hP hD hS (lv_sub hl [] rfl)
        · have c_29 : ¬ y_28 = 0 := c_29
          have lc_29 : ¬ x1 = 422826304870 := l_cmpne ey_28 c_29
          refine lv_lload_n hx hb dX7_isOwn_32 rfl (lv_at hl 1 rfl) ?_
          refine lv_ldc2 (v := 2003399528) hx hb hown w_4 dX7_isOwn_33 ?_
          refine W.lcmp hx hb dX7_isOwn_36 ?_
          refine lv_topi (fun y_36 ey_36 => ?_)
          refine lv_if_ne (tgt := 42) hx hb dX7_isOwn_37 (by decide) (fun c_37 => ?_) (fun c_37 => ?_)
          · have c_37 : ¬ y_36 = 0 := c_37
            have lc_37 : ¬ x1 = 2003399528 := l_cmpne ey_36 c_37
            refine lv_lload_n hx hb dX7_isOwn_42 rfl (lv_at hl 1 rfl) ?_
            refine lv_ldc2 (v := 512970876019) hx hb hown w_5 dX7_isOwn_43 ?_
            refine W.lcmp hx hb dX7_isOwn_46 ?_
            refine lv_topi (fun y_46 ey_46 => ?_)
            have J_82 : ∀   (H : Heap) (locs : List Loc) (ls : Array Slot), va_P (dC, dI) vwCl [] H → va_D A [] → va_S A s.heap H locs → lv_has ls 3 [] → W p l e ({ frames := 1, cells := 0, slots := 0, locals := 40 }) s m args below meth c H locs 0 0 (MQ below (va_Qi (fun (r9 : Int32) (u9 : Unit) => (iR r9 0 1)) (fun u => k_B (dC, dI) vwCl (tyy cI cJ cZ cM) A ((fun (u9 : Unit) => []) u)) A) args s 0 0 A) (F0 m 82 ls []) := by
              intro   H locs ls hP hD hS hl
              refine lv_iconst (v := 1) hx hb dX7_isOwn_82 (by decide +kernel) ?_
              exact k_ri B hP hD hS dX7_isOwn_83 () [] rfl rfl rfl (Nat.le_of_ble_eq_true rfl) (Nat.le_of_ble_eq_true rfl) (show iR 1 0 1 from (iR_c (n := 1) (a := 0) (b := 1) (by decide +kernel) (by decide +kernel)))
            refine lv_if_eq (tgt := 82) hx hb dX7_isOwn_47 (by decide) (fun c_47 => ?_) (fun c_47 => ?_)
            · have c_47 : y_46 = 0 := c_47
              have f_82_1 : iR y_46 0 0 := iR_eqL c_47 (iR_top _) (iR_c (n := 0) (a := 0) (b := 0) (by decide +kernel) (by decide +kernel)) (by decide +kernel)
              have lc_47 : x1 = 512970876019 := l_cmpe ey_46 c_47
              exact J_82   H locs ls hP hD hS (lv_sub hl [] rfl)
            · have c_47 : ¬ y_46 = 0 := c_47
              have lc_47 : ¬ x1 = 512970876019 := l_cmpne ey_46 c_47
              refine lv_lload_n hx hb dX7_isOwn_50 rfl (lv_at hl 1 rfl) ?_
              refine lv_ldc2 (v := 444150998387) hx hb hown w_6 dX7_isOwn_51 ?_
              refine W.lcmp hx hb dX7_isOwn_54 ?_
              refine lv_topi (fun y_54 ey_54 => ?_)
              refine lv_if_eq (tgt := 82) hx hb dX7_isOwn_55 (by decide) (fun c_55 => ?_) (fun c_55 => ?_)
              · have c_55 : y_54 = 0 := c_55
                have f_82_1 : iR y_54 0 0 := iR_eqL c_55 (iR_top _) (iR_c (n := 0) (a := 0) (b := 0) (by decide +kernel) (by decide +kernel)) (by decide +kernel)
                have lc_55 : x1 = 444150998387 := l_cmpe ey_54 c_55
                exact J_82   H locs ls hP hD hS (lv_sub hl [] rfl)
              · have c_55 : ¬ y_54 = 0 := c_55
                have lc_55 : ¬ x1 = 444150998387 := l_cmpne ey_54 c_55
                refine lv_lload_n hx hb dX7_isOwn_58 rfl (lv_at hl 1 rfl) ?_
                refine lv_ldc2 (v := 474147546227) hx hb hown w_7 dX7_isOwn_59 ?_
                refine W.lcmp hx hb dX7_isOwn_62 ?_
                refine lv_topi (fun y_62 ey_62 => ?_)
                refine lv_if_eq (tgt := 82) hx hb dX7_isOwn_63 (by decide) (fun c_63 => ?_) (fun c_63 => ?_)
                · have c_63 : y_62 = 0 := c_63
                  have f_82_1 : iR y_62 0 0 := iR_eqL c_63 (iR_top _) (iR_c (n := 0) (a := 0) (b := 0) (by decide +kernel) (by decide +kernel)) (by decide +kernel)
                  have lc_63 : x1 = 474147546227 := l_cmpe ey_62 c_63
                  exact J_82   H locs ls hP hD hS (lv_sub hl [] rfl)
                · have c_63 : ¬ y_62 = 0 := c_63
                  have lc_63 : ¬ x1 = 474147546227 := l_cmpne ey_62 c_63
                  refine lv_lload_n hx hb dX7_isOwn_66 rfl (lv_at hl 1 rfl) ?_
                  refine lv_ldc2 (v := 1970496883) hx hb hown w_8 dX7_isOwn_67 ?_
                  refine W.lcmp hx hb dX7_isOwn_70 ?_
                  refine lv_topi (fun y_70 ey_70 => ?_)
                  refine lv_if_eq (tgt := 82) hx hb dX7_isOwn_71 (by decide) (fun c_71 => ?_) (fun c_71 => ?_)
                  · have c_71 : y_70 = 0 := c_71
                    have f_82_1 : iR y_70 0 0 := iR_eqL c_71 (iR_top _) (iR_c (n := 0) (a := 0) (b := 0) (by decide +kernel) (by decide +kernel)) (by decide +kernel)
                    have lc_71 : x1 = 1970496883 := l_cmpe ey_70 c_71
                    exact J_82   H locs ls hP hD hS (lv_sub hl [] rfl)
                  · have c_71 : ¬ y_70 = 0 := c_71
                    have lc_71 : ¬ x1 = 1970496883 := l_cmpne ey_70 c_71
                    refine lv_lload_n hx hb dX7_isOwn_74 rfl (lv_at hl 1 rfl) ?_
                    refine lv_ldc2 (v := 439855772532) hx hb hown w_9 dX7_isOwn_75 ?_
                    refine W.lcmp hx hb dX7_isOwn_78 ?_
                    refine lv_topi (fun y_78 ey_78 => ?_)
                    refine lv_if_ne (tgt := 84) hx hb dX7_isOwn_79 (by decide) (fun c_79 => ?_) (fun c_79 => ?_)
                    · have c_79 : ¬ y_78 = 0 := c_79
                      have lc_79 : ¬ x1 = 439855772532 := l_cmpne ey_78 c_79
                      refine lv_lload_n hx hb dX7_isOwn_84 rfl (lv_at hl 1 rfl) ?_
                      refine lv_ldc2 (v := 1684107883) hx hb hown w_10 dX7_isOwn_85 ?_
                      refine W.lcmp hx hb dX7_isOwn_88 ?_
                      refine lv_topi (fun y_88 ey_88 => ?_)
                      have J_124 : ∀   (H : Heap) (locs : List Loc) (ls : Array Slot), va_P (dC, dI) vwCl [] H → va_D A [] → va_S A s.heap H locs → lv_has ls 3 [] → W p l e ({ frames := 1, cells := 0, slots := 0, locals := 40 }) s m args below meth c H locs 0 0 (MQ below (va_Qi (fun (r9 : Int32) (u9 : Unit) => (iR r9 0 1)) (fun u => k_B (dC, dI) vwCl (tyy cI cJ cZ cM) A ((fun (u9 : Unit) => []) u)) A) args s 0 0 A) (F0 m 124 ls []) := by
                        intro   H locs ls hP hD hS hl
                        refine lv_iconst (v := 1) hx hb dX7_isOwn_124 (by decide +kernel) ?_
                        exact k_ri B hP hD hS dX7_isOwn_125 () [] rfl rfl rfl (Nat.le_of_ble_eq_true rfl) (Nat.le_of_ble_eq_true rfl) (show iR 1 0 1 from (iR_c (n := 1) (a := 0) (b := 1) (by decide +kernel) (by decide +kernel)))
                      refine lv_if_eq (tgt := 124) hx hb dX7_isOwn_89 (by decide) (fun c_89 => ?_) (fun c_89 => ?_)
                      · have c_89 : y_88 = 0 := c_89
                        have f_124_1 : iR y_88 0 0 := iR_eqL c_89 (iR_top _) (iR_c (n := 0) (a := 0) (b := 0) (by decide +kernel) (by decide +kernel)) (by decide +kernel)
                        have lc_89 : x1 = 1684107883 := l_cmpe ey_88 c_89
                        exact J_124   H locs ls hP hD hS (lv_sub hl [] rfl)
                      · have c_89 : ¬ y_88 = 0 := c_89
                        have lc_89 : ¬ x1 = 1684107883 := l_cmpne ey_88 c_89
                        refine lv_lload_n hx hb dX7_isOwn_92 rfl (lv_at hl 1 rfl) ?_
                        refine lv_ldc2 (v := 1919905645) hx hb hown w_11 dX7_isOwn_93 ?_
                        refine W.lcmp hx hb dX7_isOwn_96 ?_
                        refine lv_topi (fun y_96 ey_96 => ?_)
                        refine lv_if_eq (tgt := 124) hx hb dX7_isOwn_97 (by decide) (fun c_97 => ?_) (fun c_97 => ?_)
                        · have c_97 : y_96 = 0 := c_97
                          have f_124_1 : iR y_96 0 0 := iR_eqL c_97 (iR_top _) (iR_c (n := 0) (a := 0) (b := 0) (by decide +kernel) (by decide +kernel)) (by decide +kernel)
                          have lc_97 : x1 = 1919905645 := l_cmpe ey_96 c_97
                          exact J_124   H locs ls hP hD hS (lv_sub hl [] rfl)
                        · have c_97 : ¬ y_96 = 0 := c_97
                          have lc_97 : ¬ x1 = 1919905645 := l_cmpne ey_96 c_97
                          refine lv_lload_n hx hb dX7_isOwn_100 rfl (lv_at hl 1 rfl) ?_
                          refine lv_ldc2 (v := 27988542884245108) hx hb hown w_12 dX7_isOwn_101 ?_
                          refine W.lcmp hx hb dX7_isOwn_104 ?_
                          refine lv_topi (fun y_104 ey_104 => ?_)
                          refine lv_if_eq (tgt := 124) hx hb dX7_isOwn_105 (by decide) (fun c_105 => ?_) (fun c_105 => ?_)
                          · have c_105 : y_104 = 0 := c_105
                            have f_124_1 : iR y_104 0 0 := iR_eqL c_105 (iR_top _) (iR_c (n := 0) (a := 0) (b := 0) (by decide +kernel) (by decide +kernel)) (by decide +kernel)
                            have lc_105 : x1 = 27988542884245108 := l_cmpe ey_104 c_105
                            exact J_124   H locs ls hP hD hS (lv_sub hl [] rfl)
                          · have c_105 : ¬ y_104 = 0 := c_105
                            have lc_105 : ¬ x1 = 27988542884245108 := l_cmpne ey_104 c_105
                            refine lv_lload_n hx hb dX7_isOwn_108 rfl (lv_at hl 1 rfl) ?_
                            refine lv_ldc2 (v := 422607680115) hx hb hown w_13 dX7_isOwn_109 ?_
                            refine W.lcmp hx hb dX7_isOwn_112 ?_
                            refine lv_topi (fun y_112 ey_112 => ?_)
                            refine lv_if_eq (tgt := 124) hx hb dX7_isOwn_113 (by decide) (fun c_113 => ?_) (fun c_113 => ?_)
                            · have c_113 : y_112 = 0 := c_113
                              have f_124_1 : iR y_112 0 0 := iR_eqL c_113 (iR_top _) (iR_c (n := 0) (a := 0) (b := 0) (by decide +kernel) (by decide +kernel)) (by decide +kernel)
                              have lc_113 : x1 = 422607680115 := l_cmpe ey_112 c_113
                              exact J_124   H locs ls hP hD hS (lv_sub hl [] rfl)
                            · have c_113 : ¬ y_112 = 0 := c_113
                              have lc_113 : ¬ x1 = 422607680115 := l_cmpne ey_112 c_113
                              refine lv_lload_n hx hb dX7_isOwn_116 rfl (lv_at hl 1 rfl) ?_
                              refine lv_ldc2 (v := 1667329133) hx hb hown w_14 dX7_isOwn_117 ?_
                              refine W.lcmp hx hb dX7_isOwn_120 ?_
                              refine lv_topi (fun y_120 ey_120 => ?_)
                              refine lv_if_ne (tgt := 126) hx hb dX7_isOwn_121 (by decide) (fun c_121 => ?_) (fun c_121 => ?_)
                              · have c_121 : ¬ y_120 = 0 := c_121
                                have lc_121 : ¬ x1 = 1667329133 := l_cmpne ey_120 c_121
                                refine lv_lload_n hx hb dX7_isOwn_126 rfl (lv_at hl 1 rfl) ?_
                                refine lv_ldc2 (v := 6840676) hx hb hown w_15 dX7_isOwn_127 ?_
                                refine W.lcmp hx hb dX7_isOwn_130 ?_
                                refine lv_topi (fun y_130 ey_130 => ?_)
                                have J_166 : ∀   (H : Heap) (locs : List Loc) (ls : Array Slot), va_P (dC, dI) vwCl [] H → va_D A [] → va_S A s.heap H locs → lv_has ls 3 [] → W p l e ({ frames := 1, cells := 0, slots := 0, locals := 40 }) s m args below meth c H locs 0 0 (MQ below (va_Qi (fun (r9 : Int32) (u9 : Unit) => (iR r9 0 1)) (fun u => k_B (dC, dI) vwCl (tyy cI cJ cZ cM) A ((fun (u9 : Unit) => []) u)) A) args s 0 0 A) (F0 m 166 ls []) := by
                                  intro   H locs ls hP hD hS hl
                                  refine lv_iconst (v := 1) hx hb dX7_isOwn_166 (by decide +kernel) ?_
                                  exact k_ri B hP hD hS dX7_isOwn_167 () [] rfl rfl rfl (Nat.le_of_ble_eq_true rfl) (Nat.le_of_ble_eq_true rfl) (show iR 1 0 1 from (iR_c (n := 1) (a := 0) (b := 1) (by decide +kernel) (by decide +kernel)))
                                refine lv_if_eq (tgt := 166) hx hb dX7_isOwn_131 (by decide) (fun c_131 => ?_) (fun c_131 => ?_)
                                · have c_131 : y_130 = 0 := c_131
                                  have f_166_1 : iR y_130 0 0 := iR_eqL c_131 (iR_top _) (iR_c (n := 0) (a := 0) (b := 0) (by decide +kernel) (by decide +kernel)) (by decide +kernel)
                                  have lc_131 : x1 = 6840676 := l_cmpe ey_130 c_131
                                  exact J_166   H locs ls hP hD hS (lv_sub hl [] rfl)
                                · have c_131 : ¬ y_130 = 0 := c_131
                                  have lc_131 : ¬ x1 = 6840676 := l_cmpne ey_130 c_131
                                  refine lv_lload_n hx hb dX7_isOwn_134 rfl (lv_at hl 1 rfl) ?_
                                  refine lv_ldc2 (v := 7562593) hx hb hown w_16 dX7_isOwn_135 ?_
                                  refine W.lcmp hx hb dX7_isOwn_138 ?_
                                  refine lv_topi (fun y_138 ey_138 => ?_)
                                  refine lv_if_eq (tgt := 166) hx hb dX7_isOwn_139 (by decide) (fun c_139 => ?_) (fun c_139 => ?_)
                                  · have c_139 : y_138 = 0 := c_139
                                    have f_166_1 : iR y_138 0 0 := iR_eqL c_139 (iR_top _) (iR_c (n := 0) (a := 0) (b := 0) (by decide +kernel) (by decide +kernel)) (by decide +kernel)
                                    have lc_139 : x1 = 7562593 := l_cmpe ey_138 c_139
                                    exact J_166   H locs ls hP hD hS (lv_sub hl [] rfl)
                                  · have c_139 : ¬ y_138 = 0 := c_139
                                    have lc_139 : ¬ x1 = 7562593 := l_cmpne ey_138 c_139
                                    refine lv_lload_n hx hb dX7_isOwn_142 rfl (lv_at hl 1 rfl) ?_
                                    refine lv_ldc2 (v := 1935763812) hx hb hown w_17 dX7_isOwn_143 ?_
                                    refine W.lcmp hx hb dX7_isOwn_146 ?_
                                    refine lv_topi (fun y_146 ey_146 => ?_)
                                    refine lv_if_eq (tgt := 166) hx hb dX7_isOwn_147 (by decide) (fun c_147 => ?_) (fun c_147 => ?_)
                                    · have c_147 : y_146 = 0 := c_147
                                      have f_166_1 : iR y_146 0 0 := iR_eqL c_147 (iR_top _) (iR_c (n := 0) (a := 0) (b := 0) (by decide +kernel) (by decide +kernel)) (by decide +kernel)
                                      have lc_147 : x1 = 1935763812 := l_cmpe ey_146 c_147
                                      exact J_166   H locs ls hP hD hS (lv_sub hl [] rfl)
                                    · have c_147 : ¬ y_146 = 0 := c_147
                                      have lc_147 : ¬ x1 = 1935763812 := l_cmpne ey_146 c_147
                                      refine lv_lload_n hx hb dX7_isOwn_150 rfl (lv_at hl 1 rfl) ?_
                                      refine lv_ldc2 (v := 6578553) hx hb hown w_18 dX7_isOwn_151 ?_
                                      refine W.lcmp hx hb dX7_isOwn_154 ?_
                                      refine lv_topi (fun y_154 ey_154 => ?_)
                                      refine lv_if_eq (tgt := 166) hx hb dX7_isOwn_155 (by decide) (fun c_155 => ?_) (fun c_155 => ?_)
                                      · have c_155 : y_154 = 0 := c_155
                                        have f_166_1 : iR y_154 0 0 := iR_eqL c_155 (iR_top _) (iR_c (n := 0) (a := 0) (b := 0) (by decide +kernel) (by decide +kernel)) (by decide +kernel)
                                        have lc_155 : x1 = 6578553 := l_cmpe ey_154 c_155
                                        exact J_166   H locs ls hP hD hS (lv_sub hl [] rfl)
                                      · have c_155 : ¬ y_154 = 0 := c_155
                                        have lc_155 : ¬ x1 = 6578553 := l_cmpne ey_154 c_155
                                        refine lv_lload_n hx hb dX7_isOwn_158 rfl (lv_at hl 1 rfl) ?_
                                        refine lv_ldc2 (v := 28530) hx hb hown w_19 dX7_isOwn_159 ?_
                                        refine W.lcmp hx hb dX7_isOwn_162 ?_
                                        refine lv_topi (fun y_162 ey_162 => ?_)
                                        refine lv_if_ne (tgt := 168) hx hb dX7_isOwn_163 (by decide) (fun c_163 => ?_) (fun c_163 => ?_)
                                        · have c_163 : ¬ y_162 = 0 := c_163
                                          have lc_163 : ¬ x1 = 28530 := l_cmpne ey_162 c_163
                                          refine lv_lload_n hx hb dX7_isOwn_168 rfl (lv_at hl 1 rfl) ?_
                                          refine lv_ldc2 (v := 6385252) hx hb hown w_20 dX7_isOwn_169 ?_
                                          refine W.lcmp hx hb dX7_isOwn_172 ?_
                                          refine lv_topi (fun y_172 ey_172 => ?_)
                                          have J_208 : ∀   (H : Heap) (locs : List Loc) (ls : Array Slot), va_P (dC, dI) vwCl [] H → va_D A [] → va_S A s.heap H locs → lv_has ls 3 [] → W p l e ({ frames := 1, cells := 0, slots := 0, locals := 40 }) s m args below meth c H locs 0 0 (MQ below (va_Qi (fun (r9 : Int32) (u9 : Unit) => (iR r9 0 1)) (fun u => k_B (dC, dI) vwCl (tyy cI cJ cZ cM) A ((fun (u9 : Unit) => []) u)) A) args s 0 0 A) (F0 m 208 ls []) := by
                                            intro   H locs ls hP hD hS hl
                                            refine lv_iconst (v := 1) hx hb dX7_isOwn_208 (by decide +kernel) ?_
                                            exact k_ri B hP hD hS dX7_isOwn_209 () [] rfl rfl rfl (Nat.le_of_ble_eq_true rfl) (Nat.le_of_ble_eq_true rfl) (show iR 1 0 1 from (iR_c (n := 1) (a := 0) (b := 1) (by decide +kernel) (by decide +kernel)))
                                          refine lv_if_eq (tgt := 208) hx hb dX7_isOwn_173 (by decide) (fun c_173 => ?_) (fun c_173 => ?_)
                                          · have c_173 : y_172 = 0 := c_173
                                            have f_208_1 : iR y_172 0 0 := iR_eqL c_173 (iR_top _) (iR_c (n := 0) (a := 0) (b := 0) (by decide +kernel) (by decide +kernel)) (by decide +kernel)
                                            have lc_173 : x1 = 6385252 := l_cmpe ey_172 c_173
                                            exact J_208   H locs ls hP hD hS (lv_sub hl [] rfl)
                                          · have c_173 : ¬ y_172 = 0 := c_173
                                            have lc_173 : ¬ x1 = 6385252 := l_cmpne ey_172 c_173
                                            refine lv_lload_n hx hb dX7_isOwn_176 rfl (lv_at hl 1 rfl) ?_
                                            refine lv_ldc2 (v := 7237492) hx hb hown w_21 dX7_isOwn_177 ?_
                                            refine W.lcmp hx hb dX7_isOwn_180 ?_
                                            refine lv_topi (fun y_180 ey_180 => ?_)
                                            refine lv_if_eq (tgt := 208) hx hb dX7_isOwn_181 (by decide) (fun c_181 => ?_) (fun c_181 => ?_)
                                            · have c_181 : y_180 = 0 := c_181
                                              have f_208_1 : iR y_180 0 0 := iR_eqL c_181 (iR_top _) (iR_c (n := 0) (a := 0) (b := 0) (by decide +kernel) (by decide +kernel)) (by decide +kernel)
                                              have lc_181 : x1 = 7237492 := l_cmpe ey_180 c_181
                                              exact J_208   H locs ls hP hD hS (lv_sub hl [] rfl)
                                            · have c_181 : ¬ y_180 = 0 := c_181
                                              have lc_181 : ¬ x1 = 7237492 := l_cmpne ey_180 c_181
                                              refine lv_lload_n hx hb dX7_isOwn_184 rfl (lv_at hl 1 rfl) ?_
                                              refine lv_ldc2 (v := 6384748) hx hb hown w_22 dX7_isOwn_185 ?_
                                              refine W.lcmp hx hb dX7_isOwn_188 ?_
                                              refine lv_topi (fun y_188 ey_188 => ?_)
                                              refine lv_if_eq (tgt := 208) hx hb dX7_isOwn_189 (by decide) (fun c_189 => ?_) (fun c_189 => ?_)
                                              · have c_189 : y_188 = 0 := c_189
                                                have f_208_1 : iR y_188 0 0 := iR_eqL c_189 (iR_top _) (iR_c (n := 0) (a := 0) (b := 0) (by decide +kernel) (by decide +kernel)) (by decide +kernel)
                                                have lc_189 : x1 = 6384748 := l_cmpe ey_188 c_189
                                                exact J_208   H locs ls hP hD hS (lv_sub hl [] rfl)
                                              · have c_189 : ¬ y_188 = 0 := c_189
                                                have lc_189 : ¬ x1 = 6384748 := l_cmpne ey_188 c_189
                                                refine lv_lload_n hx hb dX7_isOwn_192 rfl (lv_at hl 1 rfl) ?_
                                                refine lv_ldc2 (v := 7170414) hx hb hown w_23 dX7_isOwn_193 ?_
                                                refine W.lcmp hx hb dX7_isOwn_196 ?_
                                                refine lv_topi (fun y_196 ey_196 => ?_)
                                                refine lv_if_eq (tgt := 208) hx hb dX7_isOwn_197 (by decide) (fun c_197 => ?_) (fun c_197 => ?_)
                                                · have c_197 : y_196 = 0 := c_197
                                                  have f_208_1 : iR y_196 0 0 := iR_eqL c_197 (iR_top _) (iR_c (n := 0) (a := 0) (b := 0) (by decide +kernel) (by decide +kernel)) (by decide +kernel)
                                                  have lc_197 : x1 = 7170414 := l_cmpe ey_196 c_197
                                                  exact J_208   H locs ls hP hD hS (lv_sub hl [] rfl)
                                                · have c_197 : ¬ y_196 = 0 := c_197
                                                  have lc_197 : ¬ x1 = 7170414 := l_cmpne ey_196 c_197
                                                  refine lv_lload_n hx hb dX7_isOwn_200 rfl (lv_at hl 1 rfl) ?_
                                                  refine lv_ldc2 (v := 7168376) hx hb hown w_24 dX7_isOwn_201 ?_
                                                  refine W.lcmp hx hb dX7_isOwn_204 ?_
                                                  refine lv_topi (fun y_204 ey_204 => ?_)
                                                  refine lv_if_ne (tgt := 210) hx hb dX7_isOwn_205 (by decide) (fun c_205 => ?_) (fun c_205 => ?_)
                                                  · have c_205 : ¬ y_204 = 0 := c_205
                                                    have lc_205 : ¬ x1 = 7168376 := l_cmpne ey_204 c_205
                                                    refine lv_iconst (v := 0) hx hb dX7_isOwn_210 (by decide +kernel) ?_
                                                    exact k_ri B hP hD hS dX7_isOwn_211 () [] rfl rfl rfl (Nat.le_of_ble_eq_true rfl) (Nat.le_of_ble_eq_true rfl) (show iR 0 0 1 from (iR_c (n := 0) (a := 0) (b := 1) (by decide +kernel) (by decide +kernel)))
                                                  · have c_205 : y_204 = 0 := c_205
                                                    have f_208_1 : iR y_204 0 0 := iR_eqL c_205 (iR_top _) (iR_c (n := 0) (a := 0) (b := 0) (by decide +kernel) (by decide +kernel)) (by decide +kernel)
                                                    have lc_205 : x1 = 7168376 := l_cmpe ey_204 c_205
                                                    exact J_208   H locs ls hP hD hS (lv_sub hl [] rfl)
                                        · have c_163 : y_162 = 0 := c_163
                                          have f_166_1 : iR y_162 0 0 := iR_eqL c_163 (iR_top _) (iR_c (n := 0) (a := 0) (b := 0) (by decide +kernel) (by decide +kernel)) (by decide +kernel)
                                          have lc_163 : x1 = 28530 := l_cmpe ey_162 c_163
                                          exact J_166   H locs ls hP hD hS (lv_sub hl [] rfl)
                              · have c_121 : y_120 = 0 := c_121
                                have f_124_1 : iR y_120 0 0 := iR_eqL c_121 (iR_top _) (iR_c (n := 0) (a := 0) (b := 0) (by decide +kernel) (by decide +kernel)) (by decide +kernel)
                                have lc_121 : x1 = 1667329133 := l_cmpe ey_120 c_121
                                exact J_124   H locs ls hP hD hS (lv_sub hl [] rfl)
                    · have c_79 : y_78 = 0 := c_79
                      have f_82_1 : iR y_78 0 0 := iR_eqL c_79 (iR_top _) (iR_c (n := 0) (a := 0) (b := 0) (by decide +kernel) (by decide +kernel)) (by decide +kernel)
                      have lc_79 : x1 = 439855772532 := l_cmpe ey_78 c_79
                      exact J_82   H locs ls hP hD hS (lv_sub hl [] rfl)
          · have c_37 : y_36 = 0 := c_37
            have f_40_1 : iR y_36 0 0 := iR_eqL c_37 (iR_top _) (iR_c (n := 0) (a := 0) (b := 0) (by decide +kernel) (by decide +kernel)) (by decide +kernel)
            have lc_37 : x1 = 2003399528 := l_cmpe ey_36 c_37
            exact J_40   H locs ls hP hD hS (lv_sub hl [] rfl)
set_option maxHeartbeats 8000000 in
set_option maxRecDepth 100000 in
theorem s_X7_named_v4 (l : Launch) (dC : Nat → ClassId) (dI : Nat → Nat → Nat) (cI cJ cZ cM : ClassId) (h : Nat) (r : Nat → Nat) (i : Nat → Int32) (j : Nat → Int64) (x2 : Int64) (f14 : Nat → Int32) (g34 : Nat → Int64) (hI : mR i) (hf14 : aR f14 0 10) : k_Mi l yX7_named wsX7_named ({ frames := 2, cells := 0, slots := 0, locals := 63 }) (dC, dI) vwCl (tyy cI cJ cZ cM) [(h, .inr (7, oM r i j)), ((r 14), .inl (cI, 2, .inl f14)), ((r 34), .inl (cJ, 20, .inr (.inl g34)))] [.ref h, .int 0, .long x2] 0 0 (fun (u9 : Unit) => [(h, .inr (7, oM r i j)), ((r 14), .inl (cI, 2, .inl f14)), ((r 34), .inl (cJ, 20, .inr (.inl g34)))]) (fun (r9 : Int32) (u9 : Unit) => (iR r9 (-1) 9)) := by
  refine fun sz => k_enter (cc := cX7_named) (maxL := 5) (ret := some (.int)) (Qc := fun A => va_Qi (fun (r9 : Int32) (u9 : Unit) => (iR r9 (-1) 9)) (fun u => k_B (dC, dI) vwCl (tyy cI cJ cZ cM) A ((fun (u9 : Unit) => [(h, .inr (7, oM r i j)), ((r 14), .inl (cI, 2, .inl f14)), ((r 34), .inl (cJ, 20, .inr (.inl g34)))]) u)) A) sz (by decide +kernel) rfl (Nat.le_of_ble_eq_true rfl) (fun p e s m args below meth c A ls H locs B hP hD hS hl => ?_)
  obtain ⟨hx, hb, hml, hown, hts, hr, hlk, hnm, hK, hA, hN, hC⟩ := id B
  have hown : s.vm.findClass RX7 = some m.cls := hown
  have hl : lv_has ls 5 [(0, .ref h), (1, .int 0), (2, .long x2)] := hl
  have w_0 : (Cond.fieldLink RX7 124 "WishSeaModel" "in" "I").before args s = true := hts _ (List.mem_of_getElem? (i := 1) rfl)
  have hinX7 : ∀ w ∈ u_ws RX7 TX7 92, w ∈ wsX7_named := fun _ h => List.mem_cons_of_mem _ (List.mem_append_right _ h)
  refine lv_iconst (v := 0) hx hb dX7_named_0 (by decide +kernel) ?_
  have J_3 : ∀ (n_3 : Nat) (j3_L4 : Int32) (hj3_L4 : iR j3_L4 0 10) (hm_3 : (10 - j3_L4.toInt).toNat < n_3) (H : Heap) (locs : List Loc) (ls : Array Slot), va_P (dC, dI) vwCl [(h, .inr (7, oM r i j)), ((r 14), .inl (cI, 2, .inl f14)), ((r 34), .inl (cJ, 20, .inr (.inl g34)))] H → va_D A [(h, .inr (7, oM r i j)), ((r 14), .inl (cI, 2, .inl f14)), ((r 34), .inl (cJ, 20, .inr (.inl g34)))] → va_S A s.heap H locs → lv_has ls 5 [(0, .ref h), (1, .int 0), (2, .long x2), (4, .int j3_L4)] → W p l e ({ frames := 2, cells := 0, slots := 0, locals := 63 }) s m args below meth c H locs 0 0 (MQ below (va_Qi (fun (r9 : Int32) (u9 : Unit) => (iR r9 (-1) 9)) (fun u => k_B (dC, dI) vwCl (tyy cI cJ cZ cM) A ((fun (u9 : Unit) => [(h, .inr (7, oM r i j)), ((r 14), .inl (cI, 2, .inl f14)), ((r 34), .inl (cJ, 20, .inr (.inl g34)))]) u)) A) args s 0 0 A) (F0 m 3 ls []) := by
    intro n_3
    induction n_3 with
    | zero => intro j3_L4 hj3_L4 hm_3; exact absurd hm_3 (Nat.not_lt_zero _)
    | succ n_3 ih_3 =>
      intro j3_L4 hj3_L4 hm_3 H locs ls hP hD hS hl
      refine lv_iload hx hb dX7_named_3 (lv_at hl 3 rfl) ?_
      refine lv_aload_n hx hb dX7_named_5 rfl (lv_at hl 0 rfl) ?_
      refine lv_aload_n hx hb dX7_named_6 rfl (lv_at hl 0 rfl) ?_
      have f_7_1 : iR (i 37) 0 1 := hI 37
      refine k_get (D := (dC, dI)) (ci := 7) (v := .int (i 37)) (C := RX7) (T := TX7) (N := 92) hx hb hts hinX7 hown hK hP 0 rfl rfl 37 (by decide) w_0 rfl rfl dX7_named_7 ?_
      refine lv_iload_n hx hb dX7_named_10 rfl (lv_at hl 1 rfl) ?_
      refine k_ci (wc := [(h, .inr (7, oM r i j)), ((r 14), .inl (cI, 2, .inl f14))]) (wr := [((r 34), .inl (cJ, 20, .inr (.inl g34)))]) (fun hPc hDc hFc => va_runV (As := [.int (i 37), .int 0]) (rest := [.int j3_L4]) ⟨hx, hb, hml, hown, hts⟩ (s_X7_manyOf_v4 l dC dI cI cJ cZ cM h r i j (i 37) f14 f_7_1 hI hf14 H.size) (cwV 2 hts gX7_named_X7_manyOf rfl rfl rfl (by decide +kernel) ⟨(Nat.le_of_ble_eq_true rfl), (Nat.le_of_ble_eq_true rfl)⟩) (k_pV hPc hDc hK hN hC hS hFc hP (q0 := 0) (ci := 7) rfl rfl) rfl rfl hl.1 rfl (lv_room (Nat.le_of_ble_eq_true rfl)) dX7_named_11 ⟨(Nat.le_of_ble_eq_true rfl), (Nat.le_of_ble_eq_true rfl)⟩) hP hD hS hA [0, 1] [2] rfl rfl rfl rfl (by decide) (fun _ => rfl) 0 0 rfl rfl (fun r_11 u_11 H locs hw hP hD hS => ?_)
      have g_11_0 := hw
      obtain rfl : r_11 = (f14 (i 37).toNatClampNeg) := g_11_0
      have hP : va_P (dC, dI) vwCl [((r 34), .inl (cJ, 20, .inr (.inl g34))), (h, .inr (7, oM r i j)), ((r 14), .inl (cI, 2, .inl f14))] H := hP
      have hD : va_D A [((r 34), .inl (cJ, 20, .inr (.inl g34))), (h, .inr (7, oM r i j)), ((r 14), .inl (cI, 2, .inl f14))] := hD
      refine lv_icmp_ge (tgt := 42) hx hb dX7_named_14 (by decide) (fun c_14 => ?_) (fun c_14 => ?_)
      · have c_14 : (f14 (i 37).toNatClampNeg) ≤ j3_L4 := c_14
        refine lv_iconst (v := (-1)) hx hb dX7_named_42 (by decide +kernel) ?_
        exact k_ri B hP hD hS dX7_named_43 () [1, 2, 0] rfl rfl rfl (Nat.le_of_ble_eq_true rfl) (Nat.le_of_ble_eq_true rfl) (show iR (-1) (-1) 9 from (iR_c (n := (-1)) (a := (-1)) (b := 9) (by decide +kernel) (by decide +kernel)))
      · have c_14 : j3_L4 < (f14 (i 37).toNatClampNeg) := i_nle c_14
        have f_17_2 : iR j3_L4 0 9 := iR_ltL c_14 hj3_L4 (show iR (f14 (i 37).toNatClampNeg) 0 10 from hf14 _) (by decide +kernel)
        have f_17_3 : iR (f14 (i 37).toNatClampNeg) 1 10 := iR_ltR c_14 hj3_L4 (show iR (f14 (i 37).toNatClampNeg) 0 10 from hf14 _) (by decide +kernel)
        refine lv_aload_n hx hb dX7_named_17 rfl (lv_at hl 0 rfl) ?_
        refine lv_aload_n hx hb dX7_named_18 rfl (lv_at hl 0 rfl) ?_
        refine k_get (D := (dC, dI)) (ci := 7) (v := .int (i 37)) (C := RX7) (T := TX7) (N := 92) hx hb hts hinX7 hown hK hP 1 rfl rfl 37 (by decide) w_0 rfl rfl dX7_named_19 ?_
        refine lv_iload_n hx hb dX7_named_22 rfl (lv_at hl 1 rfl) ?_
        refine lv_iload hx hb dX7_named_23 (lv_at hl 3 rfl) ?_
        refine k_cl (wc := [(h, .inr (7, oM r i j)), ((r 34), .inl (cJ, 20, .inr (.inl g34)))]) (wr := [((r 14), .inl (cI, 2, .inl f14))]) (fun hPc hDc hFc => va_runV (As := [.int (i 37), .int 0, .int j3_L4]) (rest := []) ⟨hx, hb, hml, hown, hts⟩ (s_X7_nameOf_v4 l dC dI cI cJ cZ cM h r i j (i 37) j3_L4 g34 f_7_1 f_17_2 hI H.size) (cwV 3 hts gX7_named_X7_nameOf rfl rfl rfl (by decide +kernel) ⟨(Nat.le_of_ble_eq_true rfl), (Nat.le_of_ble_eq_true rfl)⟩) (k_pV hPc hDc hK hN hC hS hFc hP (q0 := 1) (ci := 7) rfl rfl) rfl rfl hl.1 rfl (lv_room (Nat.le_of_ble_eq_true rfl)) dX7_named_25 ⟨(Nat.le_of_ble_eq_true rfl), (Nat.le_of_ble_eq_true rfl)⟩) hP hD hS hA [1, 0] [2] rfl rfl rfl rfl (by decide) (fun _ => rfl) 0 0 rfl rfl (fun r_25 u_25 H locs hw hP hD hS => ?_)
        have hP : va_P (dC, dI) vwCl [((r 14), .inl (cI, 2, .inl f14)), (h, .inr (7, oM r i j)), ((r 34), .inl (cJ, 20, .inr (.inl g34)))] H := hP
        have hD : va_D A [((r 14), .inl (cI, 2, .inl f14)), (h, .inr (7, oM r i j)), ((r 34), .inl (cJ, 20, .inr (.inl g34)))] := hD
        refine lv_lload_n hx hb dX7_named_28 rfl (lv_at hl 2 rfl) ?_
        refine W.lcmp hx hb dX7_named_29 ?_
        refine lv_topi (fun y_29 ey_29 => ?_)
        refine lv_if_ne (tgt := 36) hx hb dX7_named_30 (by decide) (fun c_30 => ?_) (fun c_30 => ?_)
        · have c_30 : ¬ y_29 = 0 := c_30
          have lc_30 : ¬ r_25 = x2 := l_cmpne ey_29 c_30
          obtain ⟨y_36, ey_36⟩ : ∃ y : Int32, y = j3_L4 + 1 := ⟨_, rfl⟩
          refine lv_iinc (v := y_36) (lv' := [(4, .int y_36), (0, .ref h), (1, .int 0), (2, .long x2)]) hx hb dX7_named_36 hl (k := 3) rfl ey_36.symm (by decide) rfl (fun ls hl => ?_)
          have f_36_4 : iR y_36 1 10 := iR_add ey_36 f_17_2 (iR_c (n := 1) (a := 1) (b := 1) (by decide +kernel) (by decide +kernel)) (by decide +kernel)
          refine lv_goto (tgt := 3) hx hb dX7_named_39 (by decide) ?_
          exact ih_3 y_36 (iR_w f_36_4 (by decide +kernel)) (m_up (B := 10) hm_3 ey_36 f_17_2 (by decide +kernel)) H locs ls (hP.sub [1, 0, 2] rfl) (hD.sub [1, 0, 2] (by decide +kernel) rfl) hS (lv_sub hl [1, 2, 3, 0] rfl)
        · have c_30 : y_29 = 0 := c_30
          have f_33_4 : iR y_29 0 0 := iR_eqL c_30 (iR_top _) (iR_c (n := 0) (a := 0) (b := 0) (by decide +kernel) (by decide +kernel)) (by decide +kernel)
          have lc_30 : r_25 = x2 := l_cmpe ey_29 c_30
          refine lv_iload hx hb dX7_named_33 (lv_at hl 3 rfl) ?_
          exact k_ri B hP hD hS dX7_named_35 () [1, 0, 2] rfl rfl rfl (Nat.le_of_ble_eq_true rfl) (Nat.le_of_ble_eq_true rfl) (show iR j3_L4 (-1) 9 from (iR_w f_17_2 (by decide +kernel)))
  refine lv_istore (lv' := [(4, .int 0), (0, .ref h), (1, .int 0), (2, .long x2)]) hx hb dX7_named_1 hl (by decide) rfl (fun ls hl => ?_)
  exact J_3 _ 0 (iR_c (n := 0) (a := 0) (b := 10) (by decide +kernel) (by decide +kernel)) (Nat.lt_succ_self _) H locs ls hP hD hS (lv_sub hl [1, 2, 3, 0] rfl)
set_option maxHeartbeats 8000000 in
set_option maxRecDepth 100000 in
theorem s_X7_looked_v0 (l : Launch) (dC : Nat → ClassId) (dI : Nat → Nat → Nat) (cI cJ cZ cM : ClassId) (h : Nat) (r : Nat → Nat) (i : Nat → Int32) (j : Nat → Int64) (f14 : Nat → Int32) (g34 : Nat → Int64) (hI : mR i) (hf14 : aR f14 0 10) : k_Mi l yX7_looked wsX7_looked ({ frames := 3, cells := 0, slots := 0, locals := 87 }) (dC, dI) vwCl (tyy cI cJ cZ cM) [(h, .inr (7, oM r i j)), ((r 14), .inl (cI, 2, .inl f14)), ((r 34), .inl (cJ, 20, .inr (.inl g34)))] [.ref h] 0 0 (fun (u9 : SU) => [(h, .inr (7, oM r (upd (upd i 8 (u9.1 0)) 9 (u9.1 1)) j)), ((r 14), .inl (cI, 2, .inl f14)), ((r 34), .inl (cJ, 20, .inr (.inl g34)))]) (fun (r9 : Int32) (u9 : SU) => (iR r9 0 9) ∧ (iR (u9.1 0) 0 6)) := by
  refine fun sz => k_enter (cc := cX7_looked) (maxL := 2) (ret := some (.int)) (Qc := fun A => va_Qi (fun (r9 : Int32) (u9 : SU) => (iR r9 0 9) ∧ (iR (u9.1 0) 0 6)) (fun u => k_B (dC, dI) vwCl (tyy cI cJ cZ cM) A ((fun (u9 : SU) => [(h, .inr (7, oM r (upd (upd i 8 (u9.1 0)) 9 (u9.1 1)) j)), ((r 14), .inl (cI, 2, .inl f14)), ((r 34), .inl (cJ, 20, .inr (.inl g34)))]) u)) A) sz (by decide +kernel) rfl (Nat.le_of_ble_eq_true rfl) (fun p e s m args below meth c A ls H locs B hP hD hS hl => ?_)
  obtain ⟨hx, hb, hml, hown, hts, hr, hlk, hnm, hK, hA, hN, hC⟩ := id B
  have hown : s.vm.findClass RX7 = some m.cls := hown
  have hl : lv_has ls 2 [(0, .ref h)] := hl
  have w_0 : (Cond.fieldLink RX7 36 "WishSeaModel" "faultKind" "I").before args s = true := hts _ (List.mem_of_getElem? (i := 1) rfl)
  have w_1 : (Cond.fieldLink RX7 20 "WishSeaModel" "sign" "I").before args s = true := hts _ (List.mem_of_getElem? (i := 2) rfl)
  have w_2 : (Cond.fieldLink RX7 23 "WishSeaModel" "signAt" "I").before args s = true := hts _ (List.mem_of_getElem? (i := 4) rfl)
  have w_3 : (Cond.fieldLink RX7 32 "WishSeaModel" "word" "J").before args s = true := hts _ (List.mem_of_getElem? (i := 3) rfl)
  have hinX7 : ∀ w ∈ u_ws RX7 TX7 92, w ∈ wsX7_looked := fun _ h => List.mem_cons_of_mem _ (List.mem_append_right _ h)
  refine lv_aload_n hx hb dX7_looked_0 rfl (lv_at hl 0 rfl) ?_
  refine k_cv (wc := [(h, .inr (7, oM r i j))]) (wr := [((r 14), .inl (cI, 2, .inl f14)), ((r 34), .inl (cJ, 20, .inr (.inl g34)))]) (fun hPc hDc hFc => va_runV (As := []) (rest := []) ⟨hx, hb, hml, hown, hts⟩ (s_X7_lex_v6 l dC dI cI cJ cZ cM h r i j hI H.size) (cwV 0 hts gX7_looked_X7_lex rfl rfl rfl (by decide +kernel) ⟨(Nat.le_of_ble_eq_true rfl), (Nat.le_of_ble_eq_true rfl)⟩) (k_pV hPc hDc hK hN hC hS hFc hP (q0 := 0) (ci := 7) rfl rfl) rfl rfl hl.1 rfl (lv_room (Nat.le_of_ble_eq_true rfl)) dX7_looked_1 ⟨(Nat.le_of_ble_eq_true rfl), (Nat.le_of_ble_eq_true rfl)⟩) hP hD hS hA [0] [1, 2] rfl rfl rfl rfl (by decide) (fun _ => rfl) 0 0 rfl rfl (fun u_1 H locs hw hP hD hS => ?_)
  have g_1_0 := hw
  have hP : va_P (dC, dI) vwCl [((r 14), .inl (cI, 2, .inl f14)), ((r 34), .inl (cJ, 20, .inr (.inl g34))), (h, .inr (7, oM r (upd (upd i 8 (u_1.1 0)) 9 (u_1.1 1)) j))] H := hP
  have hD : va_D A [((r 14), .inl (cI, 2, .inl f14)), ((r 34), .inl (cJ, 20, .inr (.inl g34))), (h, .inr (7, oM r (upd (upd i 8 (u_1.1 0)) 9 (u_1.1 1)) j))] := hD
  refine lv_aload_n hx hb dX7_looked_4 rfl (lv_at hl 0 rfl) ?_
  refine k_get (D := (dC, dI)) (ci := 7) (v := .int (u_1.1 0)) (C := RX7) (T := TX7) (N := 92) hx hb hts hinX7 hown hK hP 2 rfl rfl 8 (by decide) w_0 rfl rfl dX7_looked_5 ?_
  refine lv_if_le (tgt := 13) hx hb dX7_looked_8 (by decide) (fun c_8 => ?_) (fun c_8 => ?_)
  · have c_8 : (u_1.1 0) ≤ 0 := c_8
    have f_13_1 : iR (u_1.1 0) 0 0 := iR_leL c_8 g_1_0 (iR_c (n := 0) (a := 0) (b := 0) (by decide +kernel) (by decide +kernel)) (by decide +kernel)
    refine lv_aload_n hx hb dX7_looked_13 rfl (lv_at hl 0 rfl) ?_
    have f_14_2 : iR (i 3) 0 3 := hI 3
    refine k_get (D := (dC, dI)) (ci := 7) (v := .int (i 3)) (C := RX7) (T := TX7) (N := 92) hx hb hts hinX7 hown hK hP 2 rfl rfl 3 (by decide) w_1 rfl rfl dX7_looked_14 ?_
    refine lv_iconst (v := 1) hx hb dX7_looked_17 (by decide +kernel) ?_
    have J_32 : ∀   (H : Heap) (locs : List Loc) (ls : Array Slot), va_P (dC, dI) vwCl [(h, .inr (7, oM r (upd (upd i 8 (u_1.1 0)) 9 (u_1.1 1)) j)), ((r 14), .inl (cI, 2, .inl f14)), ((r 34), .inl (cJ, 20, .inr (.inl g34)))] H → va_D A [(h, .inr (7, oM r (upd (upd i 8 (u_1.1 0)) 9 (u_1.1 1)) j)), ((r 14), .inl (cI, 2, .inl f14)), ((r 34), .inl (cJ, 20, .inr (.inl g34)))] → va_S A s.heap H locs → lv_has ls 2 [(0, .ref h)] → W p l e ({ frames := 3, cells := 0, slots := 0, locals := 87 }) s m args below meth c H locs 0 0 (MQ below (va_Qi (fun (r9 : Int32) (u9 : SU) => (iR r9 0 9) ∧ (iR (u9.1 0) 0 6)) (fun u => k_B (dC, dI) vwCl (tyy cI cJ cZ cM) A ((fun (u9 : SU) => [(h, .inr (7, oM r (upd (upd i 8 (u9.1 0)) 9 (u9.1 1)) j)), ((r 14), .inl (cI, 2, .inl f14)), ((r 34), .inl (cJ, 20, .inr (.inl g34)))]) u)) A) args s 0 0 A) (F0 m 32 ls []) := by
      intro   H locs ls hP hD hS hl
      refine lv_aload_n hx hb dX7_looked_32 rfl (lv_at hl 0 rfl) ?_
      refine lv_iconst (v := 1) hx hb dX7_looked_33 (by decide +kernel) ?_
      refine lv_aload_n hx hb dX7_looked_34 rfl (lv_at hl 0 rfl) ?_
      have f_35_1 : iR (i 4) 0 1600 := hI 4
      refine k_get (D := (dC, dI)) (ci := 7) (v := .int (i 4)) (C := RX7) (T := TX7) (N := 92) hx hb hts hinX7 hown hK hP 0 rfl rfl 4 (by decide) w_2 rfl rfl dX7_looked_35 ?_
      refine k_cv (wc := [(h, .inr (7, oM r (upd (upd i 8 (u_1.1 0)) 9 (u_1.1 1)) j))]) (wr := [((r 14), .inl (cI, 2, .inl f14)), ((r 34), .inl (cJ, 20, .inr (.inl g34)))]) (fun hPc hDc hFc => va_runV (As := [.int 1, .int (i 4)]) (rest := []) ⟨hx, hb, hml, hown, hts⟩ (s_X7_blame_v8 l dC dI cI cJ cZ cM h r (upd (upd i 8 (u_1.1 0)) 9 (u_1.1 1)) j 1 (i 4) (iR_c (n := 1) (a := 1) (b := 6) (by decide +kernel) (by decide +kernel)) (mR_upd 9 (mR_upd 8 hI (show iR _ (loI 8) (hiI 8) from (iR_w f_13_1 (by decide +kernel)))) (show iR _ (loI 9) (hiI 9) from (iR_top _))) H.size) (cwV 2 hts gX7_looked_X7_blame rfl rfl rfl (by decide +kernel) ⟨(Nat.le_of_ble_eq_true rfl), (Nat.le_of_ble_eq_true rfl)⟩) (k_pV hPc hDc hK hN hC hS hFc hP (q0 := 0) (ci := 7) rfl rfl) rfl rfl hl.1 rfl (lv_room (Nat.le_of_ble_eq_true rfl)) dX7_looked_38 ⟨(Nat.le_of_ble_eq_true rfl), (Nat.le_of_ble_eq_true rfl)⟩) hP hD hS hA [0] [1, 2] rfl rfl rfl rfl (by decide) (fun _ => rfl) 0 0 rfl rfl (fun u_38 H locs hw hP hD hS => ?_)
      have g_38_0 := hw
      have hP : va_P (dC, dI) vwCl [((r 14), .inl (cI, 2, .inl f14)), ((r 34), .inl (cJ, 20, .inr (.inl g34))), (h, .inr (7, oM r (upd (upd i 8 (u_38.1 0)) 9 (u_38.1 1)) j))] H := hP
      have hD : va_D A [((r 14), .inl (cI, 2, .inl f14)), ((r 34), .inl (cJ, 20, .inr (.inl g34))), (h, .inr (7, oM r (upd (upd i 8 (u_38.1 0)) 9 (u_38.1 1)) j))] := hD
      refine lv_aload_n hx hb dX7_looked_41 rfl (lv_at hl 0 rfl) ?_
      refine k_get (D := (dC, dI)) (ci := 7) (v := .int (u_38.1 0)) (C := RX7) (T := TX7) (N := 92) hx hb hts hinX7 hown hK hP 2 rfl rfl 8 (by decide) w_0 rfl rfl dX7_looked_42 ?_
      have J_61p38 : ∀  (q61p38_0 : 0 < (u_38.1 0)) (H : Heap) (locs : List Loc) (ls : Array Slot), va_P (dC, dI) vwCl [(h, .inr (7, oM r (upd (upd i 8 (u_38.1 0)) 9 (u_38.1 1)) j)), ((r 14), .inl (cI, 2, .inl f14)), ((r 34), .inl (cJ, 20, .inr (.inl g34)))] H → va_D A [(h, .inr (7, oM r (upd (upd i 8 (u_38.1 0)) 9 (u_38.1 1)) j)), ((r 14), .inl (cI, 2, .inl f14)), ((r 34), .inl (cJ, 20, .inr (.inl g34)))] → va_S A s.heap H locs → lv_has ls 2 [(0, .ref h)] → W p l e ({ frames := 3, cells := 0, slots := 0, locals := 87 }) s m args below meth c H locs 0 0 (MQ below (va_Qi (fun (r9 : Int32) (u9 : SU) => (iR r9 0 9) ∧ (iR (u9.1 0) 0 6)) (fun u => k_B (dC, dI) vwCl (tyy cI cJ cZ cM) A ((fun (u9 : SU) => [(h, .inr (7, oM r (upd (upd i 8 (u9.1 0)) 9 (u9.1 1)) j)), ((r 14), .inl (cI, 2, .inl f14)), ((r 34), .inl (cJ, 20, .inr (.inl g34)))]) u)) A) args s 0 0 A) (F0 m 61 ls [.int 0]) := by
        intro  q61p38_0 H locs ls hP hD hS hl
        refine lv_istore_n (lv' := [(1, .int 0), (0, .ref h)]) hx hb dX7_looked_61 rfl hl (by decide) rfl (fun ls hl => ?_)
        refine lv_aload_n hx hb dX7_looked_62 rfl (lv_at hl 1 rfl) ?_
        refine k_get (D := (dC, dI)) (ci := 7) (v := .int (u_38.1 0)) (C := RX7) (T := TX7) (N := 92) hx hb hts hinX7 hown hK hP 0 rfl rfl 8 (by decide) w_0 rfl rfl dX7_looked_63 ?_
        refine lv_if_ne (tgt := 83) hx hb dX7_looked_66 (by decide) (fun c_66p38 => ?_) (fun c_66p38 => ?_)
        · have c_66p38 : ¬ (u_38.1 0) = 0 := c_66p38
          refine lv_aload_n hx hb dX7_looked_83 rfl (lv_at hl 1 rfl) ?_
          refine k_get (D := (dC, dI)) (ci := 7) (v := .int (u_38.1 0)) (C := RX7) (T := TX7) (N := 92) hx hb hts hinX7 hown hK hP 0 rfl rfl 8 (by decide) w_0 rfl rfl dX7_looked_84 ?_
          refine lv_if_le (tgt := 94) hx hb dX7_looked_87 (by decide) (fun c_87p38p66 => ?_) (fun c_87p38p66 => ?_)
          · exact iR_cl (iR_leL (a' := 1) (b' := 0) c_87p38p66 g_38_0 (iR_c (n := 0) (a := 0) (b := 0) (by decide +kernel) (by decide +kernel)) (by decide +kernel)) (by decide +kernel)
          · have c_87p38p66 : 0 < (u_38.1 0) := i_nle c_87p38p66
            refine lv_iconst (v := 0) hx hb dX7_looked_90 (by decide +kernel) ?_
            refine lv_goto (tgt := 95) hx hb dX7_looked_91 (by decide) ?_
            exact k_ri B hP hD hS dX7_looked_95 ((fun k9 => match k9 with | 0 => (u_38.1 0) | 1 => (u_38.1 1) | _ => 0), (fun _ => 0), (fun _ => (fun _ => 0)), (fun _ => (fun _ => 0)), (fun _ => 0)) [0, 1, 2] rfl rfl rfl (Nat.le_of_ble_eq_true rfl) (Nat.le_of_ble_eq_true rfl) ⟨(show iR 0 0 9 from (iR_c (n := 0) (a := 0) (b := 9) (by decide +kernel) (by decide +kernel))), (show iR (u_38.1 0) 0 6 from (iR_w g_38_0 (by decide +kernel)))⟩
        · exact iR_cl (iR_eqL (a' := 1) (b' := 0) c_66p38 g_38_0 (iR_c (n := 0) (a := 0) (b := 0) (by decide +kernel) (by decide +kernel)) (by decide +kernel)) (by decide +kernel)
      refine lv_if_le (tgt := 52) hx hb dX7_looked_45 (by decide) (fun c_45p38 => ?_) (fun c_45p38 => ?_)
      · exact iR_cl (iR_leL (a' := 1) (b' := 0) c_45p38 g_38_0 (iR_c (n := 0) (a := 0) (b := 0) (by decide +kernel) (by decide +kernel)) (by decide +kernel)) (by decide +kernel)
      · have c_45p38 : 0 < (u_38.1 0) := i_nle c_45p38
        refine lv_iconst (v := 0) hx hb dX7_looked_48 (by decide +kernel) ?_
        refine lv_goto (tgt := 61) hx hb dX7_looked_49 (by decide) ?_
        exact J_61p38  c_45p38 H locs ls (hP.sub [2, 0, 1] rfl) (hD.sub [2, 0, 1] (by decide +kernel) rfl) hS (lv_sub hl [0] rfl)
    refine lv_icmp_ne (tgt := 32) hx hb dX7_looked_18 (by decide) (fun c_18 => ?_) (fun c_18 => ?_)
    · have c_18 : ¬ (i 3) = 1 := c_18
      exact J_32   H locs ls (hP.sub [2, 0, 1] rfl) (hD.sub [2, 0, 1] (by decide +kernel) rfl) hS (lv_sub hl [0] rfl)
    · have c_18 : (i 3) = 1 := c_18
      have f_21_3 : iR (i 3) 1 1 := iR_eqL c_18 f_14_2 (iR_c (n := 1) (a := 1) (b := 1) (by decide +kernel) (by decide +kernel)) (by decide +kernel)
      refine lv_aload_n hx hb dX7_looked_21 rfl (lv_at hl 0 rfl) ?_
      refine lv_aload_n hx hb dX7_looked_22 rfl (lv_at hl 0 rfl) ?_
      refine k_get (D := (dC, dI)) (ci := 7) (v := .long (j 7)) (C := RX7) (T := TX7) (N := 92) hx hb hts hinX7 hown hK hP 2 rfl rfl 7 (by decide) w_3 rfl rfl dX7_looked_23 ?_
      refine k_ci (wc := []) (wr := [((r 14), .inl (cI, 2, .inl f14)), ((r 34), .inl (cJ, 20, .inr (.inl g34))), (h, .inr (7, oM r (upd (upd i 8 (u_1.1 0)) 9 (u_1.1 1)) j))]) (fun hPc hDc hFc => va_runV (As := [.long (j 7)]) (rest := []) ⟨hx, hb, hml, hown, hts⟩ (s_X7_isOwn_v7 l dC dI cI cJ cZ cM h (j 7) H.size) (cwV 1 hts gX7_looked_X7_isOwn rfl rfl rfl (by decide +kernel) ⟨(Nat.le_of_ble_eq_true rfl), (Nat.le_of_ble_eq_true rfl)⟩) (k_pV hPc hDc hK hN hC hS hFc hP (q0 := 2) (ci := 7) rfl rfl) rfl rfl hl.1 rfl (lv_room (Nat.le_of_ble_eq_true rfl)) dX7_looked_26 ⟨(Nat.le_of_ble_eq_true rfl), (Nat.le_of_ble_eq_true rfl)⟩) hP hD hS hA [] [0, 1, 2] rfl rfl rfl rfl (by decide) (fun _ => rfl) 0 0 rfl rfl (fun r_26 u_26 H locs hw hP hD hS => ?_)
      have g_26_0 := hw
      have hP : va_P (dC, dI) vwCl [((r 14), .inl (cI, 2, .inl f14)), ((r 34), .inl (cJ, 20, .inr (.inl g34))), (h, .inr (7, oM r (upd (upd i 8 (u_1.1 0)) 9 (u_1.1 1)) j))] H := hP
      have hD : va_D A [((r 14), .inl (cI, 2, .inl f14)), ((r 34), .inl (cJ, 20, .inr (.inl g34))), (h, .inr (7, oM r (upd (upd i 8 (u_1.1 0)) 9 (u_1.1 1)) j))] := hD
      refine lv_if_eq (tgt := 41) hx hb dX7_looked_29 (by decide) (fun c_29 => ?_) (fun c_29 => ?_)
      · have c_29 : r_26 = 0 := c_29
        have f_41_4 : iR r_26 0 0 := iR_eqL c_29 g_26_0 (iR_c (n := 0) (a := 0) (b := 0) (by decide +kernel) (by decide +kernel)) (by decide +kernel)
        refine lv_aload_n hx hb dX7_looked_41 rfl (lv_at hl 0 rfl) ?_
        refine k_get (D := (dC, dI)) (ci := 7) (v := .int (u_1.1 0)) (C := RX7) (T := TX7) (N := 92) hx hb hts hinX7 hown hK hP 2 rfl rfl 8 (by decide) w_0 rfl rfl dX7_looked_42 ?_
        have J_61p29 : ∀ (j61p29_S0 : Int32) (hj61p29_S0 : iR j61p29_S0 (-1) 9) (H : Heap) (locs : List Loc) (ls : Array Slot), va_P (dC, dI) vwCl [(h, .inr (7, oM r (upd (upd i 8 (u_1.1 0)) 9 (u_1.1 1)) j)), ((r 14), .inl (cI, 2, .inl f14)), ((r 34), .inl (cJ, 20, .inr (.inl g34)))] H → va_D A [(h, .inr (7, oM r (upd (upd i 8 (u_1.1 0)) 9 (u_1.1 1)) j)), ((r 14), .inl (cI, 2, .inl f14)), ((r 34), .inl (cJ, 20, .inr (.inl g34)))] → va_S A s.heap H locs → lv_has ls 2 [(0, .ref h)] → W p l e ({ frames := 3, cells := 0, slots := 0, locals := 87 }) s m args below meth c H locs 0 0 (MQ below (va_Qi (fun (r9 : Int32) (u9 : SU) => (iR r9 0 9) ∧ (iR (u9.1 0) 0 6)) (fun u => k_B (dC, dI) vwCl (tyy cI cJ cZ cM) A ((fun (u9 : SU) => [(h, .inr (7, oM r (upd (upd i 8 (u9.1 0)) 9 (u9.1 1)) j)), ((r 14), .inl (cI, 2, .inl f14)), ((r 34), .inl (cJ, 20, .inr (.inl g34)))]) u)) A) args s 0 0 A) (F0 m 61 ls [.int j61p29_S0]) := by
          intro j61p29_S0 hj61p29_S0 H locs ls hP hD hS hl
          refine lv_istore_n (lv' := [(1, .int j61p29_S0), (0, .ref h)]) hx hb dX7_looked_61 rfl hl (by decide) rfl (fun ls hl => ?_)
          refine lv_aload_n hx hb dX7_looked_62 rfl (lv_at hl 1 rfl) ?_
          refine k_get (D := (dC, dI)) (ci := 7) (v := .int (u_1.1 0)) (C := RX7) (T := TX7) (N := 92) hx hb hts hinX7 hown hK hP 0 rfl rfl 8 (by decide) w_0 rfl rfl dX7_looked_63 ?_
          refine lv_if_ne (tgt := 83) hx hb dX7_looked_66 (by decide) (fun c_66p29 => ?_) (fun c_66p29 => ?_)
          · exact absurd (i_eqc f_13_1 (iR_c (n := 0) (a := 0) (b := 0) (by decide +kernel) (by decide +kernel))) c_66p29
          · have c_66p29 : (u_1.1 0) = 0 := c_66p29
            refine lv_iload_n hx hb dX7_looked_69 rfl (lv_at hl 0 rfl) ?_
            refine lv_iconst (v := (-1)) hx hb dX7_looked_70 (by decide +kernel) ?_
            refine lv_icmp_ne (tgt := 83) hx hb dX7_looked_71 (by decide) (fun c_71p29 => ?_) (fun c_71p29 => ?_)
            · have c_71p29 : ¬ j61p29_S0 = (-1) := c_71p29
              have f_83p29_1 : iR j61p29_S0 0 9 := iR_neL c_71p29 hj61p29_S0 (iR_c (n := (-1)) (a := (-1)) (b := (-1)) (by decide +kernel) (by decide +kernel)) (by decide +kernel)
              refine lv_aload_n hx hb dX7_looked_83 rfl (lv_at hl 1 rfl) ?_
              refine k_get (D := (dC, dI)) (ci := 7) (v := .int (u_1.1 0)) (C := RX7) (T := TX7) (N := 92) hx hb hts hinX7 hown hK hP 0 rfl rfl 8 (by decide) w_0 rfl rfl dX7_looked_84 ?_
              refine lv_if_le (tgt := 94) hx hb dX7_looked_87 (by decide) (fun c_87p29p71 => ?_) (fun c_87p29p71 => ?_)
              · have c_87p29p71 : (u_1.1 0) ≤ 0 := c_87p29p71
                refine lv_iload_n hx hb dX7_looked_94 rfl (lv_at hl 0 rfl) ?_
                exact k_ri B hP hD hS dX7_looked_95 ((fun k9 => match k9 with | 0 => (u_1.1 0) | 1 => (u_1.1 1) | _ => 0), (fun _ => 0), (fun _ => (fun _ => 0)), (fun _ => (fun _ => 0)), (fun _ => 0)) [0, 1, 2] rfl rfl rfl (Nat.le_of_ble_eq_true rfl) (Nat.le_of_ble_eq_true rfl) ⟨(show iR j61p29_S0 0 9 from f_83p29_1), (show iR (u_1.1 0) 0 6 from (iR_w f_13_1 (by decide +kernel)))⟩
              · exact iR_cl (iR_ltL (a' := 0) (b' := (-1)) (i_nle c_87p29p71) (iR_c (n := 0) (a := 0) (b := 0) (by decide +kernel) (by decide +kernel)) f_13_1 (by decide +kernel)) (by decide +kernel)
            · have c_71p29 : j61p29_S0 = (-1) := c_71p29
              have f_74p29_1 : iR j61p29_S0 (-1) (-1) := iR_eqL c_71p29 hj61p29_S0 (iR_c (n := (-1)) (a := (-1)) (b := (-1)) (by decide +kernel) (by decide +kernel)) (by decide +kernel)
              refine lv_aload_n hx hb dX7_looked_74 rfl (lv_at hl 1 rfl) ?_
              refine lv_iconst (v := 3) hx hb dX7_looked_75 (by decide +kernel) ?_
              refine lv_aload_n hx hb dX7_looked_76 rfl (lv_at hl 1 rfl) ?_
              have f_77p29_2 : iR (i 4) 0 1600 := hI 4
              refine k_get (D := (dC, dI)) (ci := 7) (v := .int (i 4)) (C := RX7) (T := TX7) (N := 92) hx hb hts hinX7 hown hK hP 0 rfl rfl 4 (by decide) w_2 rfl rfl dX7_looked_77 ?_
              refine k_cv (wc := [(h, .inr (7, oM r (upd (upd i 8 (u_1.1 0)) 9 (u_1.1 1)) j))]) (wr := [((r 14), .inl (cI, 2, .inl f14)), ((r 34), .inl (cJ, 20, .inr (.inl g34)))]) (fun hPc hDc hFc => va_runV (As := [.int 3, .int (i 4)]) (rest := []) ⟨hx, hb, hml, hown, hts⟩ (s_X7_blame_v8 l dC dI cI cJ cZ cM h r (upd (upd i 8 (u_1.1 0)) 9 (u_1.1 1)) j 3 (i 4) (iR_c (n := 3) (a := 1) (b := 6) (by decide +kernel) (by decide +kernel)) (mR_upd 9 (mR_upd 8 hI (show iR _ (loI 8) (hiI 8) from (iR_w f_13_1 (by decide +kernel)))) (show iR _ (loI 9) (hiI 9) from (iR_top _))) H.size) (cwV 2 hts gX7_looked_X7_blame rfl rfl rfl (by decide +kernel) ⟨(Nat.le_of_ble_eq_true rfl), (Nat.le_of_ble_eq_true rfl)⟩) (k_pV hPc hDc hK hN hC hS hFc hP (q0 := 0) (ci := 7) rfl rfl) rfl rfl hl.1 rfl (lv_room (Nat.le_of_ble_eq_true rfl)) dX7_looked_80 ⟨(Nat.le_of_ble_eq_true rfl), (Nat.le_of_ble_eq_true rfl)⟩) hP hD hS hA [0] [1, 2] rfl rfl rfl rfl (by decide) (fun _ => rfl) 0 0 rfl rfl (fun u_80p29 H locs hw hP hD hS => ?_)
              have g_80p29_0 := hw
              have hP : va_P (dC, dI) vwCl [((r 14), .inl (cI, 2, .inl f14)), ((r 34), .inl (cJ, 20, .inr (.inl g34))), (h, .inr (7, oM r (upd (upd i 8 (u_80p29.1 0)) 9 (u_80p29.1 1)) j))] H := hP
              have hD : va_D A [((r 14), .inl (cI, 2, .inl f14)), ((r 34), .inl (cJ, 20, .inr (.inl g34))), (h, .inr (7, oM r (upd (upd i 8 (u_80p29.1 0)) 9 (u_80p29.1 1)) j))] := hD
              refine lv_aload_n hx hb dX7_looked_83 rfl (lv_at hl 1 rfl) ?_
              refine k_get (D := (dC, dI)) (ci := 7) (v := .int (u_80p29.1 0)) (C := RX7) (T := TX7) (N := 92) hx hb hts hinX7 hown hK hP 2 rfl rfl 8 (by decide) w_0 rfl rfl dX7_looked_84 ?_
              refine lv_if_le (tgt := 94) hx hb dX7_looked_87 (by decide) (fun c_87p29p80 => ?_) (fun c_87p29p80 => ?_)
              · exact iR_cl (iR_leL (a' := 1) (b' := 0) c_87p29p80 g_80p29_0 (iR_c (n := 0) (a := 0) (b := 0) (by decide +kernel) (by decide +kernel)) (by decide +kernel)) (by decide +kernel)
              · have c_87p29p80 : 0 < (u_80p29.1 0) := i_nle c_87p29p80
                refine lv_iconst (v := 0) hx hb dX7_looked_90 (by decide +kernel) ?_
                refine lv_goto (tgt := 95) hx hb dX7_looked_91 (by decide) ?_
                exact k_ri B hP hD hS dX7_looked_95 ((fun k9 => match k9 with | 0 => (u_80p29.1 0) | 1 => (u_80p29.1 1) | _ => 0), (fun _ => 0), (fun _ => (fun _ => 0)), (fun _ => (fun _ => 0)), (fun _ => 0)) [2, 0, 1] rfl rfl rfl (Nat.le_of_ble_eq_true rfl) (Nat.le_of_ble_eq_true rfl) ⟨(show iR 0 0 9 from (iR_c (n := 0) (a := 0) (b := 9) (by decide +kernel) (by decide +kernel))), (show iR (u_80p29.1 0) 0 6 from (iR_w g_80p29_0 (by decide +kernel)))⟩
        refine lv_if_le (tgt := 52) hx hb dX7_looked_45 (by decide) (fun c_45p29 => ?_) (fun c_45p29 => ?_)
        · have c_45p29 : (u_1.1 0) ≤ 0 := c_45p29
          refine lv_aload_n hx hb dX7_looked_52 rfl (lv_at hl 0 rfl) ?_
          refine lv_iconst (v := 0) hx hb dX7_looked_53 (by decide +kernel) ?_
          refine lv_aload_n hx hb dX7_looked_54 rfl (lv_at hl 0 rfl) ?_
          refine k_get (D := (dC, dI)) (ci := 7) (v := .long (j 7)) (C := RX7) (T := TX7) (N := 92) hx hb hts hinX7 hown hK hP 2 rfl rfl 7 (by decide) w_3 rfl rfl dX7_looked_55 ?_
          refine k_ci (wc := [(h, .inr (7, oM r (upd (upd i 8 (u_1.1 0)) 9 (u_1.1 1)) j)), ((r 14), .inl (cI, 2, .inl f14)), ((r 34), .inl (cJ, 20, .inr (.inl g34)))]) (wr := []) (fun hPc hDc hFc => va_runV (As := [.int 0, .long (j 7)]) (rest := []) ⟨hx, hb, hml, hown, hts⟩ (s_X7_named_v4 l dC dI cI cJ cZ cM h r (upd (upd i 8 (u_1.1 0)) 9 (u_1.1 1)) j (j 7) f14 g34 (mR_upd 9 (mR_upd 8 hI (show iR _ (loI 8) (hiI 8) from (iR_w f_13_1 (by decide +kernel)))) (show iR _ (loI 9) (hiI 9) from (iR_top _))) hf14 H.size) (cwV 2 hts gX7_looked_X7_named rfl rfl rfl (by decide +kernel) ⟨(Nat.le_of_ble_eq_true rfl), (Nat.le_of_ble_eq_true rfl)⟩) (k_pV hPc hDc hK hN hC hS hFc hP (q0 := 2) (ci := 7) rfl rfl) rfl rfl hl.1 rfl (lv_room (Nat.le_of_ble_eq_true rfl)) dX7_looked_58 ⟨(Nat.le_of_ble_eq_true rfl), (Nat.le_of_ble_eq_true rfl)⟩) hP hD hS hA [2, 0, 1] [] rfl rfl rfl rfl (by decide) (fun _ => rfl) 0 0 rfl rfl (fun r_58p29 u_58p29 H locs hw hP hD hS => ?_)
          have g_58p29_0 := hw
          have hP : va_P (dC, dI) vwCl [(h, .inr (7, oM r (upd (upd i 8 (u_1.1 0)) 9 (u_1.1 1)) j)), ((r 14), .inl (cI, 2, .inl f14)), ((r 34), .inl (cJ, 20, .inr (.inl g34)))] H := hP
          have hD : va_D A [(h, .inr (7, oM r (upd (upd i 8 (u_1.1 0)) 9 (u_1.1 1)) j)), ((r 14), .inl (cI, 2, .inl f14)), ((r 34), .inl (cJ, 20, .inr (.inl g34)))] := hD
          exact J_61p29 r_58p29 g_58p29_0 H locs ls hP hD hS (lv_sub hl [0] rfl)
        · exact iR_cl (iR_ltL (a' := 0) (b' := (-1)) (i_nle c_45p29) (iR_c (n := 0) (a := 0) (b := 0) (by decide +kernel) (by decide +kernel)) f_13_1 (by decide +kernel)) (by decide +kernel)
      · have c_29 : ¬ r_26 = 0 := c_29
        have f_32_4 : iR r_26 1 1 := iR_neL c_29 g_26_0 (iR_c (n := 0) (a := 0) (b := 0) (by decide +kernel) (by decide +kernel)) (by decide +kernel)
        exact J_32   H locs ls (hP.sub [2, 0, 1] rfl) (hD.sub [2, 0, 1] (by decide +kernel) rfl) hS (lv_sub hl [0] rfl)
  · have c_8 : 0 < (u_1.1 0) := i_nle c_8
    have f_11_1 : iR (u_1.1 0) 1 6 := iR_ltR c_8 (iR_c (n := 0) (a := 0) (b := 0) (by decide +kernel) (by decide +kernel)) g_1_0 (by decide +kernel)
    refine lv_iconst (v := 0) hx hb dX7_looked_11 (by decide +kernel) ?_
    exact k_ri B hP hD hS dX7_looked_12 ((fun k9 => match k9 with | 0 => (u_1.1 0) | 1 => (u_1.1 1) | _ => 0), (fun _ => 0), (fun _ => (fun _ => 0)), (fun _ => (fun _ => 0)), (fun _ => 0)) [2, 0, 1] rfl rfl rfl (Nat.le_of_ble_eq_true rfl) (Nat.le_of_ble_eq_true rfl) ⟨(show iR 0 0 9 from (iR_c (n := 0) (a := 0) (b := 9) (by decide +kernel) (by decide +kernel))), (show iR (u_1.1 0) 0 6 from (iR_w f_11_1 (by decide +kernel)))⟩
set_option maxHeartbeats 8000000 in
set_option maxRecDepth 100000 in
theorem s_X7_blame_v9 (l : Launch) (dC : Nat → ClassId) (dI : Nat → Nat → Nat) (cI cJ cZ cM : ClassId) (h : Nat) (r : Nat → Nat) (i : Nat → Int32) (j : Nat → Int64) (x1 : Int32) (x2 : Int32) (hx1 : iR x1 1 6) (hI : mR i) : k_Mv l yX7_blame wsX7_blame ({ frames := 1, cells := 0, slots := 0, locals := 40 }) (dC, dI) vwCl (tyy cI cJ cZ cM) [(h, .inr (7, oM r i j))] [.ref h, .int x1, .int x2] 0 0 (fun (u9 : SU) => [(h, .inr (7, oM r (upd (upd i 8 (u9.1 0)) 9 (u9.1 1)) j))]) (fun (u9 : SU) => (iR (u9.1 0) 1 6)) := by
  refine fun sz => k_enter (cc := cX7_blame) (maxL := 3) (ret := none) (Qc := fun A => va_Qv (fun (u9 : SU) => (iR (u9.1 0) 1 6)) (fun u => k_B (dC, dI) vwCl (tyy cI cJ cZ cM) A ((fun (u9 : SU) => [(h, .inr (7, oM r (upd (upd i 8 (u9.1 0)) 9 (u9.1 1)) j))]) u)) A) sz (by decide +kernel) rfl (Nat.le_of_ble_eq_true rfl) (fun p e s m args below meth c A ls H locs B hP hD hS hl => ?_)
  obtain ⟨hx, hb, hml, hown, hts, hr, hlk, hnm, hK, hA, hN, hC⟩ := id B
  have hown : s.vm.findClass RX7 = some m.cls := hown
  have hl : lv_has ls 3 [(0, .ref h), (1, .int x1), (2, .int x2)] := hl
  have w_0 : (Cond.fieldLink RX7 36 "WishSeaModel" "faultKind" "I").before args s = true := hts _ (List.mem_of_getElem? (i := 1) rfl)
  have w_1 : (Cond.fieldLink RX7 39 "WishSeaModel" "faultPlace" "I").before args s = true := hts _ (List.mem_of_getElem? (i := 2) rfl)
  have hinX7 : ∀ w ∈ u_ws RX7 TX7 92, w ∈ wsX7_blame := fun _ h => List.mem_cons_of_mem _ (List.mem_append_right _ h)
  refine lv_aload_n hx hb dX7_blame_0 rfl (lv_at hl 0 rfl) ?_
  have f_1_1 : iR (i 8) 0 6 := hI 8
  refine k_get (D := (dC, dI)) (ci := 7) (v := .int (i 8)) (C := RX7) (T := TX7) (N := 92) hx hb hts hinX7 hown hK hP 0 rfl rfl 8 (by decide) w_0 rfl rfl dX7_blame_1 ?_
  refine lv_if_le (tgt := 8) hx hb dX7_blame_4 (by decide) (fun c_4 => ?_) (fun c_4 => ?_)
  · have c_4 : (i 8) ≤ 0 := c_4
    have f_8_2 : iR (i 8) 0 0 := iR_leL c_4 f_1_1 (iR_c (n := 0) (a := 0) (b := 0) (by decide +kernel) (by decide +kernel)) (by decide +kernel)
    refine lv_aload_n hx hb dX7_blame_8 rfl (lv_at hl 0 rfl) ?_
    refine lv_iload_n hx hb dX7_blame_9 rfl (lv_at hl 1 rfl) ?_
    refine k_put (D := (dC, dI)) (ci := 7) (v := .int x1) (C := RX7) (T := TX7) (N := 92) (ws' := [(h, .inr (7, oM r (upd i 8 x1) j))]) hx hb hts hinX7 tyX7 tyX7_ok nmX7 hown hK hP hD hS 0 rfl rfl 8 (by decide) w_0 rfl rfl rfl rfl (Nat.le_of_ble_eq_true rfl) rfl dX7_blame_10 (fun H locs hP hD hS => ?_)
    refine lv_aload_n hx hb dX7_blame_13 rfl (lv_at hl 0 rfl) ?_
    refine lv_iload_n hx hb dX7_blame_14 rfl (lv_at hl 2 rfl) ?_
    refine k_put (D := (dC, dI)) (ci := 7) (v := .int x2) (C := RX7) (T := TX7) (N := 92) (ws' := [(h, .inr (7, oM r (upd (upd i 8 x1) 9 x2) j))]) hx hb hts hinX7 tyX7 tyX7_ok nmX7 hown hK hP hD hS 0 rfl rfl 9 (by decide) w_1 rfl rfl rfl rfl (Nat.le_of_ble_eq_true rfl) rfl dX7_blame_15 (fun H locs hP hD hS => ?_)
    exact k_rv B hP hD hS dX7_blame_18 ((fun k9 => match k9 with | 0 => x1 | 1 => x2 | _ => 0), (fun _ => 0), (fun _ => (fun _ => 0)), (fun _ => (fun _ => 0)), (fun _ => 0)) [0] rfl rfl (Nat.le_of_ble_eq_true rfl) (Nat.le_of_ble_eq_true rfl) (show iR x1 1 6 from hx1)
  · have c_4 : 0 < (i 8) := i_nle c_4
    have f_7_2 : iR (i 8) 1 6 := iR_ltR c_4 (iR_c (n := 0) (a := 0) (b := 0) (by decide +kernel) (by decide +kernel)) f_1_1 (by decide +kernel)
    exact k_rv B hP hD hS dX7_blame_7 ((fun k9 => match k9 with | 0 => (i 8) | 1 => (i 9) | _ => 0), (fun _ => 0), (fun _ => (fun _ => 0)), (fun _ => (fun _ => 0)), (fun _ => 0)) [0] rfl rfl (Nat.le_of_ble_eq_true rfl) (Nat.le_of_ble_eq_true rfl) (show iR (i 8) 1 6 from f_7_2)
set_option maxHeartbeats 8000000 in
set_option maxRecDepth 100000 in
theorem s_X7_lex_v7 (l : Launch) (dC : Nat → ClassId) (dI : Nat → Nat → Nat) (cI cJ cZ cM : ClassId) (h : Nat) (r : Nat → Nat) (i : Nat → Int32) (j : Nat → Int64) (hI : mR i) : k_Mv l yX7_lex wsX7_lex ({ frames := 2, cells := 0, slots := 0, locals := 62 }) (dC, dI) vwCl (tyy cI cJ cZ cM) [(h, .inr (7, oM r i j))] [.ref h] 0 0 (fun (u9 : SU) => [(h, .inr (7, oM r (upd (upd i 8 (u9.1 0)) 9 (u9.1 1)) j))]) (fun (u9 : SU) => (iR (u9.1 0) 0 6)) := by
  refine fun sz => k_enter (cc := cX7_lex) (maxL := 1) (ret := none) (Qc := fun A => va_Qv (fun (u9 : SU) => (iR (u9.1 0) 0 6)) (fun u => k_B (dC, dI) vwCl (tyy cI cJ cZ cM) A ((fun (u9 : SU) => [(h, .inr (7, oM r (upd (upd i 8 (u9.1 0)) 9 (u9.1 1)) j))]) u)) A) sz (by decide +kernel) rfl (Nat.le_of_ble_eq_true rfl) (fun p e s m args below meth c A ls H locs B hP hD hS hl => ?_)
  obtain ⟨hx, hb, hml, hown, hts, hr, hlk, hnm, hK, hA, hN, hC⟩ := id B
  have hown : s.vm.findClass RX7 = some m.cls := hown
  have hl : lv_has ls 1 [(0, .ref h)] := hl
  have w_0 : (Cond.fieldLink RX7 48 "WishSeaModel" "lexAt" "I").before args s = true := hts _ (List.mem_of_getElem? (i := 1) rfl)
  have hinX7 : ∀ w ∈ u_ws RX7 TX7 92, w ∈ wsX7_lex := fun _ h => List.mem_cons_of_mem _ (List.mem_append_right _ h)
  refine lv_aload_n hx hb dX7_lex_0 rfl (lv_at hl 0 rfl) ?_
  refine k_get (D := (dC, dI)) (ci := 7) (v := .int (i 12)) (C := RX7) (T := TX7) (N := 92) hx hb hts hinX7 hown hK hP 0 rfl rfl 12 (by decide) w_0 rfl rfl dX7_lex_1 ?_
  refine lv_iconst (v := (-1)) hx hb dX7_lex_4 (by decide +kernel) ?_
  refine lv_icmp_eq (tgt := 17) hx hb dX7_lex_5 (by decide) (fun c_5 => ?_) (fun c_5 => ?_)
  · have c_5 : (i 12) = (-1) := c_5
    have f_17_1 : iR (i 12) (-1) (-1) := iR_eqL c_5 (iR_top _) (iR_c (n := (-1)) (a := (-1)) (b := (-1)) (by decide +kernel) (by decide +kernel)) (by decide +kernel)
    exact k_rv B hP hD hS dX7_lex_17 ((fun k9 => match k9 with | 0 => (i 8) | 1 => (i 9) | _ => 0), (fun _ => 0), (fun _ => (fun _ => 0)), (fun _ => (fun _ => 0)), (fun _ => 0)) [0] rfl rfl (Nat.le_of_ble_eq_true rfl) (Nat.le_of_ble_eq_true rfl) (show iR (i 8) 0 6 from (hI 8))
  · have c_5 : ¬ (i 12) = (-1) := c_5
    refine lv_aload_n hx hb dX7_lex_8 rfl (lv_at hl 0 rfl) ?_
    refine lv_iconst (v := 1) hx hb dX7_lex_9 (by decide +kernel) ?_
    refine lv_aload_n hx hb dX7_lex_10 rfl (lv_at hl 0 rfl) ?_
    refine k_get (D := (dC, dI)) (ci := 7) (v := .int (i 12)) (C := RX7) (T := TX7) (N := 92) hx hb hts hinX7 hown hK hP 0 rfl rfl 12 (by decide) w_0 rfl rfl dX7_lex_11 ?_
    refine k_cv (wc := [(h, .inr (7, oM r i j))]) (wr := []) (fun hPc hDc hFc => va_runV (As := [.int 1, .int (i 12)]) (rest := []) ⟨hx, hb, hml, hown, hts⟩ (s_X7_blame_v1 l dC dI cI cJ cZ cM h r i j 1 (i 12) (iR_c (n := 1) (a := 1) (b := 6) (by decide +kernel) (by decide +kernel)) hI H.size) (cwV 2 hts gX7_lex_X7_blame rfl rfl rfl (by decide +kernel) ⟨(Nat.le_of_ble_eq_true rfl), (Nat.le_of_ble_eq_true rfl)⟩) (k_pV hPc hDc hK hN hC hS hFc hP (q0 := 0) (ci := 7) rfl rfl) rfl rfl hl.1 rfl (lv_room (Nat.le_of_ble_eq_true rfl)) dX7_lex_14 ⟨(Nat.le_of_ble_eq_true rfl), (Nat.le_of_ble_eq_true rfl)⟩) hP hD hS hA [0] [] rfl rfl rfl rfl (by decide) (fun _ => rfl) 0 0 rfl rfl (fun u_14 H locs hw hP hD hS => ?_)
    have g_14_0 := hw
    have hP : va_P (dC, dI) vwCl [(h, .inr (7, oM r (upd (upd i 8 (u_14.1 0)) 9 (u_14.1 1)) j))] H := hP
    have hD : va_D A [(h, .inr (7, oM r (upd (upd i 8 (u_14.1 0)) 9 (u_14.1 1)) j))] := hD
    exact k_rv B hP hD hS dX7_lex_17 ((fun k9 => match k9 with | 0 => (u_14.1 0) | 1 => (u_14.1 1) | _ => 0), (fun _ => 0), (fun _ => (fun _ => 0)), (fun _ => (fun _ => 0)), (fun _ => 0)) [0] rfl rfl (Nat.le_of_ble_eq_true rfl) (Nat.le_of_ble_eq_true rfl) (show iR (u_14.1 0) 0 6 from (iR_w g_14_0 (by decide +kernel)))
set_option maxHeartbeats 8000000 in
set_option maxRecDepth 100000 in
theorem s_X7_isOwn_v8 (l : Launch) (dC : Nat → ClassId) (dI : Nat → Nat → Nat) (cI cJ cZ cM : ClassId) (h : Nat) (x1 : Int64)  : k_Mi l yX7_isOwn wsX7_isOwn ({ frames := 1, cells := 0, slots := 0, locals := 40 }) (dC, dI) vwCl (tyy cI cJ cZ cM) [] [.ref h, .long x1] 0 0 (fun (u9 : Unit) => []) (fun (r9 : Int32) (u9 : Unit) => (iR r9 0 1)) := by
  refine fun sz => k_enter (cc := cX7_isOwn) (maxL := 3) (ret := some (.boolean)) (Qc := fun A => va_Qi (fun (r9 : Int32) (u9 : Unit) => (iR r9 0 1)) (fun u => k_B (dC, dI) vwCl (tyy cI cJ cZ cM) A ((fun (u9 : Unit) => []) u)) A) sz (by decide +kernel) rfl (Nat.le_of_ble_eq_true rfl) (fun p e s m args below meth c A ls H locs B hP hD hS hl => ?_)
  obtain ⟨hx, hb, hml, hown, hts, hr, hlk, hnm, hK, hA, hN, hC⟩ := id B
  have hown : s.vm.findClass RX7 = some m.cls := hown
  have hl : lv_has ls 3 [(0, .ref h), (1, .long x1)] := hl
  have w_0 : (Cond.constantLong RX7 323 (499967946343)).before args s = true := hts _ (List.mem_of_getElem? (i := 1) rfl)
  have w_1 : (Cond.constantLong RX7 325 (512970880104)).before args s = true := hts _ (List.mem_of_getElem? (i := 2) rfl)
  have w_2 : (Cond.constantLong RX7 327 (125793039377779)).before args s = true := hts _ (List.mem_of_getElem? (i := 3) rfl)
  have w_3 : (Cond.constantLong RX7 329 (422826304870)).before args s = true := hts _ (List.mem_of_getElem? (i := 4) rfl)
  have w_4 : (Cond.constantLong RX7 331 (2003399528)).before args s = true := hts _ (List.mem_of_getElem? (i := 5) rfl)
  have w_5 : (Cond.constantLong RX7 333 (512970876019)).before args s = true := hts _ (List.mem_of_getElem? (i := 6) rfl)
  have w_6 : (Cond.constantLong RX7 335 (444150998387)).before args s = true := hts _ (List.mem_of_getElem? (i := 7) rfl)
  have w_7 : (Cond.constantLong RX7 337 (474147546227)).before args s = true := hts _ (List.mem_of_getElem? (i := 8) rfl)
  have w_8 : (Cond.constantLong RX7 339 (1970496883)).before args s = true := hts _ (List.mem_of_getElem? (i := 9) rfl)
  have w_9 : (Cond.constantLong RX7 341 (439855772532)).before args s = true := hts _ (List.mem_of_getElem? (i := 10) rfl)
  have w_10 : (Cond.constantLong RX7 343 (1684107883)).before args s = true := hts _ (List.mem_of_getElem? (i := 11) rfl)
  have w_11 : (Cond.constantLong RX7 345 (1919905645)).before args s = true := hts _ (List.mem_of_getElem? (i := 12) rfl)
  have w_12 : (Cond.constantLong RX7 347 (27988542884245108)).before args s = true := hts _ (List.mem_of_getElem? (i := 13) rfl)
  have w_13 : (Cond.constantLong RX7 349 (422607680115)).before args s = true := hts _ (List.mem_of_getElem? (i := 14) rfl)
  have w_14 : (Cond.constantLong RX7 351 (1667329133)).before args s = true := hts _ (List.mem_of_getElem? (i := 15) rfl)
  have w_15 : (Cond.constantLong RX7 353 (6840676)).before args s = true := hts _ (List.mem_of_getElem? (i := 16) rfl)
  have w_16 : (Cond.constantLong RX7 355 (7562593)).before args s = true := hts _ (List.mem_of_getElem? (i := 17) rfl)
  have w_17 : (Cond.constantLong RX7 357 (1935763812)).before args s = true := hts _ (List.mem_of_getElem? (i := 18) rfl)
  have w_18 : (Cond.constantLong RX7 359 (6578553)).before args s = true := hts _ (List.mem_of_getElem? (i := 19) rfl)
  have w_19 : (Cond.constantLong RX7 361 (28530)).before args s = true := hts _ (List.mem_of_getElem? (i := 20) rfl)
  have w_20 : (Cond.constantLong RX7 363 (6385252)).before args s = true := hts _ (List.mem_of_getElem? (i := 21) rfl)
  have w_21 : (Cond.constantLong RX7 365 (7237492)).before args s = true := hts _ (List.mem_of_getElem? (i := 22) rfl)
  have w_22 : (Cond.constantLong RX7 367 (6384748)).before args s = true := hts _ (List.mem_of_getElem? (i := 23) rfl)
  have w_23 : (Cond.constantLong RX7 369 (7170414)).before args s = true := hts _ (List.mem_of_getElem? (i := 24) rfl)
  have w_24 : (Cond.constantLong RX7 371 (7168376)).before args s = true := hts _ (List.mem_of_getElem? (i := 25) rfl)
  refine lv_lload_n hx hb dX7_isOwn_0 rfl (lv_at hl 1 rfl) ?_
  refine lv_ldc2 (v := 499967946343) hx hb hown w_0 dX7_isOwn_1 ?_
  refine W.lcmp hx hb dX7_isOwn_4 ?_
  refine lv_topi (fun y_4 ey_4 => ?_)
  have J_40 : ∀   (H : Heap) (locs : List Loc) (ls : Array Slot), va_P (dC, dI) vwCl [] H → va_D A [] → va_S A s.heap H locs → lv_has ls 3 [] → W p l e ({ frames := 1, cells := 0, slots := 0, locals := 40 }) s m args below meth c H locs 0 0 (MQ below (va_Qi (fun (r9 : Int32) (u9 : Unit) => (iR r9 0 1)) (fun u => k_B (dC, dI) vwCl (tyy cI cJ cZ cM) A ((fun (u9 : Unit) => []) u)) A) args s 0 0 A) (F0 m 40 ls []) := by
    intro   H locs ls hP hD hS hl
    refine lv_iconst (v := 1) hx hb dX7_isOwn_40 (by decide +kernel) ?_
    exact k_ri B hP hD hS dX7_isOwn_41 () [] rfl rfl rfl (Nat.le_of_ble_eq_true rfl) (Nat.le_of_ble_eq_true rfl) (show iR 1 0 1 from (iR_c (n := 1) (a := 0) (b := 1) (by decide +kernel) (by decide +kernel)))
  refine lv_if_eq (tgt := 40) hx hb dX7_isOwn_5 (by decide) (fun c_5 => ?_) (fun c_5 => ?_)
  · have c_5 : y_4 = 0 := c_5
    have f_40_1 : iR y_4 0 0 := iR_eqL c_5 (iR_top _) (iR_c (n := 0) (a := 0) (b := 0) (by decide +kernel) (by decide +kernel)) (by decide +kernel)
    have lc_5 : x1 = 499967946343 := l_cmpe ey_4 c_5
    exact J_40   H locs ls hP hD hS (lv_sub hl [] rfl)
  · have c_5 : ¬ y_4 = 0 := c_5
    have lc_5 : ¬ x1 = 499967946343 := l_cmpne ey_4 c_5
    refine lv_lload_n hx hb dX7_isOwn_8 rfl (lv_at hl 1 rfl) ?_
    refine lv_ldc2 (v := 512970880104) hx hb hown w_1 dX7_isOwn_9 ?_
    refine W.lcmp hx hb dX7_isOwn_12 ?_
    refine lv_topi (fun y_12 ey_12 => ?_)
    refine lv_if_eq (tgt := 40) hx hb dX7_isOwn_13 (by decide) (fun c_13 => ?_) (fun c_13 => ?_)
    · have c_13 : y_12 = 0 := c_13
      have f_40_1 : iR y_12 0 0 := iR_eqL c_13 (iR_top _) (iR_c (n := 0) (a := 0) (b := 0) (by decide +kernel) (by decide +kernel)) (by decide +kernel)
      have lc_13 : x1 = 512970880104 := l_cmpe ey_12 c_13
      exact J_40   H locs ls hP hD hS (lv_sub hl [] rfl)
    · have c_13 : ¬ y_12 = 0 := c_13
      have lc_13 : ¬ x1 = 512970880104 := l_cmpne ey_12 c_13
      refine lv_lload_n hx hb dX7_isOwn_16 rfl (lv_at hl 1 rfl) ?_
      refine lv_ldc2 (v := 125793039377779) hx hb hown w_2 dX7_isOwn_17 ?_
      refine W.lcmp hx hb dX7_isOwn_20 ?_
      refine lv_topi (fun y_20 ey_20 => ?_)
      refine lv_if_eq (tgt := 40) hx hb dX7_isOwn_21 (by decide) (fun c_21 => ?_) (fun c_21 => ?_)
      · have c_21 : y_20 = 0 := c_21
        have f_40_1 : iR y_20 0 0 := iR_eqL c_21 (iR_top _) (iR_c (n := 0) (a := 0) (b := 0) (by decide +kernel) (by decide +kernel)) (by decide +kernel)
        have lc_21 : x1 = 125793039377779 := l_cmpe ey_20 c_21
        exact J_40   H locs ls hP hD hS (lv_sub hl [] rfl)
      · have c_21 : ¬ y_20 = 0 := c_21
        have lc_21 : ¬ x1 = 125793039377779 := l_cmpne ey_20 c_21
        refine lv_lload_n hx hb dX7_isOwn_24 rfl (lv_at hl 1 rfl) ?_
        refine lv_ldc2 (v := 422826304870) hx hb hown w_3 dX7_isOwn_25 ?_
        refine W.lcmp hx hb dX7_isOwn_28 ?_
        refine lv_topi (fun y_28 ey_28 => ?_)
        refine lv_if_eq (tgt := 40) hx hb dX7_isOwn_29 (by decide) (fun c_29 => ?_) (fun c_29 => ?_)
        · have c_29 : y_28 = 0 := c_29
          have f_40_1 : iR y_28 0 0 := iR_eqL c_29 (iR_top _) (iR_c (n := 0) (a := 0) (b := 0) (by decide +kernel) (by decide +kernel)) (by decide +kernel)
          have lc_29 : x1 = 422826304870 := l_cmpe ey_28 c_29
          exact J_40   H locs ls hP hD hS (lv_sub hl [] rfl)
        · have c_29 : ¬ y_28 = 0 := c_29
          have lc_29 : ¬ x1 = 422826304870 := l_cmpne ey_28 c_29
          refine lv_lload_n hx hb dX7_isOwn_32 rfl (lv_at hl 1 rfl) ?_
          refine lv_ldc2 (v := 2003399528) hx hb hown w_4 dX7_isOwn_33 ?_
          refine W.lcmp hx hb dX7_isOwn_36 ?_
          refine lv_topi (fun y_36 ey_36 => ?_)
          refine lv_if_ne (tgt := 42) hx hb dX7_isOwn_37 (by decide) (fun c_37 => ?_) (fun c_37 => ?_)
          · have c_37 : ¬ y_36 = 0 := c_37
            have lc_37 : ¬ x1 = 2003399528 := l_cmpne ey_36 c_37
            refine lv_lload_n hx hb dX7_isOwn_42 rfl (lv_at hl 1 rfl) ?_
            refine lv_ldc2 (v := 512970876019) hx hb hown w_5 dX7_isOwn_43 ?_
            refine W.lcmp hx hb dX7_isOwn_46 ?_
            refine lv_topi (fun y_46 ey_46 => ?_)
            have J_82 : ∀   (H : Heap) (locs : List Loc) (ls : Array Slot), va_P (dC, dI) vwCl [] H → va_D A [] → va_S A s.heap H locs → lv_has ls 3 [] → W p l e ({ frames := 1, cells := 0, slots := 0, locals := 40 }) s m args below meth c H locs 0 0 (MQ below (va_Qi (fun (r9 : Int32) (u9 : Unit) => (iR r9 0 1)) (fun u => k_B (dC, dI) vwCl (tyy cI cJ cZ cM) A ((fun (u9 : Unit) => []) u)) A) args s 0 0 A) (F0 m 82 ls []) := by
              intro   H locs ls hP hD hS hl
              refine lv_iconst (v := 1) hx hb dX7_isOwn_82 (by decide +kernel) ?_
              exact k_ri B hP hD hS dX7_isOwn_83 () [] rfl rfl rfl (Nat.le_of_ble_eq_true rfl) (Nat.le_of_ble_eq_true rfl) (show iR 1 0 1 from (iR_c (n := 1) (a := 0) (b := 1) (by decide +kernel) (by decide +kernel)))
            refine lv_if_eq (tgt := 82) hx hb dX7_isOwn_47 (by decide) (fun c_47 => ?_) (fun c_47 => ?_)
            · have c_47 : y_46 = 0 := c_47
              have f_82_1 : iR y_46 0 0 := iR_eqL c_47 (iR_top _) (iR_c (n := 0) (a := 0) (b := 0) (by decide +kernel) (by decide +kernel)) (by decide +kernel)
              have lc_47 : x1 = 512970876019 := l_cmpe ey_46 c_47
              exact J_82   H locs ls hP hD hS (lv_sub hl [] rfl)
            · have c_47 : ¬ y_46 = 0 := c_47
              have lc_47 : ¬ x1 = 512970876019 := l_cmpne ey_46 c_47
              refine lv_lload_n hx hb dX7_isOwn_50 rfl (lv_at hl 1 rfl) ?_
              refine lv_ldc2 (v := 444150998387) hx hb hown w_6 dX7_isOwn_51 ?_
              refine W.lcmp hx hb dX7_isOwn_54 ?_
              refine lv_topi (fun y_54 ey_54 => ?_)
              refine lv_if_eq (tgt := 82) hx hb dX7_isOwn_55 (by decide) (fun c_55 => ?_) (fun c_55 => ?_)
              · have c_55 : y_54 = 0 := c_55
                have f_82_1 : iR y_54 0 0 := iR_eqL c_55 (iR_top _) (iR_c (n := 0) (a := 0) (b := 0) (by decide +kernel) (by decide +kernel)) (by decide +kernel)
                have lc_55 : x1 = 444150998387 := l_cmpe ey_54 c_55
                exact J_82   H locs ls hP hD hS (lv_sub hl [] rfl)
              · have c_55 : ¬ y_54 = 0 := c_55
                have lc_55 : ¬ x1 = 444150998387 := l_cmpne ey_54 c_55
                refine lv_lload_n hx hb dX7_isOwn_58 rfl (lv_at hl 1 rfl) ?_
                refine lv_ldc2 (v := 474147546227) hx hb hown w_7 dX7_isOwn_59 ?_
                refine W.lcmp hx hb dX7_isOwn_62 ?_
                refine lv_topi (fun y_62 ey_62 => ?_)
                refine lv_if_eq (tgt := 82) hx hb dX7_isOwn_63 (by decide) (fun c_63 => ?_) (fun c_63 => ?_)
                · have c_63 : y_62 = 0 := c_63
                  have f_82_1 : iR y_62 0 0 := iR_eqL c_63 (iR_top _) (iR_c (n := 0) (a := 0) (b := 0) (by decide +kernel) (by decide +kernel)) (by decide +kernel)
                  have lc_63 : x1 = 474147546227 := l_cmpe ey_62 c_63
                  exact J_82   H locs ls hP hD hS (lv_sub hl [] rfl)
                · have c_63 : ¬ y_62 = 0 := c_63
                  have lc_63 : ¬ x1 = 474147546227 := l_cmpne ey_62 c_63
                  refine lv_lload_n hx hb dX7_isOwn_66 rfl (lv_at hl 1 rfl) ?_
                  refine lv_ldc2 (v := 1970496883) hx hb hown w_8 dX7_isOwn_67 ?_
                  refine W.lcmp hx hb dX7_isOwn_70 ?_
                  refine lv_topi (fun y_70 ey_70 => ?_)
                  refine lv_if_eq (tgt := 82) hx hb dX7_isOwn_71 (by decide) (fun c_71 => ?_) (fun c_71 => ?_)
                  · have c_71 : y_70 = 0 := c_71
                    have f_82_1 : iR y_70 0 0 := iR_eqL c_71 (iR_top _) (iR_c (n := 0) (a := 0) (b := 0) (by decide +kernel) (by decide +kernel)) (by decide +kernel)
                    have lc_71 : x1 = 1970496883 := l_cmpe ey_70 c_71
                    exact J_82   H locs ls hP hD hS (lv_sub hl [] rfl)
                  · have c_71 : ¬ y_70 = 0 := c_71
                    have lc_71 : ¬ x1 = 1970496883 := l_cmpne ey_70 c_71
                    refine lv_lload_n hx hb dX7_isOwn_74 rfl (lv_at hl 1 rfl) ?_
                    refine lv_ldc2 (v := 439855772532) hx hb hown w_9 dX7_isOwn_75 ?_
                    refine W.lcmp hx hb dX7_isOwn_78 ?_
                    refine lv_topi (fun y_78 ey_78 => ?_)
                    refine lv_if_ne (tgt := 84) hx hb dX7_isOwn_79 (by decide) (fun c_79 => ?_) (fun c_79 => ?_)
                    · have c_79 : ¬ y_78 = 0 := c_79
                      have lc_79 : ¬ x1 = 439855772532 := l_cmpne ey_78 c_79
                      refine lv_lload_n hx hb dX7_isOwn_84 rfl (lv_at hl 1 rfl) ?_
                      refine lv_ldc2 (v := 1684107883) hx hb hown w_10 dX7_isOwn_85 ?_
                      refine W.lcmp hx hb dX7_isOwn_88 ?_
                      refine lv_topi (fun y_88 ey_88 => ?_)
                      have J_124 : ∀   (H : Heap) (locs : List Loc) (ls : Array Slot), va_P (dC, dI) vwCl [] H → va_D A [] → va_S A s.heap H locs → lv_has ls 3 [] → W p l e ({ frames := 1, cells := 0, slots := 0, locals := 40 }) s m args below meth c H locs 0 0 (MQ below (va_Qi (fun (r9 : Int32) (u9 : Unit) => (iR r9 0 1)) (fun u => k_B (dC, dI) vwCl (tyy cI cJ cZ cM) A ((fun (u9 : Unit) => []) u)) A) args s 0 0 A) (F0 m 124 ls []) := by
                        intro   H locs ls hP hD hS hl
                        refine lv_iconst (v := 1) hx hb dX7_isOwn_124 (by decide +kernel) ?_
                        exact k_ri B hP hD hS dX7_isOwn_125 () [] rfl rfl rfl (Nat.le_of_ble_eq_true rfl) (Nat.le_of_ble_eq_true rfl) (show iR 1 0 1 from (iR_c (n := 1) (a := 0) (b := 1) (by decide +kernel) (by decide +kernel)))
                      refine lv_if_eq (tgt := 124) hx hb dX7_isOwn_89 (by decide) (fun c_89 => ?_) (fun c_89 => ?_)
                      · have c_89 : y_88 = 0 := c_89
                        have f_124_1 : iR y_88 0 0 := iR_eqL c_89 (iR_top _) (iR_c (n := 0) (a := 0) (b := 0) (by decide +kernel) (by decide +kernel)) (by decide +kernel)
                        have lc_89 : x1 = 1684107883 := l_cmpe ey_88 c_89
                        exact J_124   H locs ls hP hD hS (lv_sub hl [] rfl)
                      · have c_89 : ¬ y_88 = 0 := c_89
                        have lc_89 : ¬ x1 = 1684107883 := l_cmpne ey_88 c_89
                        refine lv_lload_n hx hb dX7_isOwn_92 rfl (lv_at hl 1 rfl) ?_
                        refine lv_ldc2 (v := 1919905645) hx hb hown w_11 dX7_isOwn_93 ?_
                        refine W.lcmp hx hb dX7_isOwn_96 ?_
                        refine lv_topi (fun y_96 ey_96 => ?_)
                        refine lv_if_eq (tgt := 124) hx hb dX7_isOwn_97 (by decide) (fun c_97 => ?_) (fun c_97 => ?_)
                        · have c_97 : y_96 = 0 := c_97
                          have f_124_1 : iR y_96 0 0 := iR_eqL c_97 (iR_top _) (iR_c (n := 0) (a := 0) (b := 0) (by decide +kernel) (by decide +kernel)) (by decide +kernel)
                          have lc_97 : x1 = 1919905645 := l_cmpe ey_96 c_97
                          exact J_124   H locs ls hP hD hS (lv_sub hl [] rfl)
                        · have c_97 : ¬ y_96 = 0 := c_97
                          have lc_97 : ¬ x1 = 1919905645 := l_cmpne ey_96 c_97
                          refine lv_lload_n hx hb dX7_isOwn_100 rfl (lv_at hl 1 rfl) ?_
                          refine lv_ldc2 (v := 27988542884245108) hx hb hown w_12 dX7_isOwn_101 ?_
                          refine W.lcmp hx hb dX7_isOwn_104 ?_
                          refine lv_topi (fun y_104 ey_104 => ?_)
                          refine lv_if_eq (tgt := 124) hx hb dX7_isOwn_105 (by decide) (fun c_105 => ?_) (fun c_105 => ?_)
                          · have c_105 : y_104 = 0 := c_105
                            have f_124_1 : iR y_104 0 0 := iR_eqL c_105 (iR_top _) (iR_c (n := 0) (a := 0) (b := 0) (by decide +kernel) (by decide +kernel)) (by decide +kernel)
                            have lc_105 : x1 = 27988542884245108 := l_cmpe ey_104 c_105
                            exact J_124   H locs ls hP hD hS (lv_sub hl [] rfl)
                          · have c_105 : ¬ y_104 = 0 := c_105
                            have lc_105 : ¬ x1 = 27988542884245108 := l_cmpne ey_104 c_105
                            refine lv_lload_n hx hb dX7_isOwn_108 rfl (lv_at hl 1 rfl) ?_
                            refine lv_ldc2 (v := 422607680115) hx hb hown w_13 dX7_isOwn_109 ?_
                            refine W.lcmp hx hb dX7_isOwn_112 ?_
                            refine lv_topi (fun y_112 ey_112 => ?_)
                            refine lv_if_eq (tgt := 124) hx hb dX7_isOwn_113 (by decide) (fun c_113 => ?_) (fun c_113 => ?_)
                            · have c_113 : y_112 = 0 := c_113
                              have f_124_1 : iR y_112 0 0 := iR_eqL c_113 (iR_top _) (iR_c (n := 0) (a := 0) (b := 0) (by decide +kernel) (by decide +kernel)) (by decide +kernel)
                              have lc_113 : x1 = 422607680115 := l_cmpe ey_112 c_113
                              exact J_124   H locs ls hP hD hS (lv_sub hl [] rfl)
                            · have c_113 : ¬ y_112 = 0 := c_113
                              have lc_113 : ¬ x1 = 422607680115 := l_cmpne ey_112 c_113
                              refine lv_lload_n hx hb dX7_isOwn_116 rfl (lv_at hl 1 rfl) ?_
                              refine lv_ldc2 (v := 1667329133) hx hb hown w_14 dX7_isOwn_117 ?_
                              refine W.lcmp hx hb dX7_isOwn_120 ?_
                              refine lv_topi (fun y_120 ey_120 => ?_)
                              refine lv_if_ne (tgt := 126) hx hb dX7_isOwn_121 (by decide) (fun c_121 => ?_) (fun c_121 => ?_)
                              · have c_121 : ¬ y_120 = 0 := c_121
                                have lc_121 : ¬ x1 = 1667329133 := l_cmpne ey_120 c_121
                                refine lv_lload_n hx hb dX7_isOwn_126 rfl (lv_at hl 1 rfl) ?_
                                refine lv_ldc2 (v := 6840676) hx hb hown w_15 dX7_isOwn_127 ?_
                                refine W.lcmp hx hb dX7_isOwn_130 ?_
                                refine lv_topi (fun y_130 ey_130 => ?_)
                                have J_166 : ∀   (H : Heap) (locs : List Loc) (ls : Array Slot), va_P (dC, dI) vwCl [] H → va_D A [] → va_S A s.heap H locs → lv_has ls 3 [] → W p l e ({ frames := 1, cells := 0, slots := 0, locals := 40 }) s m args below meth c H locs 0 0 (MQ below (va_Qi (fun (r9 : Int32) (u9 : Unit) => (iR r9 0 1)) (fun u => k_B (dC, dI) vwCl (tyy cI cJ cZ cM) A ((fun (u9 : Unit) => []) u)) A) args s 0 0 A) (F0 m 166 ls []) := by
                                  intro   H locs ls hP hD hS hl
                                  refine lv_iconst (v := 1) hx hb dX7_isOwn_166 (by decide +kernel) ?_
                                  exact k_ri B hP hD hS dX7_isOwn_167 () [] rfl rfl rfl (Nat.le_of_ble_eq_true rfl) (Nat.le_of_ble_eq_true rfl) (show iR 1 0 1 from (iR_c (n := 1) (a := 0) (b := 1) (by decide +kernel) (by decide +kernel)))
                                refine lv_if_eq (tgt := 166) hx hb dX7_isOwn_131 (by decide) (fun c_131 => ?_) (fun c_131 => ?_)
                                · have c_131 : y_130 = 0 := c_131
                                  have f_166_1 : iR y_130 0 0 := iR_eqL c_131 (iR_top _) (iR_c (n := 0) (a := 0) (b := 0) (by decide +kernel) (by decide +kernel)) (by decide +kernel)
                                  have lc_131 : x1 = 6840676 := l_cmpe ey_130 c_131
                                  exact J_166   H locs ls hP hD hS (lv_sub hl [] rfl)
                                · have c_131 : ¬ y_130 = 0 := c_131
                                  have lc_131 : ¬ x1 = 6840676 := l_cmpne ey_130 c_131
                                  refine lv_lload_n hx hb dX7_isOwn_134 rfl (lv_at hl 1 rfl) ?_
                                  refine lv_ldc2 (v := 7562593) hx hb hown w_16 dX7_isOwn_135 ?_
                                  refine W.lcmp hx hb dX7_isOwn_138 ?_
                                  refine lv_topi (fun y_138 ey_138 => ?_)
                                  refine lv_if_eq (tgt := 166) hx hb dX7_isOwn_139 (by decide) (fun c_139 => ?_) (fun c_139 => ?_)
                                  · have c_139 : y_138 = 0 := c_139
                                    have f_166_1 : iR y_138 0 0 := iR_eqL c_139 (iR_top _) (iR_c (n := 0) (a := 0) (b := 0) (by decide +kernel) (by decide +kernel)) (by decide +kernel)
                                    have lc_139 : x1 = 7562593 := l_cmpe ey_138 c_139
                                    exact J_166   H locs ls hP hD hS (lv_sub hl [] rfl)
                                  · have c_139 : ¬ y_138 = 0 := c_139
                                    have lc_139 : ¬ x1 = 7562593 := l_cmpne ey_138 c_139
                                    refine lv_lload_n hx hb dX7_isOwn_142 rfl (lv_at hl 1 rfl) ?_
                                    refine lv_ldc2 (v := 1935763812) hx hb hown w_17 dX7_isOwn_143 ?_
                                    refine W.lcmp hx hb dX7_isOwn_146 ?_
                                    refine lv_topi (fun y_146 ey_146 => ?_)
                                    refine lv_if_eq (tgt := 166) hx hb dX7_isOwn_147 (by decide) (fun c_147 => ?_) (fun c_147 => ?_)
                                    · have c_147 : y_146 = 0 := c_147
                                      have f_166_1 : iR y_146 0 0 := iR_eqL c_147 (iR_top _) (iR_c (n := 0) (a := 0) (b := 0) (by decide +kernel) (by decide +kernel)) (by decide +kernel)
                                      have lc_147 : x1 = 1935763812 := l_cmpe ey_146 c_147
                                      exact J_166   H locs ls hP hD hS (lv_sub hl [] rfl)
                                    · have c_147 : ¬ y_146 = 0 := c_147
                                      have lc_147 : ¬ x1 = 1935763812 := l_cmpne ey_146 c_147
                                      refine lv_lload_n hx hb dX7_isOwn_150 rfl (lv_at hl 1 rfl) ?_
                                      refine lv_ldc2 (v := 6578553) hx hb hown w_18 dX7_isOwn_151 ?_
                                      refine W.lcmp hx hb dX7_isOwn_154 ?_
                                      refine lv_topi (fun y_154 ey_154 => ?_)
                                      refine lv_if_eq (tgt := 166) hx hb dX7_isOwn_155 (by decide) (fun c_155 => ?_) (fun c_155 => ?_)
                                      · have c_155 : y_154 = 0 := c_155
                                        have f_166_1 : iR y_154 0 0 := iR_eqL c_155 (iR_top _) (iR_c (n := 0) (a := 0) (b := 0) (by decide +kernel) (by decide +kernel)) (by decide +kernel)
                                        have lc_155 : x1 = 6578553 := l_cmpe ey_154 c_155
                                        exact J_166   H locs ls hP hD hS (lv_sub hl [] rfl)
                                      · have c_155 : ¬ y_154 = 0 := c_155
                                        have lc_155 : ¬ x1 = 6578553 := l_cmpne ey_154 c_155
                                        refine lv_lload_n hx hb dX7_isOwn_158 rfl (lv_at hl 1 rfl) ?_
                                        refine lv_ldc2 (v := 28530) hx hb hown w_19 dX7_isOwn_159 ?_
                                        refine W.lcmp hx hb dX7_isOwn_162 ?_
                                        refine lv_topi (fun y_162 ey_162 => ?_)
                                        refine lv_if_ne (tgt := 168) hx hb dX7_isOwn_163 (by decide) (fun c_163 => ?_) (fun c_163 => ?_)
                                        · have c_163 : ¬ y_162 = 0 := c_163
                                          have lc_163 : ¬ x1 = 28530 := l_cmpne ey_162 c_163
                                          refine lv_lload_n hx hb dX7_isOwn_168 rfl (lv_at hl 1 rfl) ?_
                                          refine lv_ldc2 (v := 6385252) hx hb hown w_20 dX7_isOwn_169 ?_
                                          refine W.lcmp hx hb dX7_isOwn_172 ?_
                                          refine lv_topi (fun y_172 ey_172 => ?_)
                                          have J_208 : ∀   (H : Heap) (locs : List Loc) (ls : Array Slot), va_P (dC, dI) vwCl [] H → va_D A [] → va_S A s.heap H locs → lv_has ls 3 [] → W p l e ({ frames := 1, cells := 0, slots := 0, locals := 40 }) s m args below meth c H locs 0 0 (MQ below (va_Qi (fun (r9 : Int32) (u9 : Unit) => (iR r9 0 1)) (fun u => k_B (dC, dI) vwCl (tyy cI cJ cZ cM) A ((fun (u9 : Unit) => []) u)) A) args s 0 0 A) (F0 m 208 ls []) := by
                                            intro   H locs ls hP hD hS hl
                                            refine lv_iconst (v := 1) hx hb dX7_isOwn_208 (by decide +kernel) ?_
                                            exact k_ri B hP hD hS dX7_isOwn_209 () [] rfl rfl rfl (Nat.le_of_ble_eq_true rfl) (Nat.le_of_ble_eq_true rfl) (show iR 1 0 1 from (iR_c (n := 1) (a := 0) (b := 1) (by decide +kernel) (by decide +kernel)))
                                          refine lv_if_eq (tgt := 208) hx hb dX7_isOwn_173 (by decide) (fun c_173 => ?_) (fun c_173 => ?_)
                                          · have c_173 : y_172 = 0 := c_173
                                            have f_208_1 : iR y_172 0 0 := iR_eqL c_173 (iR_top _) (iR_c (n := 0) (a := 0) (b := 0) (by decide +kernel) (by decide +kernel)) (by decide +kernel)
                                            have lc_173 : x1 = 6385252 := l_cmpe ey_172 c_173
                                            exact J_208   H locs ls hP hD hS (lv_sub hl [] rfl)
                                          · have c_173 : ¬ y_172 = 0 := c_173
                                            have lc_173 : ¬ x1 = 6385252 := l_cmpne ey_172 c_173
                                            refine lv_lload_n hx hb dX7_isOwn_176 rfl (lv_at hl 1 rfl) ?_
                                            refine lv_ldc2 (v := 7237492) hx hb hown w_21 dX7_isOwn_177 ?_
                                            refine W.lcmp hx hb dX7_isOwn_180 ?_
                                            refine lv_topi (fun y_180 ey_180 => ?_)
                                            refine lv_if_eq (tgt := 208) hx hb dX7_isOwn_181 (by decide) (fun c_181 => ?_) (fun c_181 => ?_)
                                            · have c_181 : y_180 = 0 := c_181
                                              have f_208_1 : iR y_180 0 0 := iR_eqL c_181 (iR_top _) (iR_c (n := 0) (a := 0) (b := 0) (by decide +kernel) (by decide +kernel)) (by decide +kernel)
                                              have lc_181 : x1 = 7237492 := l_cmpe ey_180 c_181
                                              exact J_208   H locs ls hP hD hS (lv_sub hl [] rfl)
                                            · have c_181 : ¬ y_180 = 0 := c_181
                                              have lc_181 : ¬ x1 = 7237492 := l_cmpne ey_180 c_181
                                              refine lv_lload_n hx hb dX7_isOwn_184 rfl (lv_at hl 1 rfl) ?_
                                              refine lv_ldc2 (v := 6384748) hx hb hown w_22 dX7_isOwn_185 ?_
                                              refine W.lcmp hx hb dX7_isOwn_188 ?_
                                              refine lv_topi (fun y_188 ey_188 => ?_)
                                              refine lv_if_eq (tgt := 208) hx hb dX7_isOwn_189 (by decide) (fun c_189 => ?_) (fun c_189 => ?_)
                                              · have c_189 : y_188 = 0 := c_189
                                                have f_208_1 : iR y_188 0 0 := iR_eqL c_189 (iR_top _) (iR_c (n := 0) (a := 0) (b := 0) (by decide +kernel) (by decide +kernel)) (by decide +kernel)
                                                have lc_189 : x1 = 6384748 := l_cmpe ey_188 c_189
                                                exact J_208   H locs ls hP hD hS (lv_sub hl [] rfl)
                                              · have c_189 : ¬ y_188 = 0 := c_189
                                                have lc_189 : ¬ x1 = 6384748 := l_cmpne ey_188 c_189
                                                refine lv_lload_n hx hb dX7_isOwn_192 rfl (lv_at hl 1 rfl) ?_
                                                refine lv_ldc2 (v := 7170414) hx hb hown w_23 dX7_isOwn_193 ?_
                                                refine W.lcmp hx hb dX7_isOwn_196 ?_
                                                refine lv_topi (fun y_196 ey_196 => ?_)
                                                refine lv_if_eq (tgt := 208) hx hb dX7_isOwn_197 (by decide) (fun c_197 => ?_) (fun c_197 => ?_)
                                                · have c_197 : y_196 = 0 := c_197
                                                  have f_208_1 : iR y_196 0 0 := iR_eqL c_197 (iR_top _) (iR_c (n := 0) (a := 0) (b := 0) (by decide +kernel) (by decide +kernel)) (by decide +kernel)
                                                  have lc_197 : x1 = 7170414 := l_cmpe ey_196 c_197
                                                  exact J_208   H locs ls hP hD hS (lv_sub hl [] rfl)
                                                · have c_197 : ¬ y_196 = 0 := c_197
                                                  have lc_197 : ¬ x1 = 7170414 := l_cmpne ey_196 c_197
                                                  refine lv_lload_n hx hb dX7_isOwn_200 rfl (lv_at hl 1 rfl) ?_
                                                  refine lv_ldc2 (v := 7168376) hx hb hown w_24 dX7_isOwn_201 ?_
                                                  refine W.lcmp hx hb dX7_isOwn_204 ?_
                                                  refine lv_topi (fun y_204 ey_204 => ?_)
                                                  refine lv_if_ne (tgt := 210) hx hb dX7_isOwn_205 (by decide) (fun c_205 => ?_) (fun c_205 => ?_)
                                                  · have c_205 : ¬ y_204 = 0 := c_205
                                                    have lc_205 : ¬ x1 = 7168376 := l_cmpne ey_204 c_205
                                                    refine lv_iconst (v := 0) hx hb dX7_isOwn_210 (by decide +kernel) ?_
                                                    exact k_ri B hP hD hS dX7_isOwn_211 () [] rfl rfl rfl (Nat.le_of_ble_eq_true rfl) (Nat.le_of_ble_eq_true rfl) (show iR 0 0 1 from (iR_c (n := 0) (a := 0) (b := 1) (by decide +kernel) (by decide +kernel)))
                                                  · have c_205 : y_204 = 0 := c_205
                                                    have f_208_1 : iR y_204 0 0 := iR_eqL c_205 (iR_top _) (iR_c (n := 0) (a := 0) (b := 0) (by decide +kernel) (by decide +kernel)) (by decide +kernel)
                                                    have lc_205 : x1 = 7168376 := l_cmpe ey_204 c_205
                                                    exact J_208   H locs ls hP hD hS (lv_sub hl [] rfl)
                                        · have c_163 : y_162 = 0 := c_163
                                          have f_166_1 : iR y_162 0 0 := iR_eqL c_163 (iR_top _) (iR_c (n := 0) (a := 0) (b := 0) (by decide +kernel) (by decide +kernel)) (by decide +kernel)
                                          have lc_163 : x1 = 28530 := l_cmpe ey_162 c_163
                                          exact J_166   H locs ls hP hD hS (lv_sub hl [] rfl)
                              · have c_121 : y_120 = 0 := c_121
                                have f_124_1 : iR y_120 0 0 := iR_eqL c_121 (iR_top _) (iR_c (n := 0) (a := 0) (b := 0) (by decide +kernel) (by decide +kernel)) (by decide +kernel)
                                have lc_121 : x1 = 1667329133 := l_cmpe ey_120 c_121
                                exact J_124   H locs ls hP hD hS (lv_sub hl [] rfl)
                    · have c_79 : y_78 = 0 := c_79
                      have f_82_1 : iR y_78 0 0 := iR_eqL c_79 (iR_top _) (iR_c (n := 0) (a := 0) (b := 0) (by decide +kernel) (by decide +kernel)) (by decide +kernel)
                      have lc_79 : x1 = 439855772532 := l_cmpe ey_78 c_79
                      exact J_82   H locs ls hP hD hS (lv_sub hl [] rfl)
          · have c_37 : y_36 = 0 := c_37
            have f_40_1 : iR y_36 0 0 := iR_eqL c_37 (iR_top _) (iR_c (n := 0) (a := 0) (b := 0) (by decide +kernel) (by decide +kernel)) (by decide +kernel)
            have lc_37 : x1 = 2003399528 := l_cmpe ey_36 c_37
            exact J_40   H locs ls hP hD hS (lv_sub hl [] rfl)
