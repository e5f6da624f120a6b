set_option maxHeartbeats 8000000 in
set_option maxRecDepth 100000 in
theorem s_X7_reads_v1 (l : Launch) (dC : Nat → ClassId) (dI : Nat → Nat → Nat) (cI cJ cZ cM : ClassId) (h : Nat) (r : Nat → Nat) (i : Nat → Int32) (j : Nat → Int64) (x1 : Int32) (f0 : Nat → Int32) (f32 : Nat → Int32) (f33 : Nat → Int32) (f38 : Nat → Int32) (f39 : Nat → Int32) (f40 : Nat → Int32) (f41 : Nat → Int32) (f42 : Nat → Int32) (f45 : Nat → Int32) (hI : mR i) (hf0 : aR f0 0 255) (hf40 : aR f40 0 1) (hpg0 : ((i 3) = 0) ∨ (((i 4) < (i 5)))) (hpg1 : (0 < (i 8)) ∨ (((i 36) ≤ (i 4)))) (hr0 : (i 4) ≤ (i 5)) : k_Mv l yX7_reads wsX7_reads ({ frames := 5, cells := 0, slots := 0, locals := 131 }) (dC, dI) vwCl (tyy cI cJ cZ cM) [(h, .inr (7, oM r i j)), ((r 0), .inl (cI, 1800, .inl f0)), ((r 32), .inl (cI, 3200, .inl f32)), ((r 33), .inl (cI, 3200, .inl f33)), ((r 38), .inl (cI, 20, .inl f38)), ((r 39), .inl (cI, 20, .inl f39)), ((r 40), .inl (cZ, 20, .inl f40)), ((r 41), .inl (cI, 20, .inl f41)), ((r 42), .inl (cI, 20, .inl f42)), ((r 45), .inl (cI, 500, .inl f45))] [.ref h, .int x1] 0 0 (fun (u9 : SU) => [(h, .inr (7, oM r (upd (upd (upd (upd (upd (upd (upd (upd (upd (upd (upd (upd i 3 (u9.1 0)) 4 (u9.1 1)) 5 (u9.1 2)) 6 (u9.1 3)) 8 (u9.1 4)) 9 (u9.1 5)) 12 (u9.1 6)) 36 (u9.1 7)) 43 (u9.1 8)) 44 (u9.1 9)) 46 (u9.1 10)) 47 (u9.1 11)) (vp_updL j 7 (u9.2.1 0)))), ((r 0), .inl (cI, 1800, .inl f0)), ((r 32), .inl (cI, 3200, .inl (u9.2.2.1 0))), ((r 33), .inl (cI, 3200, .inl (u9.2.2.1 1))), ((r 38), .inl (cI, 20, .inl (u9.2.2.1 2))), ((r 39), .inl (cI, 20, .inl (u9.2.2.1 3))), ((r 40), .inl (cZ, 20, .inl (u9.2.2.1 4))), ((r 41), .inl (cI, 20, .inl (u9.2.2.1 5))), ((r 42), .inl (cI, 20, .inl (u9.2.2.1 6))), ((r 45), .inl (cI, 500, .inl (u9.2.2.1 7)))]) (fun (u9 : SU) => ((u9.1 1) ≤ (u9.1 2)) ∧ (iR (u9.1 0) 0 3) ∧ (iR (u9.1 1) 0 1600) ∧ (iR (u9.1 2) 0 1600) ∧ (iR (u9.1 3) 0 9999) ∧ (iR (u9.1 4) 0 6) ∧ (iR (u9.1 7) 0 1600) ∧ (iR (u9.1 8) 0 8) ∧ (iR (u9.1 9) 0 7) ∧ (iR (u9.1 10) 0 48) ∧ (iR (u9.1 11) 0 1) ∧ (aR (u9.2.2.1 4) 0 1) ∧ (FRw 1600 (u9.2.2.1 0) f32 (i 37).toInt.toNat) ∧ (TM (u9.1 2) (u9.1 0) ≤ TM (i 5) (i 3)) ∧ ((i 4) ≤ (u9.1 1)) ∧ ((0 < (u9.1 4)) ∨ ((PF (u9.2.2.1 0) (u9.1 7).toInt.toNat (i 37).toInt.toNat (i 36).toInt.toNat (u9.1 1).toInt f32))) ∧ (((u9.1 0) = 0) ∨ (((u9.1 1) < (u9.1 2))))) := by
  refine fun sz => k_enter (cc := cX7_reads) (maxL := 3) (ret := none) (Qc := fun A => va_Qv (fun (u9 : SU) => ((u9.1 1) ≤ (u9.1 2)) ∧ (iR (u9.1 0) 0 3) ∧ (iR (u9.1 1) 0 1600) ∧ (iR (u9.1 2) 0 1600) ∧ (iR (u9.1 3) 0 9999) ∧ (iR (u9.1 4) 0 6) ∧ (iR (u9.1 7) 0 1600) ∧ (iR (u9.1 8) 0 8) ∧ (iR (u9.1 9) 0 7) ∧ (iR (u9.1 10) 0 48) ∧ (iR (u9.1 11) 0 1) ∧ (aR (u9.2.2.1 4) 0 1) ∧ (FRw 1600 (u9.2.2.1 0) f32 (i 37).toInt.toNat) ∧ (TM (u9.1 2) (u9.1 0) ≤ TM (i 5) (i 3)) ∧ ((i 4) ≤ (u9.1 1)) ∧ ((0 < (u9.1 4)) ∨ ((PF (u9.2.2.1 0) (u9.1 7).toInt.toNat (i 37).toInt.toNat (i 36).toInt.toNat (u9.1 1).toInt f32))) ∧ (((u9.1 0) = 0) ∨ (((u9.1 1) < (u9.1 2))))) (fun u => k_B (dC, dI) vwCl (tyy cI cJ cZ cM) A ((fun (u9 : SU) => [(h, .inr (7, oM r (upd (upd (upd (upd (upd (upd (upd (upd (upd (upd (upd (upd i 3 (u9.1 0)) 4 (u9.1 1)) 5 (u9.1 2)) 6 (u9.1 3)) 8 (u9.1 4)) 9 (u9.1 5)) 12 (u9.1 6)) 36 (u9.1 7)) 43 (u9.1 8)) 44 (u9.1 9)) 46 (u9.1 10)) 47 (u9.1 11)) (vp_updL j 7 (u9.2.1 0)))), ((r 0), .inl (cI, 1800, .inl f0)), ((r 32), .inl (cI, 3200, .inl (u9.2.2.1 0))), ((r 33), .inl (cI, 3200, .inl (u9.2.2.1 1))), ((r 38), .inl (cI, 20, .inl (u9.2.2.1 2))), ((r 39), .inl (cI, 20, .inl (u9.2.2.1 3))), ((r 40), .inl (cZ, 20, .inl (u9.2.2.1 4))), ((r 41), .inl (cI, 20, .inl (u9.2.2.1 5))), ((r 42), .inl (cI, 20, .inl (u9.2.2.1 6))), ((r 45), .inl (cI, 500, .inl (u9.2.2.1 7)))]) u)) A) sz (by decide +kernel) rfl (Nat.le_of_ble_eq_true rfl) (fun p e s m args below meth c A ls H locs B hP hD hS hl => ?_)
  obtain ⟨hx, hb, hml, hown, hts, hr, hlk, hnm, hK, hA, hN, hC⟩ := id B
  have hown : s.vm.findClass RX7 = some m.cls := hown
  have hl : lv_has ls 3 [(0, .ref h), (1, .int x1)] := hl
  have w_0 : (Cond.fieldLink RX7 36 "WishSeaModel" "faultKind" "I").before args s = true := hts _ (List.mem_of_getElem? (i := 1) rfl)
  have w_1 : (Cond.fieldLink RX7 143 "WishSeaModel" "deep" "I").before args s = true := hts _ (List.mem_of_getElem? (i := 2) rfl)
  have w_2 : (Cond.fieldLink RX7 146 "WishSeaModel" "open" "I").before args s = true := hts _ (List.mem_of_getElem? (i := 3) rfl)
  have w_3 : (Cond.fieldLink RX7 152 "WishSeaModel" "opMany" "I").before args s = true := hts _ (List.mem_of_getElem? (i := 4) rfl)
  have w_4 : (Cond.fieldLink RX7 155 "WishSeaModel" "operand" "Z").before args s = true := hts _ (List.mem_of_getElem? (i := 5) rfl)
  have hinX7 : ∀ w ∈ u_ws RX7 TX7 92, w ∈ wsX7_reads := fun _ h => List.mem_cons_of_mem _ (List.mem_append_right _ h)
  refine lv_aload_n hx hb dX7_reads_0 rfl (lv_at hl 0 rfl) ?_
  have f_1_1 : iR (i 8) 0 6 := hI 8
  refine k_get (D := (dC, dI)) (ci := 7) (v := .int (i 8)) (C := RX7) (T := TX7) (N := 92) hx hb hts hinX7 hown hK hP 0 rfl rfl 8 (by decide) w_0 rfl rfl dX7_reads_1 ?_
  refine lv_if_le (tgt := 8) hx hb dX7_reads_4 (by decide) (fun c_4 => ?_) (fun c_4 => ?_)
  · have c_4 : (i 8) ≤ 0 := c_4
    have f_8_2 : iR (i 8) 0 0 := iR_leL c_4 f_1_1 (iR_c (n := 0) (a := 0) (b := 0) (by decide +kernel) (by decide +kernel)) (by decide +kernel)
    obtain d_4_1_0 := hpg1.resolve_left (i_lenl c_4)
    refine lv_aload_n hx hb dX7_reads_8 rfl (lv_at hl 0 rfl) ?_
    refine lv_iconst (v := 0) hx hb dX7_reads_9 (by decide +kernel) ?_
    refine k_put (D := (dC, dI)) (ci := 7) (v := .int 0) (C := RX7) (T := TX7) (N := 92) (ws' := [(h, .inr (7, oM r (upd i 43 0) j)), ((r 0), .inl (cI, 1800, .inl f0)), ((r 32), .inl (cI, 3200, .inl f32)), ((r 33), .inl (cI, 3200, .inl f33)), ((r 38), .inl (cI, 20, .inl f38)), ((r 39), .inl (cI, 20, .inl f39)), ((r 40), .inl (cZ, 20, .inl f40)), ((r 41), .inl (cI, 20, .inl f41)), ((r 42), .inl (cI, 20, .inl f42)), ((r 45), .inl (cI, 500, .inl f45))]) hx hb hts hinX7 tyX7 tyX7_ok nmX7 hown hK hP hD hS 0 rfl rfl 43 (by decide) w_1 rfl rfl rfl rfl (Nat.le_of_ble_eq_true rfl) rfl dX7_reads_10 (fun H locs hP hD hS => ?_)
    refine lv_aload_n hx hb dX7_reads_13 rfl (lv_at hl 0 rfl) ?_
    refine lv_iconst (v := 0) hx hb dX7_reads_14 (by decide +kernel) ?_
    refine k_put (D := (dC, dI)) (ci := 7) (v := .int 0) (C := RX7) (T := TX7) (N := 92) (ws' := [(h, .inr (7, oM r (upd (upd i 43 0) 44 0) j)), ((r 0), .inl (cI, 1800, .inl f0)), ((r 32), .inl (cI, 3200, .inl f32)), ((r 33), .inl (cI, 3200, .inl f33)), ((r 38), .inl (cI, 20, .inl f38)), ((r 39), .inl (cI, 20, .inl f39)), ((r 40), .inl (cZ, 20, .inl f40)), ((r 41), .inl (cI, 20, .inl f41)), ((r 42), .inl (cI, 20, .inl f42)), ((r 45), .inl (cI, 500, .inl f45))]) hx hb hts hinX7 tyX7 tyX7_ok nmX7 hown hK hP hD hS 0 rfl rfl 44 (by decide) w_2 rfl rfl rfl rfl (Nat.le_of_ble_eq_true rfl) rfl dX7_reads_15 (fun H locs hP hD hS => ?_)
    refine lv_aload_n hx hb dX7_reads_18 rfl (lv_at hl 0 rfl) ?_
    refine lv_iconst (v := 0) hx hb dX7_reads_19 (by decide +kernel) ?_
    refine k_put (D := (dC, dI)) (ci := 7) (v := .int 0) (C := RX7) (T := TX7) (N := 92) (ws' := [(h, .inr (7, oM r (upd (upd (upd i 43 0) 44 0) 46 0) j)), ((r 0), .inl (cI, 1800, .inl f0)), ((r 32), .inl (cI, 3200, .inl f32)), ((r 33), .inl (cI, 3200, .inl f33)), ((r 38), .inl (cI, 20, .inl f38)), ((r 39), .inl (cI, 20, .inl f39)), ((r 40), .inl (cZ, 20, .inl f40)), ((r 41), .inl (cI, 20, .inl f41)), ((r 42), .inl (cI, 20, .inl f42)), ((r 45), .inl (cI, 500, .inl f45))]) hx hb hts hinX7 tyX7 tyX7_ok nmX7 hown hK hP hD hS 0 rfl rfl 46 (by decide) w_3 rfl rfl rfl rfl (Nat.le_of_ble_eq_true rfl) rfl dX7_reads_20 (fun H locs hP hD hS => ?_)
    refine lv_aload_n hx hb dX7_reads_23 rfl (lv_at hl 0 rfl) ?_
    refine lv_iconst (v := 0) hx hb dX7_reads_24 (by decide +kernel) ?_
    refine k_put (D := (dC, dI)) (ci := 7) (v := .int 0) (C := RX7) (T := TX7) (N := 92) (ws' := [(h, .inr (7, oM r (upd (upd (upd (upd i 43 0) 44 0) 46 0) 47 0) j)), ((r 0), .inl (cI, 1800, .inl f0)), ((r 32), .inl (cI, 3200, .inl f32)), ((r 33), .inl (cI, 3200, .inl f33)), ((r 38), .inl (cI, 20, .inl f38)), ((r 39), .inl (cI, 20, .inl f39)), ((r 40), .inl (cZ, 20, .inl f40)), ((r 41), .inl (cI, 20, .inl f41)), ((r 42), .inl (cI, 20, .inl f42)), ((r 45), .inl (cI, 500, .inl f45))]) hx hb hts hinX7 tyX7 tyX7_ok nmX7 hown hK hP hD hS 0 rfl rfl 47 (by decide) w_4 rfl rfl rfl rfl (Nat.le_of_ble_eq_true rfl) rfl dX7_reads_25 (fun H locs hP hD hS => ?_)
    refine lv_aload_n hx hb dX7_reads_28 rfl (lv_at hl 0 rfl) ?_
    refine lv_iload_n hx hb dX7_reads_29 rfl (lv_at hl 1 rfl) ?_
    have J_38 : ∀ (j38_S0 : Int32) (hj38_S0 : iR j38_S0 0 1) (H : Heap) (locs : List Loc) (ls : Array Slot), va_P (dC, dI) vwCl [(h, .inr (7, oM r (upd (upd (upd (upd i 43 0) 44 0) 46 0) 47 0) j)), ((r 0), .inl (cI, 1800, .inl f0)), ((r 32), .inl (cI, 3200, .inl f32)), ((r 33), .inl (cI, 3200, .inl f33)), ((r 38), .inl (cI, 20, .inl f38)), ((r 39), .inl (cI, 20, .inl f39)), ((r 40), .inl (cZ, 20, .inl f40)), ((r 41), .inl (cI, 20, .inl f41)), ((r 42), .inl (cI, 20, .inl f42)), ((r 45), .inl (cI, 500, .inl f45))] H → va_D A [(h, .inr (7, oM r (upd (upd (upd (upd i 43 0) 44 0) 46 0) 47 0) j)), ((r 0), .inl (cI, 1800, .inl f0)), ((r 32), .inl (cI, 3200, .inl f32)), ((r 33), .inl (cI, 3200, .inl f33)), ((r 38), .inl (cI, 20, .inl f38)), ((r 39), .inl (cI, 20, .inl f39)), ((r 40), .inl (cZ, 20, .inl f40)), ((r 41), .inl (cI, 20, .inl f41)), ((r 42), .inl (cI, 20, .inl f42)), ((r 45), .inl (cI, 500, .inl f45))] → va_S A s.heap H locs → lv_has ls 3 [(0, .ref h)] → W p l e ({ frames := 5, cells := 0, slots := 0, locals := 131 }) s m args below meth c H locs 0 0 (MQ below (va_Qv (fun (u9 : SU) => ((u9.1 1) ≤ (u9.1 2)) ∧ (iR (u9.1 0) 0 3) ∧ (iR (u9.1 1) 0 1600) ∧ (iR (u9.1 2) 0 1600) ∧ (iR (u9.1 3) 0 9999) ∧ (iR (u9.1 4) 0 6) ∧ (iR (u9.1 7) 0 1600) ∧ (iR (u9.1 8) 0 8) ∧ (iR (u9.1 9) 0 7) ∧ (iR (u9.1 10) 0 48) ∧ (iR (u9.1 11) 0 1) ∧ (aR (u9.2.2.1 4) 0 1) ∧ (FRw 1600 (u9.2.2.1 0) f32 (i 37).toInt.toNat) ∧ (TM (u9.1 2) (u9.1 0) ≤ TM (i 5) (i 3)) ∧ ((i 4) ≤ (u9.1 1)) ∧ ((0 < (u9.1 4)) ∨ ((PF (u9.2.2.1 0) (u9.1 7).toInt.toNat (i 37).toInt.toNat (i 36).toInt.toNat (u9.1 1).toInt f32))) ∧ (((u9.1 0) = 0) ∨ (((u9.1 1) < (u9.1 2))))) (fun u => k_B (dC, dI) vwCl (tyy cI cJ cZ cM) A ((fun (u9 : SU) => [(h, .inr (7, oM r (upd (upd (upd (upd (upd (upd (upd (upd (upd (upd (upd (upd i 3 (u9.1 0)) 4 (u9.1 1)) 5 (u9.1 2)) 6 (u9.1 3)) 8 (u9.1 4)) 9 (u9.1 5)) 12 (u9.1 6)) 36 (u9.1 7)) 43 (u9.1 8)) 44 (u9.1 9)) 46 (u9.1 10)) 47 (u9.1 11)) (vp_updL j 7 (u9.2.1 0)))), ((r 0), .inl (cI, 1800, .inl f0)), ((r 32), .inl (cI, 3200, .inl (u9.2.2.1 0))), ((r 33), .inl (cI, 3200, .inl (u9.2.2.1 1))), ((r 38), .inl (cI, 20, .inl (u9.2.2.1 2))), ((r 39), .inl (cI, 20, .inl (u9.2.2.1 3))), ((r 40), .inl (cZ, 20, .inl (u9.2.2.1 4))), ((r 41), .inl (cI, 20, .inl (u9.2.2.1 5))), ((r 42), .inl (cI, 20, .inl (u9.2.2.1 6))), ((r 45), .inl (cI, 500, .inl (u9.2.2.1 7)))]) u)) A) args s 0 0 A) (F0 m 38 ls [.int j38_S0, .ref h]) := by
      intro j38_S0 hj38_S0 H locs ls hP hD hS hl
      refine k_cv (wc := [(h, .inr (7, oM r (upd (upd (upd (upd i 43 0) 44 0) 46 0) 47 0) j)), ((r 38), .inl (cI, 20, .inl f38)), ((r 39), .inl (cI, 20, .inl f39)), ((r 40), .inl (cZ, 20, .inl f40)), ((r 42), .inl (cI, 20, .inl f42))]) (wr := [((r 0), .inl (cI, 1800, .inl f0)), ((r 32), .inl (cI, 3200, .inl f32)), ((r 33), .inl (cI, 3200, .inl f33)), ((r 41), .inl (cI, 20, .inl f41)), ((r 45), .inl (cI, 500, .inl f45))]) (fun hPc hDc hFc => va_runV (As := [.int j38_S0]) (rest := []) ⟨hx, hb, hml, hown, hts⟩ (s_X7_pushes_v2 l dC dI cI cJ cZ cM h r (upd (upd (upd (upd i 43 0) 44 0) 46 0) 47 0) j j38_S0 f38 f39 f40 f42 (show iR 0 0 7 from (iR_c (n := 0) (a := 0) (b := 7) (by decide +kernel) (by decide +kernel))) (mR_upd 47 (mR_upd 46 (mR_upd 44 (mR_upd 43 hI (show iR _ (loI 43) (hiI 43) from (iR_c (n := 0) (a := 0) (b := 8) (by decide +kernel) (by decide +kernel)))) (show iR _ (loI 44) (hiI 44) from (iR_c (n := 0) (a := 0) (b := 7) (by decide +kernel) (by decide +kernel)))) (show iR _ (loI 46) (hiI 46) from (iR_c (n := 0) (a := 0) (b := 48) (by decide +kernel) (by decide +kernel)))) (show iR _ (loI 47) (hiI 47) from (iR_c (n := 0) (a := 0) (b := 1) (by decide +kernel) (by decide +kernel)))) hf40 H.size) (cwV 1 hts gX7_reads_X7_pushes rfl rfl rfl (by decide +kernel) ⟨(Nat.le_of_ble_eq_true rfl), (Nat.le_of_ble_eq_true rfl)⟩) (k_pV hPc hDc hK hN hC hS hFc hP (q0 := 0) (ci := 7) rfl rfl) rfl rfl hl.1 rfl (lv_room (Nat.le_of_ble_eq_true rfl)) dX7_reads_38 ⟨(Nat.le_of_ble_eq_true rfl), (Nat.le_of_ble_eq_true rfl)⟩) hP hD hS hA [0, 4, 5, 6, 8] [1, 2, 3, 7, 9] rfl rfl rfl rfl (by decide) (fun _ => rfl) 0 0 rfl rfl (fun u_38 H locs hw hP hD hS => ?_)
      obtain ⟨g_38_0, g_38_1⟩ := hw
      have hP : va_P (dC, dI) vwCl [((r 0), .inl (cI, 1800, .inl f0)), ((r 32), .inl (cI, 3200, .inl f32)), ((r 33), .inl (cI, 3200, .inl f33)), ((r 41), .inl (cI, 20, .inl f41)), ((r 45), .inl (cI, 500, .inl f45)), (h, .inr (7, oM r (upd (upd (upd (upd i 43 (u_38.1 0)) 44 0) 46 0) 47 0) j)), ((r 38), .inl (cI, 20, .inl (upd f38 0 j38_S0))), ((r 39), .inl (cI, 20, .inl (upd f39 0 0))), ((r 40), .inl (cZ, 20, .inl (upd f40 0 1))), ((r 42), .inl (cI, 20, .inl (upd f42 0 0)))] H := hP
      have hD : va_D A [((r 0), .inl (cI, 1800, .inl f0)), ((r 32), .inl (cI, 3200, .inl f32)), ((r 33), .inl (cI, 3200, .inl f33)), ((r 41), .inl (cI, 20, .inl f41)), ((r 45), .inl (cI, 500, .inl f45)), (h, .inr (7, oM r (upd (upd (upd (upd i 43 (u_38.1 0)) 44 0) 46 0) 47 0) j)), ((r 38), .inl (cI, 20, .inl (upd f38 0 j38_S0))), ((r 39), .inl (cI, 20, .inl (upd f39 0 0))), ((r 40), .inl (cZ, 20, .inl (upd f40 0 1))), ((r 42), .inl (cI, 20, .inl (upd f42 0 0)))] := hD
      have g_38_1 : (u_38.1 0).toInt = (0 : Int32).toInt + 1 := g_38_1
      refine lv_iconst (v := 1) hx hb dX7_reads_41 (by decide +kernel) ?_
      have J_43 : ∀ (n_43 : Nat) (j43_A2 : Nat → Int32) (j43_A3 : Nat → Int32) (j43_A4 : Nat → Int32) (j43_A5 : Nat → Int32) (j43_A6 : Nat → Int32) (j43_A7 : Nat → Int32) (j43_A8 : Nat → Int32) (j43_A9 : Nat → Int32) (j43_L2 : Int32) (j43_M0_3 : Int32) (j43_M0_4 : Int32) (j43_M0_5 : Int32) (j43_M0_6 : Int32) (j43_M0_7 : Int64) (j43_M0_8 : Int32) (j43_M0_9 : Int32) (j43_M0_12 : Int32) (j43_M0_36 : Int32) (j43_M0_43 : Int32) (j43_M0_44 : Int32) (j43_M0_46 : Int32) (j43_M0_47 : Int32) (hj43_A6 : aR j43_A6 0 1) (hj43_L2 : iR j43_L2 0 1) (hj43_M0_3 : iR j43_M0_3 0 3) (hj43_M0_4 : iR j43_M0_4 0 1600) (hj43_M0_5 : iR j43_M0_5 0 1600) (hj43_M0_6 : iR j43_M0_6 0 9999) (hj43_M0_8 : iR j43_M0_8 0 6) (hj43_M0_36 : iR j43_M0_36 0 1600) (hj43_M0_43 : iR j43_M0_43 0 8) (hj43_M0_44 : iR j43_M0_44 0 7) (hj43_M0_46 : iR j43_M0_46 0 48) (hj43_M0_47 : iR j43_M0_47 0 1) (t43_fr32 : FRw 1600 j43_A2 f32 (i 37).toInt.toNat) (t43_tm : TM j43_M0_5 j43_M0_3 ≤ TM (i 5) (i 3)) (t43_sa : (i 4) ≤ j43_M0_4) (v43_0 : j43_M0_4 ≤ j43_M0_5) (w43_0 : (j43_M0_3 = 0) ∨ ((j43_M0_4 < j43_M0_5))) (p43_0 : (j43_L2.toInt = 0 ∧ (0 < j43_M0_8 ∨ PF j43_A2 j43_M0_36.toInt.toNat (i 37).toInt.toNat ((i 36).toInt.toNat) j43_M0_4.toInt f32)) ∨ (¬ j43_L2.toInt = 0 ∧ ¬ 0 < j43_M0_8 ∧ PX j43_A4 j43_A5 j43_A6 j43_A7 j43_A8 j43_A9 j43_A2 j43_M0_43.toInt.toNat j43_M0_46.toInt.toNat j43_M0_44.toInt j43_M0_36.toInt.toNat (i 37).toInt.toNat j43_M0_4.toInt j43_M0_47.toInt ((i 36).toInt.toNat) f32)) (hm_43 : (if j43_L2.toInt = 0 then 0 else (TM j43_M0_5 j43_M0_3).toNat + 1) < n_43) (H : Heap) (locs : List Loc) (ls : Array Slot), va_P (dC, dI) vwCl [(h, .inr (7, oM r (upd (upd (upd (upd (upd (upd (upd (upd (upd (upd (upd (upd i 3 j43_M0_3) 4 j43_M0_4) 5 j43_M0_5) 6 j43_M0_6) 8 j43_M0_8) 9 j43_M0_9) 12 j43_M0_12) 36 j43_M0_36) 43 j43_M0_43) 44 j43_M0_44) 46 j43_M0_46) 47 j43_M0_47) (vp_updL j 7 j43_M0_7))), ((r 0), .inl (cI, 1800, .inl f0)), ((r 32), .inl (cI, 3200, .inl j43_A2)), ((r 33), .inl (cI, 3200, .inl j43_A3)), ((r 38), .inl (cI, 20, .inl j43_A4)), ((r 39), .inl (cI, 20, .inl j43_A5)), ((r 40), .inl (cZ, 20, .inl j43_A6)), ((r 41), .inl (cI, 20, .inl j43_A7)), ((r 42), .inl (cI, 20, .inl j43_A8)), ((r 45), .inl (cI, 500, .inl j43_A9))] H → va_D A [(h, .inr (7, oM r (upd (upd (upd (upd (upd (upd (upd (upd (upd (upd (upd (upd i 3 j43_M0_3) 4 j43_M0_4) 5 j43_M0_5) 6 j43_M0_6) 8 j43_M0_8) 9 j43_M0_9) 12 j43_M0_12) 36 j43_M0_36) 43 j43_M0_43) 44 j43_M0_44) 46 j43_M0_46) 47 j43_M0_47) (vp_updL j 7 j43_M0_7))), ((r 0), .inl (cI, 1800, .inl f0)), ((r 32), .inl (cI, 3200, .inl j43_A2)), ((r 33), .inl (cI, 3200, .inl j43_A3)), ((r 38), .inl (cI, 20, .inl j43_A4)), ((r 39), .inl (cI, 20, .inl j43_A5)), ((r 40), .inl (cZ, 20, .inl j43_A6)), ((r 41), .inl (cI, 20, .inl j43_A7)), ((r 42), .inl (cI, 20, .inl j43_A8)), ((r 45), .inl (cI, 500, .inl j43_A9))] → va_S A s.heap H locs → lv_has ls 3 [(0, .ref h), (2, .int j43_L2)] → W p l e ({ frames := 5, cells := 0, slots := 0, locals := 131 }) s m args below meth c H locs 0 0 (MQ below (va_Qv (fun (u9 : SU) => ((u9.1 1) ≤ (u9.1 2)) ∧ (iR (u9.1 0) 0 3) ∧ (iR (u9.1 1) 0 1600) ∧ (iR (u9.1 2) 0 1600) ∧ (iR (u9.1 3) 0 9999) ∧ (iR (u9.1 4) 0 6) ∧ (iR (u9.1 7) 0 1600) ∧ (iR (u9.1 8) 0 8) ∧ (iR (u9.1 9) 0 7) ∧ (iR (u9.1 10) 0 48) ∧ (iR (u9.1 11) 0 1) ∧ (aR (u9.2.2.1 4) 0 1) ∧ (FRw 1600 (u9.2.2.1 0) f32 (i 37).toInt.toNat) ∧ (TM (u9.1 2) (u9.1 0) ≤ TM (i 5) (i 3)) ∧ ((i 4) ≤ (u9.1 1)) ∧ ((0 < (u9.1 4)) ∨ ((PF (u9.2.2.1 0) (u9.1 7).toInt.toNat (i 37).toInt.toNat (i 36).toInt.toNat (u9.1 1).toInt f32))) ∧ (((u9.1 0) = 0) ∨ (((u9.1 1) < (u9.1 2))))) (fun u => k_B (dC, dI) vwCl (tyy cI cJ cZ cM) A ((fun (u9 : SU) => [(h, .inr (7, oM r (upd (upd (upd (upd (upd (upd (upd (upd (upd (upd (upd (upd i 3 (u9.1 0)) 4 (u9.1 1)) 5 (u9.1 2)) 6 (u9.1 3)) 8 (u9.1 4)) 9 (u9.1 5)) 12 (u9.1 6)) 36 (u9.1 7)) 43 (u9.1 8)) 44 (u9.1 9)) 46 (u9.1 10)) 47 (u9.1 11)) (vp_updL j 7 (u9.2.1 0)))), ((r 0), .inl (cI, 1800, .inl f0)), ((r 32), .inl (cI, 3200, .inl (u9.2.2.1 0))), ((r 33), .inl (cI, 3200, .inl (u9.2.2.1 1))), ((r 38), .inl (cI, 20, .inl (u9.2.2.1 2))), ((r 39), .inl (cI, 20, .inl (u9.2.2.1 3))), ((r 40), .inl (cZ, 20, .inl (u9.2.2.1 4))), ((r 41), .inl (cI, 20, .inl (u9.2.2.1 5))), ((r 42), .inl (cI, 20, .inl (u9.2.2.1 6))), ((r 45), .inl (cI, 500, .inl (u9.2.2.1 7)))]) u)) A) args s 0 0 A) (F0 m 43 ls []) := by
        intro n_43
        induction n_43 with
        | zero => intro j43_A2 j43_A3 j43_A4 j43_A5 j43_A6 j43_A7 j43_A8 j43_A9 j43_L2 j43_M0_3 j43_M0_4 j43_M0_5 j43_M0_6 j43_M0_7 j43_M0_8 j43_M0_9 j43_M0_12 j43_M0_36 j43_M0_43 j43_M0_44 j43_M0_46 j43_M0_47 hj43_A6 hj43_L2 hj43_M0_3 hj43_M0_4 hj43_M0_5 hj43_M0_6 hj43_M0_8 hj43_M0_36 hj43_M0_43 hj43_M0_44 hj43_M0_46 hj43_M0_47 t43_fr32 t43_tm t43_sa v43_0 w43_0 p43_0 hm_43; exact absurd hm_43 (Nat.not_lt_zero _)
        | succ n_43 ih_43 =>
          intro j43_A2 j43_A3 j43_A4 j43_A5 j43_A6 j43_A7 j43_A8 j43_A9 j43_L2 j43_M0_3 j43_M0_4 j43_M0_5 j43_M0_6 j43_M0_7 j43_M0_8 j43_M0_9 j43_M0_12 j43_M0_36 j43_M0_43 j43_M0_44 j43_M0_46 j43_M0_47 hj43_A6 hj43_L2 hj43_M0_3 hj43_M0_4 hj43_M0_5 hj43_M0_6 hj43_M0_8 hj43_M0_36 hj43_M0_43 hj43_M0_44 hj43_M0_46 hj43_M0_47 t43_fr32 t43_tm t43_sa v43_0 w43_0 p43_0 hm_43 H locs ls hP hD hS hl
          refine lv_iload_n hx hb dX7_reads_43 rfl (lv_at hl 1 rfl) ?_
          refine lv_if_eq (tgt := 90) hx hb dX7_reads_44 (by decide) (fun c_44 => ?_) (fun c_44 => ?_)
          · have c_44 : j43_L2 = 0 := c_44
            have f_90_1 : iR j43_L2 0 0 := iR_eqL c_44 hj43_L2 (iR_c (n := 0) (a := 0) (b := 0) (by decide +kernel) (by decide +kernel)) (by decide +kernel)
            exact k_rv B hP hD hS dX7_reads_90 ((fun k9 => match k9 with | 0 => j43_M0_3 | 1 => j43_M0_4 | 2 => j43_M0_5 | 3 => j43_M0_6 | 4 => j43_M0_8 | 5 => j43_M0_9 | 6 => j43_M0_12 | 7 => j43_M0_36 | 8 => j43_M0_43 | 9 => j43_M0_44 | 10 => j43_M0_46 | 11 => j43_M0_47 | _ => 0), (fun k9 => match k9 with | 0 => j43_M0_7 | _ => 0), (fun k9 => match k9 with | 0 => j43_A2 | 1 => j43_A3 | 2 => j43_A4 | 3 => j43_A5 | 4 => j43_A6 | 5 => j43_A7 | 6 => j43_A8 | 7 => j43_A9 | _ => (fun _ => 0)), (fun _ => (fun _ => 0)), (fun _ => 0)) [0, 1, 2, 3, 4, 5, 6, 7, 8, 9] rfl rfl (Nat.le_of_ble_eq_true rfl) (Nat.le_of_ble_eq_true rfl) ⟨(show j43_M0_4 ≤ j43_M0_5 from v43_0), (show iR j43_M0_3 0 3 from hj43_M0_3), (show iR j43_M0_4 0 1600 from hj43_M0_4), (show iR j43_M0_5 0 1600 from hj43_M0_5), (show iR j43_M0_6 0 9999 from hj43_M0_6), (show iR j43_M0_8 0 6 from hj43_M0_8), (show iR j43_M0_36 0 1600 from hj43_M0_36), (show iR j43_M0_43 0 8 from hj43_M0_43), (show iR j43_M0_44 0 7 from hj43_M0_44), (show iR j43_M0_46 0 48 from hj43_M0_46), (show iR j43_M0_47 0 1 from hj43_M0_47), (show aR j43_A6 0 1 from hj43_A6), (show FRw 1600 j43_A2 f32 (i 37).toInt.toNat from t43_fr32), (show TM j43_M0_5 j43_M0_3 ≤ TM (i 5) (i 3) from t43_tm), (show (i 4) ≤ j43_M0_4 from t43_sa), (show (0 < j43_M0_8) ∨ ((PF j43_A2 j43_M0_36.toInt.toNat (i 37).toInt.toNat (i 36).toInt.toNat j43_M0_4.toInt f32)) from (p43_0.elim (fun q9 => q9.2) (fun q9 => absurd (i_ti_eq rfl (by decide) c_44) q9.1))), (show (j43_M0_3 = 0) ∨ ((j43_M0_4 < j43_M0_5)) from w43_0)⟩
          · have c_44 : ¬ j43_L2 = 0 := c_44
            have f_47_1 : iR j43_L2 1 1 := iR_neL c_44 hj43_L2 (iR_c (n := 0) (a := 0) (b := 0) (by decide +kernel) (by decide +kernel)) (by decide +kernel)
            obtain ⟨_, hf_47, px_47⟩ := p43_0.resolve_left (fun q9 => i_ti_ne rfl (by decide) c_44 q9.1)
            have f_47_2 : iR j43_M0_8 0 0 := iR_leL (i_nlt hf_47) hj43_M0_8 (iR_c (n := 0) (a := 0) (b := 0) (by decide +kernel) (by decide +kernel)) (by decide +kernel)
            refine lv_aload_n hx hb dX7_reads_47 rfl (lv_at hl 0 rfl) ?_
            refine k_get (D := (dC, dI)) (ci := 7) (v := .int j43_M0_47) (C := RX7) (T := TX7) (N := 92) hx hb hts hinX7 hown hK hP 0 rfl rfl 47 (by decide) w_4 rfl rfl dX7_reads_48 ?_
            refine lv_if_ne (tgt := 65) hx hb dX7_reads_51 (by decide) (fun c_51 => ?_) (fun c_51 => ?_)
            · have c_51 : ¬ j43_M0_47 = 0 := c_51
              have f_65_3 : iR j43_M0_47 1 1 := iR_neL c_51 hj43_M0_47 (iR_c (n := 0) (a := 0) (b := 0) (by decide +kernel) (by decide +kernel)) (by decide +kernel)
              refine lv_aload_n hx hb dX7_reads_65 rfl (lv_at hl 0 rfl) ?_
              refine k_ci (wc := [(h, .inr (7, oM r (upd (upd (upd (upd (upd (upd (upd (upd (upd (upd (upd (upd i 3 j43_M0_3) 4 j43_M0_4) 5 j43_M0_5) 6 j43_M0_6) 8 j43_M0_8) 9 j43_M0_9) 12 j43_M0_12) 36 j43_M0_36) 43 j43_M0_43) 44 j43_M0_44) 46 j43_M0_46) 47 j43_M0_47) (vp_updL j 7 j43_M0_7))), ((r 0), .inl (cI, 1800, .inl f0)), ((r 32), .inl (cI, 3200, .inl j43_A2)), ((r 33), .inl (cI, 3200, .inl j43_A3)), ((r 38), .inl (cI, 20, .inl j43_A4)), ((r 39), .inl (cI, 20, .inl j43_A5)), ((r 40), .inl (cZ, 20, .inl j43_A6)), ((r 41), .inl (cI, 20, .inl j43_A7)), ((r 42), .inl (cI, 20, .inl j43_A8)), ((r 45), .inl (cI, 500, .inl j43_A9))]) (wr := []) (fun hPc hDc hFc => va_runV (As := []) (rest := []) ⟨hx, hb, hml, hown, hts⟩ (s_X7_goesOn_v1 l dC dI cI cJ cZ cM h r (upd (upd (upd (upd (upd (upd (upd (upd (upd (upd (upd (upd i 3 j43_M0_3) 4 j43_M0_4) 5 j43_M0_5) 6 j43_M0_6) 8 j43_M0_8) 9 j43_M0_9) 12 j43_M0_12) 36 j43_M0_36) 43 j43_M0_43) 44 j43_M0_44) 46 j43_M0_46) 47 j43_M0_47) (vp_updL j 7 j43_M0_7) f0 j43_A2 j43_A3 j43_A4 j43_A5 j43_A6 j43_A7 j43_A8 j43_A9 ((i 36).toInt.toNat) f32 (show iR j43_M0_47 1 1 from f_65_3) (mR_upd 47 (mR_upd 46 (mR_upd 44 (mR_upd 43 (mR_upd 36 (mR_upd 12 (mR_upd 9 (mR_upd 8 (mR_upd 6 (mR_upd 5 (mR_upd 4 (mR_upd 3 hI (show iR _ (loI 3) (hiI 3) from hj43_M0_3)) (show iR _ (loI 4) (hiI 4) from hj43_M0_4)) (show iR _ (loI 5) (hiI 5) from hj43_M0_5)) (show iR _ (loI 6) (hiI 6) from hj43_M0_6)) (show iR _ (loI 8) (hiI 8) from (iR_w f_47_2 (by decide +kernel)))) (show iR _ (loI 9) (hiI 9) from (iR_top _))) (show iR _ (loI 12) (hiI 12) from (iR_top _))) (show iR _ (loI 36) (hiI 36) from hj43_M0_36)) (show iR _ (loI 43) (hiI 43) from hj43_M0_43)) (show iR _ (loI 44) (hiI 44) from hj43_M0_44)) (show iR _ (loI 46) (hiI 46) from hj43_M0_46)) (show iR _ (loI 47) (hiI 47) from (iR_w f_65_3 (by decide +kernel)))) hf0 hj43_A6 w43_0 v43_0 (by have e9 : j43_M0_47.toInt = 1 := (by have q1 : 1 ≤ j43_M0_47.toInt ∧ j43_M0_47.toInt ≤ 1 := f_65_3; omega); have p9 := px_47; rw [e9] at p9; exact p9) H.size) (cwV 0 hts gX7_reads_X7_goesOn rfl rfl rfl (by decide +kernel) ⟨(Nat.le_of_ble_eq_true rfl), (Nat.le_of_ble_eq_true rfl)⟩) (k_pV hPc hDc hK hN hC hS hFc hP (q0 := 0) (ci := 7) rfl rfl) rfl rfl hl.1 rfl (lv_room (Nat.le_of_ble_eq_true rfl)) dX7_reads_66 ⟨(Nat.le_of_ble_eq_true rfl), (Nat.le_of_ble_eq_true rfl)⟩) hP hD hS hA [0, 1, 2, 3, 4, 5, 6, 7, 8, 9] [] rfl rfl rfl rfl (by decide) (fun _ => rfl) 0 0 rfl rfl (fun r_66 u_66 H locs hw hP hD hS => ?_)
              obtain ⟨g_66_0, g_66_1, g_66_2, g_66_3, g_66_4, g_66_5, g_66_6, g_66_7, g_66_8, g_66_9, g_66_10, g_66_11, g_66_12, g_66_13, g_66_14, g_66_15, g_66_16, g_66_17, g_66_18⟩ := hw
              have hP : va_P (dC, dI) vwCl [(h, .inr (7, oM r (upd (upd (upd (upd (upd (upd (upd (upd (upd (upd (upd (upd i 3 (u_66.1 0)) 4 (u_66.1 1)) 5 (u_66.1 2)) 6 (u_66.1 3)) 8 (u_66.1 4)) 9 (u_66.1 5)) 12 (u_66.1 6)) 36 (u_66.1 7)) 43 (u_66.1 8)) 44 (u_66.1 9)) 46 (u_66.1 10)) 47 (u_66.1 11)) (vp_updL j 7 (u_66.2.1 0)))), ((r 0), .inl (cI, 1800, .inl f0)), ((r 32), .inl (cI, 3200, .inl (u_66.2.2.1 0))), ((r 33), .inl (cI, 3200, .inl (u_66.2.2.1 1))), ((r 38), .inl (cI, 20, .inl (u_66.2.2.1 2))), ((r 39), .inl (cI, 20, .inl (u_66.2.2.1 3))), ((r 40), .inl (cZ, 20, .inl (u_66.2.2.1 4))), ((r 41), .inl (cI, 20, .inl j43_A7)), ((r 42), .inl (cI, 20, .inl j43_A8)), ((r 45), .inl (cI, 500, .inl (u_66.2.2.1 5)))] H := hP
              have hD : va_D A [(h, .inr (7, oM r (upd (upd (upd (upd (upd (upd (upd (upd (upd (upd (upd (upd i 3 (u_66.1 0)) 4 (u_66.1 1)) 5 (u_66.1 2)) 6 (u_66.1 3)) 8 (u_66.1 4)) 9 (u_66.1 5)) 12 (u_66.1 6)) 36 (u_66.1 7)) 43 (u_66.1 8)) 44 (u_66.1 9)) 46 (u_66.1 10)) 47 (u_66.1 11)) (vp_updL j 7 (u_66.2.1 0)))), ((r 0), .inl (cI, 1800, .inl f0)), ((r 32), .inl (cI, 3200, .inl (u_66.2.2.1 0))), ((r 33), .inl (cI, 3200, .inl (u_66.2.2.1 1))), ((r 38), .inl (cI, 20, .inl (u_66.2.2.1 2))), ((r 39), .inl (cI, 20, .inl (u_66.2.2.1 3))), ((r 40), .inl (cZ, 20, .inl (u_66.2.2.1 4))), ((r 41), .inl (cI, 20, .inl j43_A7)), ((r 42), .inl (cI, 20, .inl j43_A8)), ((r 45), .inl (cI, 500, .inl (u_66.2.2.1 5)))] := hD
              have g_66_1 : (u_66.1 1) ≤ (u_66.1 2) := g_66_1
              have g_66_13 : FRw 1600 (u_66.2.2.1 0) j43_A2 (i 37).toInt.toNat := g_66_13
              have g_66_14 : TM (u_66.1 2) (u_66.1 0) ≤ TM j43_M0_5 j43_M0_3 := g_66_14
              have g_66_15 : j43_M0_4 ≤ (u_66.1 1) := g_66_15
              have g_66_16 : (0 < (u_66.1 4)) ∨ (((r_66 = 0 ∧ PF (u_66.2.2.1 0) (u_66.1 7).toInt.toNat (i 37).toInt.toNat ((i 36).toInt.toNat) (u_66.1 1).toInt f32) ∨ (¬ r_66 = 0 ∧ PX (u_66.2.2.1 2) (u_66.2.2.1 3) (u_66.2.2.1 4) j43_A7 j43_A8 (u_66.2.2.1 5) (u_66.2.2.1 0) (u_66.1 8).toInt.toNat (u_66.1 10).toInt.toNat (u_66.1 9).toInt (u_66.1 7).toInt.toNat (i 37).toInt.toNat (u_66.1 1).toInt (u_66.1 11).toInt ((i 36).toInt.toNat) f32))) := g_66_16
              have g_66_17 : (0 < (u_66.1 4)) ∨ ((r_66 = 0 ∨ TM (u_66.1 2) (u_66.1 0) < TM j43_M0_5 j43_M0_3)) := g_66_17
              have g_66_18 : ((u_66.1 0) = 0) ∨ (((u_66.1 1) < (u_66.1 2))) := g_66_18
              refine lv_istore_n (lv' := [(2, .int r_66), (0, .ref h)]) hx hb dX7_reads_69 rfl hl (by decide) rfl (fun ls hl => ?_)
              refine lv_iload_n hx hb dX7_reads_70 rfl (lv_at hl 0 rfl) ?_
              refine lv_if_eq (tgt := 85) hx hb dX7_reads_71 (by decide) (fun c_71p69 => ?_) (fun c_71p69 => ?_)
              · have c_71p69 : r_66 = 0 := c_71p69
                have f_85p69_4 : iR r_66 0 0 := iR_eqL c_71p69 g_66_0 (iR_c (n := 0) (a := 0) (b := 0) (by decide +kernel) (by decide +kernel)) (by decide +kernel)
                refine lv_iconst (v := 0) hx hb dX7_reads_85 (by decide +kernel) ?_
                refine lv_istore_n (lv' := [(2, .int 0), (0, .ref h)]) hx hb dX7_reads_86 rfl hl (by decide) rfl (fun ls hl => ?_)
                refine lv_goto (tgt := 43) hx hb dX7_reads_87 (by decide) ?_
                exact ih_43 (u_66.2.2.1 0) (u_66.2.2.1 1) (u_66.2.2.1 2) (u_66.2.2.1 3) (u_66.2.2.1 4) j43_A7 j43_A8 (u_66.2.2.1 5) 0 (u_66.1 0) (u_66.1 1) (u_66.1 2) (u_66.1 3) (u_66.2.1 0) (u_66.1 4) (u_66.1 5) (u_66.1 6) (u_66.1 7) (u_66.1 8) (u_66.1 9) (u_66.1 10) (u_66.1 11) g_66_12 (iR_c (n := 0) (a := 0) (b := 1) (by decide +kernel) (by decide +kernel)) g_66_2 g_66_3 g_66_4 g_66_5 g_66_6 g_66_7 g_66_8 g_66_9 g_66_10 g_66_11 (FRw_tr g_66_13 t43_fr32) (Int.le_trans g_66_14 t43_tm) (i_lele2 t43_sa g_66_15) g_66_1 g_66_18 (show ((0 : Int32).toInt = 0 ∧ (0 < (u_66.1 4) ∨ PF (u_66.2.2.1 0) (u_66.1 7).toInt.toNat (i 37).toInt.toNat ((i 36).toInt.toNat) (u_66.1 1).toInt f32)) ∨ (¬ (0 : Int32).toInt = 0 ∧ ¬ 0 < (u_66.1 4) ∧ PX (u_66.2.2.1 2) (u_66.2.2.1 3) (u_66.2.2.1 4) j43_A7 j43_A8 (u_66.2.2.1 5) (u_66.2.2.1 0) (u_66.1 8).toInt.toNat (u_66.1 10).toInt.toNat (u_66.1 9).toInt (u_66.1 7).toInt.toNat (i 37).toInt.toNat (u_66.1 1).toInt (u_66.1 11).toInt ((i 36).toInt.toNat) f32) from (by rcases g_66_16 with z | z | z; exact Or.inl ⟨by decide, Or.inl z⟩; exact Or.inl ⟨by decide, Or.inr z.2⟩; exact absurd c_71p69 z.1)) (by have h9 := hm_43; rw [if_neg (i_ti_ne rfl (by decide) c_44)] at h9; rw [if_pos (by decide)]; omega) H locs ls hP hD hS (lv_sub hl [1, 0] rfl)
              · have c_71p69 : ¬ r_66 = 0 := c_71p69
                have f_74p69_4 : iR r_66 1 1 := iR_neL c_71p69 g_66_0 (iR_c (n := 0) (a := 0) (b := 0) (by decide +kernel) (by decide +kernel)) (by decide +kernel)
                refine lv_aload_n hx hb dX7_reads_74 rfl (lv_at hl 1 rfl) ?_
                refine k_get (D := (dC, dI)) (ci := 7) (v := .int (u_66.1 4)) (C := RX7) (T := TX7) (N := 92) hx hb hts hinX7 hown hK hP 0 rfl rfl 8 (by decide) w_0 rfl rfl dX7_reads_75 ?_
                refine lv_if_ne (tgt := 85) hx hb dX7_reads_78 (by decide) (fun c_78p69 => ?_) (fun c_78p69 => ?_)
                · have c_78p69 : ¬ (u_66.1 4) = 0 := c_78p69
                  have f_85p69_5 : iR (u_66.1 4) 1 6 := iR_neL c_78p69 g_66_6 (iR_c (n := 0) (a := 0) (b := 0) (by decide +kernel) (by decide +kernel)) (by decide +kernel)
                  refine lv_iconst (v := 0) hx hb dX7_reads_85 (by decide +kernel) ?_
                  refine lv_istore_n (lv' := [(2, .int 0), (0, .ref h)]) hx hb dX7_reads_86 rfl hl (by decide) rfl (fun ls hl => ?_)
                  refine lv_goto (tgt := 43) hx hb dX7_reads_87 (by decide) ?_
                  exact ih_43 (u_66.2.2.1 0) (u_66.2.2.1 1) (u_66.2.2.1 2) (u_66.2.2.1 3) (u_66.2.2.1 4) j43_A7 j43_A8 (u_66.2.2.1 5) 0 (u_66.1 0) (u_66.1 1) (u_66.1 2) (u_66.1 3) (u_66.2.1 0) (u_66.1 4) (u_66.1 5) (u_66.1 6) (u_66.1 7) (u_66.1 8) (u_66.1 9) (u_66.1 10) (u_66.1 11) g_66_12 (iR_c (n := 0) (a := 0) (b := 1) (by decide +kernel) (by decide +kernel)) g_66_2 g_66_3 g_66_4 g_66_5 (iR_w f_85p69_5 (by decide +kernel)) g_66_7 g_66_8 g_66_9 g_66_10 g_66_11 (FRw_tr g_66_13 t43_fr32) (Int.le_trans g_66_14 t43_tm) (i_lele2 t43_sa g_66_15) g_66_1 g_66_18 (show ((0 : Int32).toInt = 0 ∧ (0 < (u_66.1 4) ∨ PF (u_66.2.2.1 0) (u_66.1 7).toInt.toNat (i 37).toInt.toNat ((i 36).toInt.toNat) (u_66.1 1).toInt f32)) ∨ (¬ (0 : Int32).toInt = 0 ∧ ¬ 0 < (u_66.1 4) ∧ PX (u_66.2.2.1 2) (u_66.2.2.1 3) (u_66.2.2.1 4) j43_A7 j43_A8 (u_66.2.2.1 5) (u_66.2.2.1 0) (u_66.1 8).toInt.toNat (u_66.1 10).toInt.toNat (u_66.1 9).toInt (u_66.1 7).toInt.toNat (i 37).toInt.toNat (u_66.1 1).toInt (u_66.1 11).toInt ((i 36).toInt.toNat) f32) from (Or.inl ⟨by decide, Or.inl (i_ltf (iR_c (n := 0) (a := 0) (b := 0) (by decide +kernel) (by decide +kernel)) f_85p69_5 (by decide +kernel))⟩)) (by have h9 := hm_43; rw [if_neg (i_ti_ne rfl (by decide) c_44)] at h9; rw [if_pos (by decide)]; omega) H locs ls hP hD hS (lv_sub hl [1, 0] rfl)
                · have c_78p69 : (u_66.1 4) = 0 := c_78p69
                  have f_81p69_5 : iR (u_66.1 4) 0 0 := iR_eqL c_78p69 g_66_6 (iR_c (n := 0) (a := 0) (b := 0) (by decide +kernel) (by decide +kernel)) (by decide +kernel)
                  obtain d_78p69_2_0 := g_66_16.resolve_left (i_eqnl c_78p69)
                  obtain d_78p69_3_0 := g_66_17.resolve_left (i_eqnl c_78p69)
                  refine lv_iconst (v := 1) hx hb dX7_reads_81 (by decide +kernel) ?_
                  refine lv_goto (tgt := 86) hx hb dX7_reads_82 (by decide) ?_
                  refine lv_istore_n (lv' := [(2, .int 1), (0, .ref h)]) hx hb dX7_reads_86 rfl hl (by decide) rfl (fun ls hl => ?_)
                  refine lv_goto (tgt := 43) hx hb dX7_reads_87 (by decide) ?_
                  exact ih_43 (u_66.2.2.1 0) (u_66.2.2.1 1) (u_66.2.2.1 2) (u_66.2.2.1 3) (u_66.2.2.1 4) j43_A7 j43_A8 (u_66.2.2.1 5) 1 (u_66.1 0) (u_66.1 1) (u_66.1 2) (u_66.1 3) (u_66.2.1 0) (u_66.1 4) (u_66.1 5) (u_66.1 6) (u_66.1 7) (u_66.1 8) (u_66.1 9) (u_66.1 10) (u_66.1 11) g_66_12 (iR_c (n := 1) (a := 0) (b := 1) (by decide +kernel) (by decide +kernel)) g_66_2 g_66_3 g_66_4 g_66_5 (iR_w f_81p69_5 (by decide +kernel)) g_66_7 g_66_8 g_66_9 g_66_10 g_66_11 (FRw_tr g_66_13 t43_fr32) (Int.le_trans g_66_14 t43_tm) (i_lele2 t43_sa g_66_15) g_66_1 g_66_18 (show ((1 : Int32).toInt = 0 ∧ (0 < (u_66.1 4) ∨ PF (u_66.2.2.1 0) (u_66.1 7).toInt.toNat (i 37).toInt.toNat ((i 36).toInt.toNat) (u_66.1 1).toInt f32)) ∨ (¬ (1 : Int32).toInt = 0 ∧ ¬ 0 < (u_66.1 4) ∧ PX (u_66.2.2.1 2) (u_66.2.2.1 3) (u_66.2.2.1 4) j43_A7 j43_A8 (u_66.2.2.1 5) (u_66.2.2.1 0) (u_66.1 8).toInt.toNat (u_66.1 10).toInt.toNat (u_66.1 9).toInt (u_66.1 7).toInt.toNat (i 37).toInt.toNat (u_66.1 1).toInt (u_66.1 11).toInt ((i 36).toInt.toNat) f32) from (by rcases d_78p69_2_0 with z | z; exact absurd z.1 c_71p69; exact Or.inr ⟨by decide, i_lenl (i_lef f_81p69_5 (iR_c (n := 0) (a := 0) (b := 0) (by decide +kernel) (by decide +kernel)) (by decide +kernel)), z.2⟩)) (by have h9 := hm_43; rw [if_neg (i_ti_ne rfl (by decide) c_44)] at h9; have n9 := TM_nn (s := (u_66.1 0)) (show (u_66.1 2).toInt ≤ 1600 from (by have q1 : 0 ≤ (u_66.1 2).toInt ∧ (u_66.1 2).toInt ≤ 1600 := g_66_4; omega)); rw [if_neg (by decide)]; omega) H locs ls hP hD hS (lv_sub hl [1, 0] rfl)
            · have c_51 : j43_M0_47 = 0 := c_51
              have f_54_3 : iR j43_M0_47 0 0 := iR_eqL c_51 hj43_M0_47 (iR_c (n := 0) (a := 0) (b := 0) (by decide +kernel) (by decide +kernel)) (by decide +kernel)
              refine lv_aload_n hx hb dX7_reads_54 rfl (lv_at hl 0 rfl) ?_
              refine lv_aload_n hx hb dX7_reads_55 rfl (lv_at hl 0 rfl) ?_
              refine k_ci (wc := [(h, .inr (7, oM r (upd (upd (upd (upd (upd (upd (upd (upd (upd (upd (upd (upd i 3 j43_M0_3) 4 j43_M0_4) 5 j43_M0_5) 6 j43_M0_6) 8 j43_M0_8) 9 j43_M0_9) 12 j43_M0_12) 36 j43_M0_36) 43 j43_M0_43) 44 j43_M0_44) 46 j43_M0_46) 47 j43_M0_47) (vp_updL j 7 j43_M0_7))), ((r 0), .inl (cI, 1800, .inl f0)), ((r 32), .inl (cI, 3200, .inl j43_A2)), ((r 33), .inl (cI, 3200, .inl j43_A3)), ((r 38), .inl (cI, 20, .inl j43_A4)), ((r 39), .inl (cI, 20, .inl j43_A5)), ((r 40), .inl (cZ, 20, .inl j43_A6)), ((r 41), .inl (cI, 20, .inl j43_A7)), ((r 42), .inl (cI, 20, .inl j43_A8)), ((r 45), .inl (cI, 500, .inl j43_A9))]) (wr := []) (fun hPc hDc hFc => va_runV (As := []) (rest := [.ref h]) ⟨hx, hb, hml, hown, hts⟩ (s_X7_operand_v1 l dC dI cI cJ cZ cM h r (upd (upd (upd (upd (upd (upd (upd (upd (upd (upd (upd (upd i 3 j43_M0_3) 4 j43_M0_4) 5 j43_M0_5) 6 j43_M0_6) 8 j43_M0_8) 9 j43_M0_9) 12 j43_M0_12) 36 j43_M0_36) 43 j43_M0_43) 44 j43_M0_44) 46 j43_M0_46) 47 j43_M0_47) (vp_updL j 7 j43_M0_7) f0 j43_A2 j43_A3 j43_A4 j43_A5 j43_A6 j43_A7 j43_A8 j43_A9 ((i 36).toInt.toNat) f32 (mR_upd 47 (mR_upd 46 (mR_upd 44 (mR_upd 43 (mR_upd 36 (mR_upd 12 (mR_upd 9 (mR_upd 8 (mR_upd 6 (mR_upd 5 (mR_upd 4 (mR_upd 3 hI (show iR _ (loI 3) (hiI 3) from hj43_M0_3)) (show iR _ (loI 4) (hiI 4) from hj43_M0_4)) (show iR _ (loI 5) (hiI 5) from hj43_M0_5)) (show iR _ (loI 6) (hiI 6) from hj43_M0_6)) (show iR _ (loI 8) (hiI 8) from (iR_w f_47_2 (by decide +kernel)))) (show iR _ (loI 9) (hiI 9) from (iR_top _))) (show iR _ (loI 12) (hiI 12) from (iR_top _))) (show iR _ (loI 36) (hiI 36) from hj43_M0_36)) (show iR _ (loI 43) (hiI 43) from hj43_M0_43)) (show iR _ (loI 44) (hiI 44) from hj43_M0_44)) (show iR _ (loI 46) (hiI 46) from hj43_M0_46)) (show iR _ (loI 47) (hiI 47) from (iR_w f_54_3 (by decide +kernel)))) hf0 hj43_A6 w43_0 v43_0 (by have e9 : j43_M0_47.toInt = 0 := (by have q1 : 0 ≤ j43_M0_47.toInt ∧ j43_M0_47.toInt ≤ 0 := f_54_3; omega); have p9 := px_47; rw [e9] at p9; exact p9) H.size) (cwV 0 hts gX7_reads_X7_operand rfl rfl rfl (by decide +kernel) ⟨(Nat.le_of_ble_eq_true rfl), (Nat.le_of_ble_eq_true rfl)⟩) (k_pV hPc hDc hK hN hC hS hFc hP (q0 := 0) (ci := 7) rfl rfl) rfl rfl hl.1 rfl (lv_room (Nat.le_of_ble_eq_true rfl)) dX7_reads_56 ⟨(Nat.le_of_ble_eq_true rfl), (Nat.le_of_ble_eq_true rfl)⟩) hP hD hS hA [0, 1, 2, 3, 4, 5, 6, 7, 8, 9] [] rfl rfl rfl rfl (by decide) (fun _ => rfl) 0 0 rfl rfl (fun r_56 u_56 H locs hw hP hD hS => ?_)
              obtain ⟨g_56_0, g_56_1, g_56_2, g_56_3, g_56_4, g_56_5, g_56_6, g_56_7, g_56_8, g_56_9, g_56_10, g_56_11, g_56_12, g_56_13, g_56_14, g_56_15, g_56_16, g_56_17⟩ := hw
              have hP : va_P (dC, dI) vwCl [(h, .inr (7, oM r (upd (upd (upd (upd (upd (upd (upd (upd (upd (upd (upd (upd i 3 (u_56.1 0)) 4 (u_56.1 1)) 5 (u_56.1 2)) 6 (u_56.1 3)) 8 (u_56.1 4)) 9 (u_56.1 5)) 12 (u_56.1 6)) 36 (u_56.1 7)) 43 (u_56.1 8)) 44 (u_56.1 9)) 46 (u_56.1 10)) 47 j43_M0_47) (vp_updL j 7 (u_56.2.1 0)))), ((r 0), .inl (cI, 1800, .inl f0)), ((r 32), .inl (cI, 3200, .inl (u_56.2.2.1 0))), ((r 33), .inl (cI, 3200, .inl (u_56.2.2.1 1))), ((r 38), .inl (cI, 20, .inl (u_56.2.2.1 2))), ((r 39), .inl (cI, 20, .inl (u_56.2.2.1 3))), ((r 40), .inl (cZ, 20, .inl (u_56.2.2.1 4))), ((r 41), .inl (cI, 20, .inl (u_56.2.2.1 5))), ((r 42), .inl (cI, 20, .inl (u_56.2.2.1 6))), ((r 45), .inl (cI, 500, .inl (u_56.2.2.1 7)))] H := hP
              have hD : va_D A [(h, .inr (7, oM r (upd (upd (upd (upd (upd (upd (upd (upd (upd (upd (upd (upd i 3 (u_56.1 0)) 4 (u_56.1 1)) 5 (u_56.1 2)) 6 (u_56.1 3)) 8 (u_56.1 4)) 9 (u_56.1 5)) 12 (u_56.1 6)) 36 (u_56.1 7)) 43 (u_56.1 8)) 44 (u_56.1 9)) 46 (u_56.1 10)) 47 j43_M0_47) (vp_updL j 7 (u_56.2.1 0)))), ((r 0), .inl (cI, 1800, .inl f0)), ((r 32), .inl (cI, 3200, .inl (u_56.2.2.1 0))), ((r 33), .inl (cI, 3200, .inl (u_56.2.2.1 1))), ((r 38), .inl (cI, 20, .inl (u_56.2.2.1 2))), ((r 39), .inl (cI, 20, .inl (u_56.2.2.1 3))), ((r 40), .inl (cZ, 20, .inl (u_56.2.2.1 4))), ((r 41), .inl (cI, 20, .inl (u_56.2.2.1 5))), ((r 42), .inl (cI, 20, .inl (u_56.2.2.1 6))), ((r 45), .inl (cI, 500, .inl (u_56.2.2.1 7)))] := hD
              have g_56_1 : (u_56.1 1) ≤ (u_56.1 2) := g_56_1
              have g_56_12 : FRw 1600 (u_56.2.2.1 0) j43_A2 (i 37).toInt.toNat := g_56_12
              have g_56_13 : TM (u_56.1 2) (u_56.1 0) ≤ TM j43_M0_5 j43_M0_3 := g_56_13
              have g_56_14 : j43_M0_4 ≤ (u_56.1 1) := g_56_14
              have g_56_15 : (0 < (u_56.1 4)) ∨ ((PX (u_56.2.2.1 2) (u_56.2.2.1 3) (u_56.2.2.1 4) (u_56.2.2.1 5) (u_56.2.2.1 6) (u_56.2.2.1 7) (u_56.2.2.1 0) (u_56.1 8).toInt.toNat (u_56.1 10).toInt.toNat (u_56.1 9).toInt (u_56.1 7).toInt.toNat (i 37).toInt.toNat (u_56.1 1).toInt r_56.toInt ((i 36).toInt.toNat) f32)) := g_56_15
              have g_56_16 : (0 < (u_56.1 4)) ∨ ((TM (u_56.1 2) (u_56.1 0) < TM j43_M0_5 j43_M0_3)) := g_56_16
              have g_56_17 : ((u_56.1 0) = 0) ∨ (((u_56.1 1) < (u_56.1 2))) := g_56_17
              refine k_put (D := (dC, dI)) (ci := 7) (v := .int r_56) (C := RX7) (T := TX7) (N := 92) (ws' := [(h, .inr (7, oM r (upd (upd (upd (upd (upd (upd (upd (upd (upd (upd (upd (upd i 3 (u_56.1 0)) 4 (u_56.1 1)) 5 (u_56.1 2)) 6 (u_56.1 3)) 8 (u_56.1 4)) 9 (u_56.1 5)) 12 (u_56.1 6)) 36 (u_56.1 7)) 43 (u_56.1 8)) 44 (u_56.1 9)) 46 (u_56.1 10)) 47 r_56) (vp_updL j 7 (u_56.2.1 0)))), ((r 0), .inl (cI, 1800, .inl f0)), ((r 32), .inl (cI, 3200, .inl (u_56.2.2.1 0))), ((r 33), .inl (cI, 3200, .inl (u_56.2.2.1 1))), ((r 38), .inl (cI, 20, .inl (u_56.2.2.1 2))), ((r 39), .inl (cI, 20, .inl (u_56.2.2.1 3))), ((r 40), .inl (cZ, 20, .inl (u_56.2.2.1 4))), ((r 41), .inl (cI, 20, .inl (u_56.2.2.1 5))), ((r 42), .inl (cI, 20, .inl (u_56.2.2.1 6))), ((r 45), .inl (cI, 500, .inl (u_56.2.2.1 7)))]) hx hb hts hinX7 tyX7 tyX7_ok nmX7 hown hK hP hD hS 0 rfl rfl 47 (by decide) w_4 rfl rfl (s_nz g_56_0) (s_fz g_56_0) (Nat.le_of_ble_eq_true rfl) rfl dX7_reads_59 (fun H locs hP hD hS => ?_)
              refine lv_goto (tgt := 70) hx hb dX7_reads_62 (by decide) ?_
              refine lv_iload_n hx hb dX7_reads_70 rfl (lv_at hl 1 rfl) ?_
              refine lv_if_eq (tgt := 85) hx hb dX7_reads_71 (by decide) (fun c_71p62 => ?_) (fun c_71p62 => ?_)
              · exact iR_cl (iR_eqL (a' := 1) (b' := 0) c_71p62 f_47_1 (iR_c (n := 0) (a := 0) (b := 0) (by decide +kernel) (by decide +kernel)) (by decide +kernel)) (by decide +kernel)
              · have c_71p62 : ¬ j43_L2 = 0 := c_71p62
                refine lv_aload_n hx hb dX7_reads_74 rfl (lv_at hl 0 rfl) ?_
                refine k_get (D := (dC, dI)) (ci := 7) (v := .int (u_56.1 4)) (C := RX7) (T := TX7) (N := 92) hx hb hts hinX7 hown hK hP 0 rfl rfl 8 (by decide) w_0 rfl rfl dX7_reads_75 ?_
                refine lv_if_ne (tgt := 85) hx hb dX7_reads_78 (by decide) (fun c_78p62 => ?_) (fun c_78p62 => ?_)
                · have c_78p62 : ¬ (u_56.1 4) = 0 := c_78p62
                  have f_85p62_4 : iR (u_56.1 4) 1 6 := iR_neL c_78p62 g_56_6 (iR_c (n := 0) (a := 0) (b := 0) (by decide +kernel) (by decide +kernel)) (by decide +kernel)
                  refine lv_iconst (v := 0) hx hb dX7_reads_85 (by decide +kernel) ?_
                  refine lv_istore_n (lv' := [(2, .int 0), (0, .ref h)]) hx hb dX7_reads_86 rfl hl (by decide) rfl (fun ls hl => ?_)
                  refine lv_goto (tgt := 43) hx hb dX7_reads_87 (by decide) ?_
                  exact ih_43 (u_56.2.2.1 0) (u_56.2.2.1 1) (u_56.2.2.1 2) (u_56.2.2.1 3) (u_56.2.2.1 4) (u_56.2.2.1 5) (u_56.2.2.1 6) (u_56.2.2.1 7) 0 (u_56.1 0) (u_56.1 1) (u_56.1 2) (u_56.1 3) (u_56.2.1 0) (u_56.1 4) (u_56.1 5) (u_56.1 6) (u_56.1 7) (u_56.1 8) (u_56.1 9) (u_56.1 10) r_56 g_56_11 (iR_c (n := 0) (a := 0) (b := 1) (by decide +kernel) (by decide +kernel)) g_56_2 g_56_3 g_56_4 g_56_5 (iR_w f_85p62_4 (by decide +kernel)) g_56_7 g_56_8 g_56_9 g_56_10 g_56_0 (FRw_tr g_56_12 t43_fr32) (Int.le_trans g_56_13 t43_tm) (i_lele2 t43_sa g_56_14) g_56_1 g_56_17 (show ((0 : Int32).toInt = 0 ∧ (0 < (u_56.1 4) ∨ PF (u_56.2.2.1 0) (u_56.1 7).toInt.toNat (i 37).toInt.toNat ((i 36).toInt.toNat) (u_56.1 1).toInt f32)) ∨ (¬ (0 : Int32).toInt = 0 ∧ ¬ 0 < (u_56.1 4) ∧ PX (u_56.2.2.1 2) (u_56.2.2.1 3) (u_56.2.2.1 4) (u_56.2.2.1 5) (u_56.2.2.1 6) (u_56.2.2.1 7) (u_56.2.2.1 0) (u_56.1 8).toInt.toNat (u_56.1 10).toInt.toNat (u_56.1 9).toInt (u_56.1 7).toInt.toNat (i 37).toInt.toNat (u_56.1 1).toInt r_56.toInt ((i 36).toInt.toNat) f32) from (Or.inl ⟨by decide, Or.inl (i_ltf (iR_c (n := 0) (a := 0) (b := 0) (by decide +kernel) (by decide +kernel)) f_85p62_4 (by decide +kernel))⟩)) (by have h9 := hm_43; rw [if_neg (i_ti_ne rfl (by decide) c_71p62)] at h9; rw [if_pos (by decide)]; omega) H locs ls hP hD hS (lv_sub hl [1, 0] rfl)
                · have c_78p62 : (u_56.1 4) = 0 := c_78p62
                  have f_81p62_4 : iR (u_56.1 4) 0 0 := iR_eqL c_78p62 g_56_6 (iR_c (n := 0) (a := 0) (b := 0) (by decide +kernel) (by decide +kernel)) (by decide +kernel)
                  obtain d_78p62_2_0 := g_56_15.resolve_left (i_eqnl c_78p62)
                  obtain d_78p62_3_0 := g_56_16.resolve_left (i_eqnl c_78p62)
                  refine lv_iconst (v := 1) hx hb dX7_reads_81 (by decide +kernel) ?_
                  refine lv_goto (tgt := 86) hx hb dX7_reads_82 (by decide) ?_
                  refine lv_istore_n (lv' := [(2, .int 1), (0, .ref h)]) hx hb dX7_reads_86 rfl hl (by decide) rfl (fun ls hl => ?_)
                  refine lv_goto (tgt := 43) hx hb dX7_reads_87 (by decide) ?_
                  exact ih_43 (u_56.2.2.1 0) (u_56.2.2.1 1) (u_56.2.2.1 2) (u_56.2.2.1 3) (u_56.2.2.1 4) (u_56.2.2.1 5) (u_56.2.2.1 6) (u_56.2.2.1 7) 1 (u_56.1 0) (u_56.1 1) (u_56.1 2) (u_56.1 3) (u_56.2.1 0) (u_56.1 4) (u_56.1 5) (u_56.1 6) (u_56.1 7) (u_56.1 8) (u_56.1 9) (u_56.1 10) r_56 g_56_11 (iR_c (n := 1) (a := 0) (b := 1) (by decide +kernel) (by decide +kernel)) g_56_2 g_56_3 g_56_4 g_56_5 (iR_w f_81p62_4 (by decide +kernel)) g_56_7 g_56_8 g_56_9 g_56_10 g_56_0 (FRw_tr g_56_12 t43_fr32) (Int.le_trans g_56_13 t43_tm) (i_lele2 t43_sa g_56_14) g_56_1 g_56_17 (show ((1 : Int32).toInt = 0 ∧ (0 < (u_56.1 4) ∨ PF (u_56.2.2.1 0) (u_56.1 7).toInt.toNat (i 37).toInt.toNat ((i 36).toInt.toNat) (u_56.1 1).toInt f32)) ∨ (¬ (1 : Int32).toInt = 0 ∧ ¬ 0 < (u_56.1 4) ∧ PX (u_56.2.2.1 2) (u_56.2.2.1 3) (u_56.2.2.1 4) (u_56.2.2.1 5) (u_56.2.2.1 6) (u_56.2.2.1 7) (u_56.2.2.1 0) (u_56.1 8).toInt.toNat (u_56.1 10).toInt.toNat (u_56.1 9).toInt (u_56.1 7).toInt.toNat (i 37).toInt.toNat (u_56.1 1).toInt r_56.toInt ((i 36).toInt.toNat) f32) from (Or.inr ⟨by decide, i_lenl (i_lef f_81p62_4 (iR_c (n := 0) (a := 0) (b := 0) (by decide +kernel) (by decide +kernel)) (by decide +kernel)), d_78p62_2_0⟩)) (by have h9 := hm_43; rw [if_neg (i_ti_ne rfl (by decide) c_71p62)] at h9; have n9 := TM_nn (s := (u_56.1 0)) (show (u_56.1 2).toInt ≤ 1600 from (by have q1 : 0 ≤ (u_56.1 2).toInt ∧ (u_56.1 2).toInt ≤ 1600 := g_56_4; omega)); rw [if_neg (by decide)]; omega) H locs ls hP hD hS (lv_sub hl [1, 0] rfl)
      refine lv_istore_n (lv' := [(2, .int 1), (0, .ref h)]) hx hb dX7_reads_42 rfl hl (by decide) rfl (fun ls hl => ?_)
      exact J_43 _ f32 f33 (upd f38 0 j38_S0) (upd f39 0 0) (upd f40 0 1) f41 (upd f42 0 0) f45 1 (i 3) (i 4) (i 5) (i 6) (j 7) (i 8) (i 9) (i 12) (i 36) (u_38.1 0) 0 0 0 (aR_upd _ hf40 (iR_c (n := 1) (a := 0) (b := 1) (by decide +kernel) (by decide +kernel))) (iR_c (n := 1) (a := 0) (b := 1) (by decide +kernel) (by decide +kernel)) (show iR (i 3) 0 3 from hI 3) (show iR (i 4) 0 1600 from hI 4) (show iR (i 5) 0 1600 from hI 5) (show iR (i 6) 0 9999 from hI 6) (iR_w f_8_2 (by decide +kernel)) (show iR (i 36) 0 1600 from hI 36) (iR_w g_38_0 (by decide +kernel)) (iR_c (n := 0) (a := 0) (b := 7) (by decide +kernel) (by decide +kernel)) (iR_c (n := 0) (a := 0) (b := 48) (by decide +kernel) (by decide +kernel)) (iR_c (n := 0) (a := 0) (b := 1) (by decide +kernel) (by decide +kernel)) FRw_refl (Int.le_refl _) (Int32.le_refl _) hr0 hpg0 (show ((1 : Int32).toInt = 0 ∧ (0 < (i 8) ∨ PF f32 (i 36).toInt.toNat (i 37).toInt.toNat ((i 36).toInt.toNat) (i 4).toInt f32)) ∨ (¬ (1 : Int32).toInt = 0 ∧ ¬ 0 < (i 8) ∧ PX (upd f38 0 j38_S0) (upd f39 0 0) (upd f40 0 1) f41 (upd f42 0 0) f45 f32 (u_38.1 0).toInt.toNat 0 0 (i 36).toInt.toNat (i 37).toInt.toNat (i 4).toInt (0 : Int32).toInt ((i 36).toInt.toNat) f32) from (by refine Or.inr ⟨by decide, i_lenl c_4, ?_⟩; have e9 : (u_38.1 0).toInt.toNat = 1 := (by have g9 := g_38_1; have z : (0 : Int32).toInt = 0 := (by decide); omega); rw [e9]; have q1 : 0 ≤ j38_S0.toInt ∧ j38_S0.toInt ≤ 1 := hj38_S0; have f0 : ((upd f38 0 j38_S0) 0).toInt = j38_S0.toInt := (by rw [i_upeq]); have q2 : 0 ≤ (i 36).toInt ∧ (i 36).toInt ≤ 1600 := (show iR (i 36) 0 1600 from hI 36); have q3 : 0 ≤ (i 4).toInt ∧ (i 4).toInt ≤ 1600 := (show iR (i 4) 0 1600 from hI 4); have h9 := i_ti_le rfl rfl d_4_1_0; exact PX_init (by rw [i_upeq]; decide) (by rw [f0]; omega) (by rw [f0]; omega) (by omega) (by omega))) (Nat.lt_succ_self _) H locs ls (hP.sub [5, 0, 1, 2, 6, 7, 8, 3, 9, 4] rfl) (hD.sub [5, 0, 1, 2, 6, 7, 8, 3, 9, 4] (by decide +kernel) rfl) hS (lv_sub hl [1, 0] rfl)
    refine lv_if_eq (tgt := 37) hx hb dX7_reads_30 (by decide) (fun c_30 => ?_) (fun c_30 => ?_)
    · have c_30 : x1 = 0 := c_30
      have f_37_3 : iR x1 0 0 := iR_eqL c_30 (iR_top _) (iR_c (n := 0) (a := 0) (b := 0) (by decide +kernel) (by decide +kernel)) (by decide +kernel)
      refine lv_iconst (v := 0) hx hb dX7_reads_37 (by decide +kernel) ?_
      exact J_38 0 (iR_c (n := 0) (a := 0) (b := 1) (by decide +kernel) (by decide +kernel)) H locs ls hP hD hS (lv_sub hl [0] rfl)
    · have c_30 : ¬ x1 = 0 := c_30
      refine lv_iconst (v := 1) hx hb dX7_reads_33 (by decide +kernel) ?_
      refine lv_goto (tgt := 38) hx hb dX7_reads_34 (by decide) ?_
      exact J_38 1 (iR_c (n := 1) (a := 0) (b := 1) (by decide +kernel) (by decide +kernel)) H locs ls hP hD hS (lv_sub hl [0] rfl)
  · have c_4 : 0 < (i 8) := i_nle c_4
    have f_7_2 : iR (i 8) 1 6 := iR_ltR c_4 (iR_c (n := 0) (a := 0) (b := 0) (by decide +kernel) (by decide +kernel)) f_1_1 (by decide +kernel)
    exact k_rv B hP hD hS dX7_reads_7 ((fun k9 => match k9 with | 0 => (i 3) | 1 => (i 4) | 2 => (i 5) | 3 => (i 6) | 4 => (i 8) | 5 => (i 9) | 6 => (i 12) | 7 => (i 36) | 8 => (i 43) | 9 => (i 44) | 10 => (i 46) | 11 => (i 47) | _ => 0), (fun k9 => match k9 with | 0 => (j 7) | _ => 0), (fun k9 => match k9 with | 0 => f32 | 1 => f33 | 2 => f38 | 3 => f39 | 4 => f40 | 5 => f41 | 6 => f42 | 7 => f45 | _ => (fun _ => 0)), (fun _ => (fun _ => 0)), (fun _ => 0)) [0, 1, 2, 3, 4, 5, 6, 7, 8, 9] rfl rfl (Nat.le_of_ble_eq_true rfl) (Nat.le_of_ble_eq_true rfl) ⟨(show (i 4) ≤ (i 5) from hr0), (show iR (i 3) 0 3 from (hI 3)), (show iR (i 4) 0 1600 from (hI 4)), (show iR (i 5) 0 1600 from (hI 5)), (show iR (i 6) 0 9999 from (hI 6)), (show iR (i 8) 0 6 from (iR_w f_7_2 (by decide +kernel))), (show iR (i 36) 0 1600 from (hI 36)), (show iR (i 43) 0 8 from (hI 43)), (show iR (i 44) 0 7 from (hI 44)), (show iR (i 46) 0 48 from (hI 46)), (show iR (i 47) 0 1 from (hI 47)), (show aR f40 0 1 from hf40), (show FRw 1600 f32 f32 (i 37).toInt.toNat from FRw_refl), (show TM (i 5) (i 3) ≤ TM (i 5) (i 3) from (Int.le_refl _)), (show (i 4) ≤ (i 4) from (Int32.le_refl _)), (show (0 < (i 8)) ∨ ((PF f32 (i 36).toInt.toNat (i 37).toInt.toNat (i 36).toInt.toNat (i 4).toInt f32)) from (Or.inl c_4)), (show ((i 3) = 0) ∨ (((i 4) < (i 5))) from hpg0)⟩
set_option maxHeartbeats 8000000 in
set_option maxRecDepth 100000 in
theorem s_X7_fault_v0 (l : Launch) (dC : Nat → ClassId) (dI : Nat → Nat → Nat) (cI cJ cZ cM : ClassId) (h : Nat) (r : Nat → Nat) (i : Nat → Int32) (j : Nat → Int64) (x1 : Int32) (hI : mR i) : k_Mi l yX7_fault wsX7_fault ({ frames := 1, cells := 0, slots := 0, locals := 40 }) (dC, dI) vwCl (tyy cI cJ cZ cM) [(h, .inr (7, oM r i j))] [.ref h, .int x1] 0 0 (fun (u9 : Unit) => [(h, .inr (7, oM r i j))]) (fun (r9 : Int32) (u9 : Unit) => True) := by
  refine fun sz => k_enter (cc := cX7_fault) (maxL := 2) (ret := some (.int)) (Qc := fun A => va_Qi (fun (r9 : Int32) (u9 : Unit) => True) (fun u => k_B (dC, dI) vwCl (tyy cI cJ cZ cM) A ((fun (u9 : Unit) => [(h, .inr (7, oM r i j))]) u)) A) sz (by decide +kernel) rfl (Nat.le_of_ble_eq_true rfl) (fun p e s m args below meth c A ls H locs B hP hD hS hl => ?_)
  obtain ⟨hx, hb, hml, hown, hts, hr, hlk, hnm, hK, hA, hN, hC⟩ := id B
  have hown : s.vm.findClass RX7 = some m.cls := hown
  have hl : lv_has ls 2 [(0, .ref h), (1, .int x1)] := hl
  have w_0 : (Cond.fieldLink RX7 45 "WishSeaModel" "toldPlace" "I").before args s = true := hts _ (List.mem_of_getElem? (i := 2) rfl)
  have w_1 : (Cond.fieldLink RX7 42 "WishSeaModel" "toldKind" "I").before args s = true := hts _ (List.mem_of_getElem? (i := 1) rfl)
  have hinX7 : ∀ w ∈ u_ws RX7 TX7 92, w ∈ wsX7_fault := fun _ h => List.mem_cons_of_mem _ (List.mem_append_right _ h)
  refine lv_iload_n hx hb dX7_fault_0 rfl (lv_at hl 1 rfl) ?_
  refine lv_if_ne (tgt := 11) hx hb dX7_fault_1 (by decide) (fun c_1 => ?_) (fun c_1 => ?_)
  · have c_1 : ¬ x1 = 0 := c_1
    refine lv_iload_n hx hb dX7_fault_11 rfl (lv_at hl 1 rfl) ?_
    refine lv_iconst (v := 1) hx hb dX7_fault_12 (by decide +kernel) ?_
    refine lv_icmp_ne (tgt := 23) hx hb dX7_fault_13 (by decide) (fun c_13 => ?_) (fun c_13 => ?_)
    · have c_13 : ¬ x1 = 1 := c_13
      refine lv_iconst (v := (-1)) hx hb dX7_fault_23 (by decide +kernel) ?_
      exact k_ri B hP hD hS dX7_fault_24 () [0] rfl rfl rfl (Nat.le_of_ble_eq_true rfl) (Nat.le_of_ble_eq_true rfl) trivial
    · have c_13 : x1 = 1 := c_13
      have f_16_1 : iR x1 1 1 := iR_eqL c_13 (iR_top _) (iR_c (n := 1) (a := 1) (b := 1) (by decide +kernel) (by decide +kernel)) (by decide +kernel)
      refine lv_aload_n hx hb dX7_fault_16 rfl (lv_at hl 0 rfl) ?_
      refine k_get (D := (dC, dI)) (ci := 7) (v := .int (i 11)) (C := RX7) (T := TX7) (N := 92) hx hb hts hinX7 hown hK hP 0 rfl rfl 11 (by decide) w_0 rfl rfl dX7_fault_17 ?_
      refine lv_goto (tgt := 24) hx hb dX7_fault_20 (by decide) ?_
      exact k_ri B hP hD hS dX7_fault_24 () [0] rfl rfl rfl (Nat.le_of_ble_eq_true rfl) (Nat.le_of_ble_eq_true rfl) trivial
  · have c_1 : x1 = 0 := c_1
    have f_4_1 : iR x1 0 0 := iR_eqL c_1 (iR_top _) (iR_c (n := 0) (a := 0) (b := 0) (by decide +kernel) (by decide +kernel)) (by decide +kernel)
    refine lv_aload_n hx hb dX7_fault_4 rfl (lv_at hl 0 rfl) ?_
    refine k_get (D := (dC, dI)) (ci := 7) (v := .int (i 10)) (C := RX7) (T := TX7) (N := 92) hx hb hts hinX7 hown hK hP 0 rfl rfl 10 (by decide) w_1 rfl rfl dX7_fault_5 ?_
    refine lv_goto (tgt := 24) hx hb dX7_fault_8 (by decide) ?_
    exact k_ri B hP hD hS dX7_fault_24 () [0] rfl rfl rfl (Nat.le_of_ble_eq_true rfl) (Nat.le_of_ble_eq_true rfl) trivial
set_option maxHeartbeats 8000000 in
set_option maxRecDepth 100000 in
theorem s_X7_asks_v0 (l : Launch) (dC : Nat → ClassId) (dI : Nat → Nat → Nat) (cI cJ cZ cM : ClassId) (h : Nat) (r : Nat → Nat) (i : Nat → Int32) (j : Nat → Int64) (x1 : Int32) (x2 : Int32) (x3 : Int32) (x4 : Int32) (hI : mR i) : k_Mv l yX7_asks wsX7_asks ({ frames := 1, cells := 0, slots := 0, locals := 40 }) (dC, dI) vwCl (tyy cI cJ cZ cM) [(h, .inr (7, oM r i j))] [.ref h, .int x1, .int x2, .int x3, .int x4] 0 0 (fun (u9 : Unit) => [(h, .inr (7, oM r (upd (upd (upd (upd i 62 x1) 63 x2) 64 x3) 65 x4) j))]) (fun (u9 : Unit) => True) := by
  refine fun sz => k_enter (cc := cX7_asks) (maxL := 5) (ret := none) (Qc := fun A => va_Qv (fun (u9 : Unit) => True) (fun u => k_B (dC, dI) vwCl (tyy cI cJ cZ cM) A ((fun (u9 : Unit) => [(h, .inr (7, oM r (upd (upd (upd (upd i 62 x1) 63 x2) 64 x3) 65 x4) j))]) u)) A) sz (by decide +kernel) rfl (Nat.le_of_ble_eq_true rfl) (fun p e s m args below meth c A ls H locs B hP hD hS hl => ?_)
  obtain ⟨hx, hb, hml, hown, hts, hr, hlk, hnm, hK, hA, hN, hC⟩ := id B
  have hown : s.vm.findClass RX7 = some m.cls := hown
  have hl : lv_has ls 5 [(0, .ref h), (1, .int x1), (2, .int x2), (3, .int x3), (4, .int x4)] := hl
  have w_0 : (Cond.fieldLink RX7 201 "WishSeaModel" "askedHad" "I").before args s = true := hts _ (List.mem_of_getElem? (i := 1) rfl)
  have w_1 : (Cond.fieldLink RX7 204 "WishSeaModel" "askedSea" "I").before args s = true := hts _ (List.mem_of_getElem? (i := 2) rfl)
  have w_2 : (Cond.fieldLink RX7 207 "WishSeaModel" "askedSaid" "I").before args s = true := hts _ (List.mem_of_getElem? (i := 3) rfl)
  have w_3 : (Cond.fieldLink RX7 210 "WishSeaModel" "askedDay" "I").before args s = true := hts _ (List.mem_of_getElem? (i := 4) rfl)
  have hinX7 : ∀ w ∈ u_ws RX7 TX7 92, w ∈ wsX7_asks := fun _ h => List.mem_cons_of_mem _ (List.mem_append_right _ h)
  refine lv_aload_n hx hb dX7_asks_0 rfl (lv_at hl 0 rfl) ?_
  refine lv_iload_n hx hb dX7_asks_1 rfl (lv_at hl 1 rfl) ?_
  refine k_put (D := (dC, dI)) (ci := 7) (v := .int x1) (C := RX7) (T := TX7) (N := 92) (ws' := [(h, .inr (7, oM r (upd i 62 x1) j))]) hx hb hts hinX7 tyX7 tyX7_ok nmX7 hown hK hP hD hS 0 rfl rfl 62 (by decide) w_0 rfl rfl rfl rfl (Nat.le_of_ble_eq_true rfl) rfl dX7_asks_2 (fun H locs hP hD hS => ?_)
  refine lv_aload_n hx hb dX7_asks_5 rfl (lv_at hl 0 rfl) ?_
  refine lv_iload_n hx hb dX7_asks_6 rfl (lv_at hl 2 rfl) ?_
  refine k_put (D := (dC, dI)) (ci := 7) (v := .int x2) (C := RX7) (T := TX7) (N := 92) (ws' := [(h, .inr (7, oM r (upd (upd i 62 x1) 63 x2) j))]) hx hb hts hinX7 tyX7 tyX7_ok nmX7 hown hK hP hD hS 0 rfl rfl 63 (by decide) w_1 rfl rfl rfl rfl (Nat.le_of_ble_eq_true rfl) rfl dX7_asks_7 (fun H locs hP hD hS => ?_)
  refine lv_aload_n hx hb dX7_asks_10 rfl (lv_at hl 0 rfl) ?_
  refine lv_iload_n hx hb dX7_asks_11 rfl (lv_at hl 3 rfl) ?_
  refine k_put (D := (dC, dI)) (ci := 7) (v := .int x3) (C := RX7) (T := TX7) (N := 92) (ws' := [(h, .inr (7, oM r (upd (upd (upd i 62 x1) 63 x2) 64 x3) j))]) hx hb hts hinX7 tyX7 tyX7_ok nmX7 hown hK hP hD hS 0 rfl rfl 64 (by decide) w_2 rfl rfl rfl rfl (Nat.le_of_ble_eq_true rfl) rfl dX7_asks_12 (fun H locs hP hD hS => ?_)
  refine lv_aload_n hx hb dX7_asks_15 rfl (lv_at hl 0 rfl) ?_
  refine lv_iload hx hb dX7_asks_16 (lv_at hl 4 rfl) ?_
  refine k_put (D := (dC, dI)) (ci := 7) (v := .int x4) (C := RX7) (T := TX7) (N := 92) (ws' := [(h, .inr (7, oM r (upd (upd (upd (upd i 62 x1) 63 x2) 64 x3) 65 x4) j))]) hx hb hts hinX7 tyX7 tyX7_ok nmX7 hown hK hP hD hS 0 rfl rfl 65 (by decide) w_3 rfl rfl rfl rfl (Nat.le_of_ble_eq_true rfl) rfl dX7_asks_18 (fun H locs hP hD hS => ?_)
  exact k_rv B hP hD hS dX7_asks_21 () [0] rfl rfl (Nat.le_of_ble_eq_true rfl) (Nat.le_of_ble_eq_true rfl) trivial
set_option maxHeartbeats 8000000 in
set_option maxRecDepth 100000 in
theorem s_X7_asks_v1 (l : Launch) (dC : Nat → ClassId) (dI : Nat → Nat → Nat) (cI cJ cZ cM : ClassId) (h : Nat) (r : Nat → Nat) (i : Nat → Int32) (j : Nat → Int64) (x1 : Int32) (x2 : Int32) (x3 : Int32) (x4 : Int32) (hI : mR i) : k_Mv l yX7_asks wsX7_asks ({ frames := 1, cells := 0, slots := 0, locals := 40 }) (dC, dI) vwCl (tyy cI cJ cZ cM) [(h, .inr (7, oM r i j))] [.ref h, .int x1, .int x2, .int x3, .int x4] 0 0 (fun (u9 : Unit) => [(h, .inr (7, oM r (upd (upd (upd (upd i 62 x1) 63 x2) 64 x3) 65 x4) j))]) (fun (u9 : Unit) => True) := by
  refine fun sz => k_enter (cc := cX7_asks) (maxL := 5) (ret := none) (Qc := fun A => va_Qv (fun (u9 : Unit) => True) (fun u => k_B (dC, dI) vwCl (tyy cI cJ cZ cM) A ((fun (u9 : Unit) => [(h, .inr (7, oM r (upd (upd (upd (upd i 62 x1) 63 x2) 64 x3) 65 x4) j))]) u)) A) sz (by decide +kernel) rfl (Nat.le_of_ble_eq_true rfl) (fun p e s m args below meth c A ls H locs B hP hD hS hl => ?_)
  obtain ⟨hx, hb, hml, hown, hts, hr, hlk, hnm, hK, hA, hN, hC⟩ := id B
  have hown : s.vm.findClass RX7 = some m.cls := hown
  have hl : lv_has ls 5 [(0, .ref h), (1, .int x1), (2, .int x2), (3, .int x3), (4, .int x4)] := hl
  have w_0 : (Cond.fieldLink RX7 201 "WishSeaModel" "askedHad" "I").before args s = true := hts _ (List.mem_of_getElem? (i := 1) rfl)
  have w_1 : (Cond.fieldLink RX7 204 "WishSeaModel" "askedSea" "I").before args s = true := hts _ (List.mem_of_getElem? (i := 2) rfl)
  have w_2 : (Cond.fieldLink RX7 207 "WishSeaModel" "askedSaid" "I").before args s = true := hts _ (List.mem_of_getElem? (i := 3) rfl)
  have w_3 : (Cond.fieldLink RX7 210 "WishSeaModel" "askedDay" "I").before args s = true := hts _ (List.mem_of_getElem? (i := 4) rfl)
  have hinX7 : ∀ w ∈ u_ws RX7 TX7 92, w ∈ wsX7_asks := fun _ h => List.mem_cons_of_mem _ (List.mem_append_right _ h)
  refine lv_aload_n hx hb dX7_asks_0 rfl (lv_at hl 0 rfl) ?_
  refine lv_iload_n hx hb dX7_asks_1 rfl (lv_at hl 1 rfl) ?_
  refine k_put (D := (dC, dI)) (ci := 7) (v := .int x1) (C := RX7) (T := TX7) (N := 92) (ws' := [(h, .inr (7, oM r (upd i 62 x1) j))]) hx hb hts hinX7 tyX7 tyX7_ok nmX7 hown hK hP hD hS 0 rfl rfl 62 (by decide) w_0 rfl rfl rfl rfl (Nat.le_of_ble_eq_true rfl) rfl dX7_asks_2 (fun H locs hP hD hS => ?_)
  refine lv_aload_n hx hb dX7_asks_5 rfl (lv_at hl 0 rfl) ?_
  refine lv_iload_n hx hb dX7_asks_6 rfl (lv_at hl 2 rfl) ?_
  refine k_put (D := (dC, dI)) (ci := 7) (v := .int x2) (C := RX7) (T := TX7) (N := 92) (ws' := [(h, .inr (7, oM r (upd (upd i 62 x1) 63 x2) j))]) hx hb hts hinX7 tyX7 tyX7_ok nmX7 hown hK hP hD hS 0 rfl rfl 63 (by decide) w_1 rfl rfl rfl rfl (Nat.le_of_ble_eq_true rfl) rfl dX7_asks_7 (fun H locs hP hD hS => ?_)
  refine lv_aload_n hx hb dX7_asks_10 rfl (lv_at hl 0 rfl) ?_
  refine lv_iload_n hx hb dX7_asks_11 rfl (lv_at hl 3 rfl) ?_
  refine k_put (D := (dC, dI)) (ci := 7) (v := .int x3) (C := RX7) (T := TX7) (N := 92) (ws' := [(h, .inr (7, oM r (upd (upd (upd i 62 x1) 63 x2) 64 x3) j))]) hx hb hts hinX7 tyX7 tyX7_ok nmX7 hown hK hP hD hS 0 rfl rfl 64 (by decide) w_2 rfl rfl rfl rfl (Nat.le_of_ble_eq_true rfl) rfl dX7_asks_12 (fun H locs hP hD hS => ?_)
  refine lv_aload_n hx hb dX7_asks_15 rfl (lv_at hl 0 rfl) ?_
  refine lv_iload hx hb dX7_asks_16 (lv_at hl 4 rfl) ?_
  refine k_put (D := (dC, dI)) (ci := 7) (v := .int x4) (C := RX7) (T := TX7) (N := 92) (ws' := [(h, .inr (7, oM r (upd (upd (upd (upd i 62 x1) 63 x2) 64 x3) 65 x4) j))]) hx hb hts hinX7 tyX7 tyX7_ok nmX7 hown hK hP hD hS 0 rfl rfl 65 (by decide) w_3 rfl rfl rfl rfl (Nat.le_of_ble_eq_true rfl) rfl dX7_asks_18 (fun H locs hP hD hS => ?_)
  exact k_rv B hP hD hS dX7_asks_21 () [0] rfl rfl (Nat.le_of_ble_eq_true rfl) (Nat.le_of_ble_eq_true rfl) trivial
set_option maxHeartbeats 8000000 in
set_option maxRecDepth 100000 in
theorem s_X7_asksLayer_v0 (l : Launch) (dC : Nat → ClassId) (dI : Nat → Nat → Nat) (cI cJ cZ cM : ClassId) (h : Nat) (r : Nat → Nat) (i : Nat → Int32) (j : Nat → Int64) (x1 : Int32) (f49 : Nat → Int32) (f50 : Nat → Int32) (f51 : Nat → Int32) (f52 : Nat → Int32) (hx1 : iR x1 0 21) (hI : mR i) (hf49 : aR f49 0 1023) (hf50 : aR f50 0 999) : k_Mv l yX7_asksLayer wsX7_asksLayer ({ frames := 2, cells := 0, slots := 0, locals := 64 }) (dC, dI) vwCl (tyy cI cJ cZ cM) [(h, .inr (7, oM r i j)), ((r 49), .inl (cI, 22, .inl f49)), ((r 50), .inl (cI, 22, .inl f50)), ((r 51), .inl (cI, 22, .inl f51)), ((r 52), .inl (cI, 22, .inl f52))] [.ref h, .int x1] 0 0 (fun (u9 : Unit) => [(h, .inr (7, oM r (upd (upd (upd (upd i 62 (f49 x1.toNatClampNeg)) 63 (f50 x1.toNatClampNeg)) 64 (f51 x1.toNatClampNeg)) 65 (f52 x1.toNatClampNeg)) j)), ((r 49), .inl (cI, 22, .inl f49)), ((r 50), .inl (cI, 22, .inl f50)), ((r 51), .inl (cI, 22, .inl f51)), ((r 52), .inl (cI, 22, .inl f52))]) (fun (u9 : Unit) => True) := by
  refine fun sz => k_enter (cc := cX7_asksLayer) (maxL := 2) (ret := none) (Qc := fun A => va_Qv (fun (u9 : Unit) => True) (fun u => k_B (dC, dI) vwCl (tyy cI cJ cZ cM) A ((fun (u9 : Unit) => [(h, .inr (7, oM r (upd (upd (upd (upd i 62 (f49 x1.toNatClampNeg)) 63 (f50 x1.toNatClampNeg)) 64 (f51 x1.toNatClampNeg)) 65 (f52 x1.toNatClampNeg)) j)), ((r 49), .inl (cI, 22, .inl f49)), ((r 50), .inl (cI, 22, .inl f50)), ((r 51), .inl (cI, 22, .inl f51)), ((r 52), .inl (cI, 22, .inl f52))]) u)) A) sz (by decide +kernel) rfl (Nat.le_of_ble_eq_true rfl) (fun p e s m args below meth c A ls H locs B hP hD hS hl => ?_)
  obtain ⟨hx, hb, hml, hown, hts, hr, hlk, hnm, hK, hA, hN, hC⟩ := id B
  have hown : s.vm.findClass RX7 = some m.cls := hown
  have hl : lv_has ls 2 [(0, .ref h), (1, .int x1)] := hl
  have w_0 : (Cond.fieldLink RX7 162 "WishSeaModel" "hadOf" "[I").before args s = true := hts _ (List.mem_of_getElem? (i := 1) rfl)
  have w_1 : (Cond.fieldLink RX7 165 "WishSeaModel" "seaOf" "[I").before args s = true := hts _ (List.mem_of_getElem? (i := 2) rfl)
  have w_2 : (Cond.fieldLink RX7 168 "WishSeaModel" "saidOf" "[I").before args s = true := hts _ (List.mem_of_getElem? (i := 3) rfl)
  have w_3 : (Cond.fieldLink RX7 171 "WishSeaModel" "dayOf" "[I").before args s = true := hts _ (List.mem_of_getElem? (i := 4) rfl)
  have hinX7 : ∀ w ∈ u_ws RX7 TX7 92, w ∈ wsX7_asksLayer := fun _ h => List.mem_cons_of_mem _ (List.mem_append_right _ h)
  refine lv_aload_n hx hb dX7_asksLayer_0 rfl (lv_at hl 0 rfl) ?_
  refine lv_aload_n hx hb dX7_asksLayer_1 rfl (lv_at hl 0 rfl) ?_
  refine k_get (D := (dC, dI)) (ci := 7) (v := .ref (r 49)) (C := RX7) (T := TX7) (N := 92) hx hb hts hinX7 hown hK hP 0 rfl rfl 49 (by decide) w_0 rfl rfl dX7_asksLayer_2 ?_
  refine lv_iload_n hx hb dX7_asksLayer_5 rfl (lv_at hl 1 rfl) ?_
  refine va_iald hx hb hK hP 1 0 rfl rfl (iR_vp hx1 (by decide +kernel)) dX7_asksLayer_6 ?_
  have f_6_1 : iR (f49 x1.toNatClampNeg) 0 1023 := hf49 _
  refine lv_aload_n hx hb dX7_asksLayer_7 rfl (lv_at hl 0 rfl) ?_
  refine k_get (D := (dC, dI)) (ci := 7) (v := .ref (r 50)) (C := RX7) (T := TX7) (N := 92) hx hb hts hinX7 hown hK hP 0 rfl rfl 50 (by decide) w_1 rfl rfl dX7_asksLayer_8 ?_
  refine lv_iload_n hx hb dX7_asksLayer_11 rfl (lv_at hl 1 rfl) ?_
  refine va_iald hx hb hK hP 2 0 rfl rfl (iR_vp hx1 (by decide +kernel)) dX7_asksLayer_12 ?_
  have f_12_2 : iR (f50 x1.toNatClampNeg) 0 999 := hf50 _
  refine lv_aload_n hx hb dX7_asksLayer_13 rfl (lv_at hl 0 rfl) ?_
  refine k_get (D := (dC, dI)) (ci := 7) (v := .ref (r 51)) (C := RX7) (T := TX7) (N := 92) hx hb hts hinX7 hown hK hP 0 rfl rfl 51 (by decide) w_2 rfl rfl dX7_asksLayer_14 ?_
  refine lv_iload_n hx hb dX7_asksLayer_17 rfl (lv_at hl 1 rfl) ?_
  refine va_iald hx hb hK hP 3 0 rfl rfl (iR_vp hx1 (by decide +kernel)) dX7_asksLayer_18 ?_
  refine lv_aload_n hx hb dX7_asksLayer_19 rfl (lv_at hl 0 rfl) ?_
  refine k_get (D := (dC, dI)) (ci := 7) (v := .ref (r 52)) (C := RX7) (T := TX7) (N := 92) hx hb hts hinX7 hown hK hP 0 rfl rfl 52 (by decide) w_3 rfl rfl dX7_asksLayer_20 ?_
  refine lv_iload_n hx hb dX7_asksLayer_23 rfl (lv_at hl 1 rfl) ?_
  refine va_iald hx hb hK hP 4 0 rfl rfl (iR_vp hx1 (by decide +kernel)) dX7_asksLayer_24 ?_
  refine k_cv (wc := [(h, .inr (7, oM r i j))]) (wr := [((r 49), .inl (cI, 22, .inl f49)), ((r 50), .inl (cI, 22, .inl f50)), ((r 51), .inl (cI, 22, .inl f51)), ((r 52), .inl (cI, 22, .inl f52))]) (fun hPc hDc hFc => va_runV (As := [.int (f49 x1.toNatClampNeg), .int (f50 x1.toNatClampNeg), .int (f51 x1.toNatClampNeg), .int (f52 x1.toNatClampNeg)]) (rest := []) ⟨hx, hb, hml, hown, hts⟩ (s_X7_asks_v1 l dC dI cI cJ cZ cM h r i j (f49 x1.toNatClampNeg) (f50 x1.toNatClampNeg) (f51 x1.toNatClampNeg) (f52 x1.toNatClampNeg) hI H.size) (cwV 4 hts gX7_asksLayer_X7_asks rfl rfl rfl (by decide +kernel) ⟨(Nat.le_of_ble_eq_true rfl), (Nat.le_of_ble_eq_true rfl)⟩) (k_pV hPc hDc hK hN hC hS hFc hP (q0 := 0) (ci := 7) rfl rfl) rfl rfl hl.1 rfl (lv_room (Nat.le_of_ble_eq_true rfl)) dX7_asksLayer_25 ⟨(Nat.le_of_ble_eq_true rfl), (Nat.le_of_ble_eq_true rfl)⟩) hP hD hS hA [0] [1, 2, 3, 4] rfl rfl rfl rfl (by decide) (fun _ => rfl) 0 0 rfl rfl (fun u_25 H locs hw hP hD hS => ?_)
  have hP : va_P (dC, dI) vwCl [((r 49), .inl (cI, 22, .inl f49)), ((r 50), .inl (cI, 22, .inl f50)), ((r 51), .inl (cI, 22, .inl f51)), ((r 52), .inl (cI, 22, .inl f52)), (h, .inr (7, oM r (upd (upd (upd (upd i 62 (f49 x1.toNatClampNeg)) 63 (f50 x1.toNatClampNeg)) 64 (f51 x1.toNatClampNeg)) 65 (f52 x1.toNatClampNeg)) j))] H := hP
  have hD : va_D A [((r 49), .inl (cI, 22, .inl f49)), ((r 50), .inl (cI, 22, .inl f50)), ((r 51), .inl (cI, 22, .inl f51)), ((r 52), .inl (cI, 22, .inl f52)), (h, .inr (7, oM r (upd (upd (upd (upd i 62 (f49 x1.toNatClampNeg)) 63 (f50 x1.toNatClampNeg)) 64 (f51 x1.toNatClampNeg)) 65 (f52 x1.toNatClampNeg)) j))] := hD
  exact k_rv B hP hD hS dX7_asksLayer_28 () [4, 0, 1, 2, 3] rfl rfl (Nat.le_of_ble_eq_true rfl) (Nat.le_of_ble_eq_true rfl) trivial
set_option maxHeartbeats 8000000 in
set_option maxRecDepth 100000 in
theorem s_X7_holds_v0 (l : Launch) (dC : Nat → ClassId) (dI : Nat → Nat → Nat) (cI cJ cZ cM : ClassId) (x0 : Int32) (x1 : Int32)  : k_Mi l yX7_holds wsX7_holds ({ frames := 1, cells := 0, slots := 0, locals := 40 }) (dC, dI) vwCl (tyy cI cJ cZ cM) [] [.int x0, .int x1] 0 0 (fun (u9 : Unit) => []) (fun (r9 : Int32) (u9 : Unit) => (iR r9 0 1)) := by
  refine fun sz => k_enter (cc := cX7_holds) (maxL := 2) (ret := some (.boolean)) (Qc := fun A => va_Qi (fun (r9 : Int32) (u9 : Unit) => (iR r9 0 1)) (fun u => k_B (dC, dI) vwCl (tyy cI cJ cZ cM) A ((fun (u9 : Unit) => []) u)) A) sz (by decide +kernel) rfl (Nat.le_of_ble_eq_true rfl) (fun p e s m args below meth c A ls H locs B hP hD hS hl => ?_)
  obtain ⟨hx, hb, hml, hown, hts, hr, hlk, hnm, hK, hA, hN, hC⟩ := id B
  have hown : s.vm.findClass RX7 = some m.cls := hown
  have hl : lv_has ls 2 [(0, .int x0), (1, .int x1)] := hl
  refine lv_iload_n hx hb dX7_holds_0 rfl (lv_at hl 0 rfl) ?_
  refine lv_iload_n hx hb dX7_holds_1 rfl (lv_at hl 1 rfl) ?_
  refine lv_ishr hx hb dX7_holds_2 ?_
  refine lv_topi (fun y_2 ey_2 => ?_)
  refine lv_iconst (v := 1) hx hb dX7_holds_3 (by decide +kernel) ?_
  refine lv_iand hx hb dX7_holds_4 ?_
  refine lv_topi (fun y_4 ey_4 => ?_)
  have f_4_1 : iR y_4 0 1 := iR_andR ey_4 (iR_c (n := 1) (a := 1) (b := 1) (by decide +kernel) (by decide +kernel)) (by decide +kernel)
  refine lv_iconst (v := 1) hx hb dX7_holds_5 (by decide +kernel) ?_
  refine lv_icmp_ne (tgt := 13) hx hb dX7_holds_6 (by decide) (fun c_6 => ?_) (fun c_6 => ?_)
  · have c_6 : ¬ y_4 = 1 := c_6
    have f_13_2 : iR y_4 0 0 := iR_neL c_6 f_4_1 (iR_c (n := 1) (a := 1) (b := 1) (by decide +kernel) (by decide +kernel)) (by decide +kernel)
    refine lv_iconst (v := 0) hx hb dX7_holds_13 (by decide +kernel) ?_
    exact k_ri B hP hD hS dX7_holds_14 () [] rfl rfl rfl (Nat.le_of_ble_eq_true rfl) (Nat.le_of_ble_eq_true rfl) (show iR 0 0 1 from (iR_c (n := 0) (a := 0) (b := 1) (by decide +kernel) (by decide +kernel)))
  · have c_6 : y_4 = 1 := c_6
    have f_9_2 : iR y_4 1 1 := iR_eqL c_6 f_4_1 (iR_c (n := 1) (a := 1) (b := 1) (by decide +kernel) (by decide +kernel)) (by decide +kernel)
    refine lv_iconst (v := 1) hx hb dX7_holds_9 (by decide +kernel) ?_
    refine lv_goto (tgt := 14) hx hb dX7_holds_10 (by decide) ?_
    exact k_ri B hP hD hS dX7_holds_14 () [] rfl rfl rfl (Nat.le_of_ble_eq_true rfl) (Nat.le_of_ble_eq_true rfl) (show iR 1 0 1 from (iR_c (n := 1) (a := 0) (b := 1) (by decide +kernel) (by decide +kernel)))
set_option maxHeartbeats 8000000 in
set_option maxRecDepth 100000 in
theorem s_X7_worthOf_v0 (l : Launch) (dC : Nat → ClassId) (dI : Nat → Nat → Nat) (cI cJ cZ cM : ClassId) (h : Nat) (r : Nat → Nat) (i : Nat → Int32) (j : Nat → Int64) (x1 : Int32) (f14 : Nat → Int32) (f15 : Nat → Int32) (hI : mR i) (hf14 : aR f14 0 10) : k_Mi l yX7_worthOf wsX7_worthOf ({ frames := 2, cells := 0, slots := 0, locals := 61 }) (dC, dI) vwCl (tyy cI cJ cZ cM) [(h, .inr (7, oM r i j)), ((r 14), .inl (cI, 2, .inl f14)), ((r 15), .inl (cI, 20, .inl f15))] [.ref h, .int x1] 0 0 (fun (u9 : Unit) => [(h, .inr (7, oM r i j)), ((r 14), .inl (cI, 2, .inl f14)), ((r 15), .inl (cI, 20, .inl f15))]) (fun (r9 : Int32) (u9 : Unit) => True) := by
  refine fun sz => k_enter (cc := cX7_worthOf) (maxL := 4) (ret := some (.int)) (Qc := fun A => va_Qi (fun (r9 : Int32) (u9 : Unit) => True) (fun u => k_B (dC, dI) vwCl (tyy cI cJ cZ cM) A ((fun (u9 : Unit) => [(h, .inr (7, oM r i j)), ((r 14), .inl (cI, 2, .inl f14)), ((r 15), .inl (cI, 20, .inl f15))]) u)) A) sz (by decide +kernel) rfl (Nat.le_of_ble_eq_true rfl) (fun p e s m args below meth c A ls H locs B hP hD hS hl => ?_)
  obtain ⟨hx, hb, hml, hown, hts, hr, hlk, hnm, hK, hA, hN, hC⟩ := id B
  have hown : s.vm.findClass RX7 = some m.cls := hown
  have hl : lv_has ls 4 [(0, .ref h), (1, .int x1)] := hl
  have w_0 : (Cond.fieldLink RX7 54 "WishSeaModel" "things" "[I").before args s = true := hts _ (List.mem_of_getElem? (i := 1) rfl)
  have w_1 : (Cond.fieldLink RX7 51 "WishSeaModel" "bank" "I").before args s = true := hts _ (List.mem_of_getElem? (i := 2) rfl)
  have w_2 : (Cond.fieldLink RX7 57 "WishSeaModel" "thingWorth" "[I").before args s = true := hts _ (List.mem_of_getElem? (i := 3) rfl)
  have hinX7 : ∀ w ∈ u_ws RX7 TX7 92, w ∈ wsX7_worthOf := fun _ h => List.mem_cons_of_mem _ (List.mem_append_right _ h)
  refine lv_iconst (v := 0) hx hb dX7_worthOf_0 (by decide +kernel) ?_
  refine lv_istore_n (lv' := [(2, .int 0), (0, .ref h), (1, .int x1)]) hx hb dX7_worthOf_1 rfl hl (by decide) rfl (fun ls hl => ?_)
  refine lv_iconst (v := 0) hx hb dX7_worthOf_2 (by decide +kernel) ?_
  have J_4 : ∀ (n_4 : Nat) (j4_L2 : Int32) (j4_L3 : Int32) (hj4_L3 : iR j4_L3 0 10) (hm_4 : (10 - j4_L3.toInt).toNat < n_4) (H : Heap) (locs : List Loc) (ls : Array Slot), va_P (dC, dI) vwCl [(h, .inr (7, oM r i j)), ((r 14), .inl (cI, 2, .inl f14)), ((r 15), .inl (cI, 20, .inl f15))] H → va_D A [(h, .inr (7, oM r i j)), ((r 14), .inl (cI, 2, .inl f14)), ((r 15), .inl (cI, 20, .inl f15))] → va_S A s.heap H locs → lv_has ls 4 [(0, .ref h), (1, .int x1), (2, .int j4_L2), (3, .int j4_L3)] → W p l e ({ frames := 2, cells := 0, slots := 0, locals := 61 }) s m args below meth c H locs 0 0 (MQ below (va_Qi (fun (r9 : Int32) (u9 : Unit) => True) (fun u => k_B (dC, dI) vwCl (tyy cI cJ cZ cM) A ((fun (u9 : Unit) => [(h, .inr (7, oM r i j)), ((r 14), .inl (cI, 2, .inl f14)), ((r 15), .inl (cI, 20, .inl f15))]) u)) A) args s 0 0 A) (F0 m 4 ls []) := by
    intro n_4
    induction n_4 with
    | zero => intro j4_L2 j4_L3 hj4_L3 hm_4; exact absurd hm_4 (Nat.not_lt_zero _)
    | succ n_4 ih_4 =>
      intro j4_L2 j4_L3 hj4_L3 hm_4 H locs ls hP hD hS hl
      refine lv_iload_n hx hb dX7_worthOf_4 rfl (lv_at hl 3 rfl) ?_
      refine lv_aload_n hx hb dX7_worthOf_5 rfl (lv_at hl 0 rfl) ?_
      refine k_get (D := (dC, dI)) (ci := 7) (v := .ref (r 14)) (C := RX7) (T := TX7) (N := 92) hx hb hts hinX7 hown hK hP 0 rfl rfl 14 (by decide) w_0 rfl rfl dX7_worthOf_6 ?_
      refine lv_aload_n hx hb dX7_worthOf_9 rfl (lv_at hl 0 rfl) ?_
      have f_10_1 : iR (i 13) 0 1 := hI 13
      refine k_get (D := (dC, dI)) (ci := 7) (v := .int (i 13)) (C := RX7) (T := TX7) (N := 92) hx hb hts hinX7 hown hK hP 0 rfl rfl 13 (by decide) w_1 rfl rfl dX7_worthOf_10 ?_
      refine va_iald hx hb hK hP 1 0 rfl rfl (iR_vp f_10_1 (by decide +kernel)) dX7_worthOf_13 ?_
      have f_13_2 : iR (f14 (i 13).toNatClampNeg) 0 10 := hf14 _
      refine lv_icmp_ge (tgt := 52) hx hb dX7_worthOf_14 (by decide) (fun c_14 => ?_) (fun c_14 => ?_)
      · have c_14 : (f14 (i 13).toNatClampNeg) ≤ j4_L3 := c_14
        refine lv_iload_n hx hb dX7_worthOf_52 rfl (lv_at hl 2 rfl) ?_
        exact k_ri B hP hD hS dX7_worthOf_53 () [0, 1, 2] rfl rfl rfl (Nat.le_of_ble_eq_true rfl) (Nat.le_of_ble_eq_true rfl) trivial
      · have c_14 : j4_L3 < (f14 (i 13).toNatClampNeg) := i_nle c_14
        have f_17_3 : iR j4_L3 0 9 := iR_ltL c_14 hj4_L3 f_13_2 (by decide +kernel)
        have f_17_4 : iR (f14 (i 13).toNatClampNeg) 1 10 := iR_ltR c_14 hj4_L3 f_13_2 (by decide +kernel)
        refine lv_iload_n hx hb dX7_worthOf_17 rfl (lv_at hl 2 rfl) ?_
        refine lv_iload_n hx hb dX7_worthOf_18 rfl (lv_at hl 1 rfl) ?_
        refine lv_iload_n hx hb dX7_worthOf_19 rfl (lv_at hl 3 rfl) ?_
        refine k_ci (wc := []) (wr := [(h, .inr (7, oM r i j)), ((r 14), .inl (cI, 2, .inl f14)), ((r 15), .inl (cI, 20, .inl f15))]) (fun hPc hDc hFc => va_runS (As := [.int x1, .int j4_L3]) (rest := [.int j4_L2]) ⟨hx, hb, hml, hown, hts⟩ (s_X7_holds_v0 l dC dI cI cJ cZ cM x1 j4_L3 H.size) (va_cwS 2 hts gX7_worthOf_X7_holds rfl rfl rfl (by decide +kernel) ⟨(Nat.le_of_ble_eq_true rfl), (Nat.le_of_ble_eq_true rfl)⟩) (k_pS hPc hDc hK hN hC hS hFc) rfl rfl hl.1 rfl (lv_room (Nat.le_of_ble_eq_true rfl)) dX7_worthOf_20 ⟨(Nat.le_of_ble_eq_true rfl), (Nat.le_of_ble_eq_true rfl)⟩) hP hD hS hA [] [0, 1, 2] rfl rfl rfl rfl (by decide) (fun _ => rfl) 0 0 rfl rfl (fun r_20 u_20 H locs hw hP hD hS => ?_)
        have g_20_0 := hw
        have hP : va_P (dC, dI) vwCl [(h, .inr (7, oM r i j)), ((r 14), .inl (cI, 2, .inl f14)), ((r 15), .inl (cI, 20, .inl f15))] H := hP
        have hD : va_D A [(h, .inr (7, oM r i j)), ((r 14), .inl (cI, 2, .inl f14)), ((r 15), .inl (cI, 20, .inl f15))] := hD
        have J_44 : ∀ (j44_S0 : Int32)  (H : Heap) (locs : List Loc) (ls : Array Slot), va_P (dC, dI) vwCl [(h, .inr (7, oM r i j)), ((r 14), .inl (cI, 2, .inl f14)), ((r 15), .inl (cI, 20, .inl f15))] H → va_D A [(h, .inr (7, oM r i j)), ((r 14), .inl (cI, 2, .inl f14)), ((r 15), .inl (cI, 20, .inl f15))] → va_S A s.heap H locs → lv_has ls 4 [(0, .ref h), (1, .int x1), (3, .int j4_L3)] → W p l e ({ frames := 2, cells := 0, slots := 0, locals := 61 }) s m args below meth c H locs 0 0 (MQ below (va_Qi (fun (r9 : Int32) (u9 : Unit) => True) (fun u => k_B (dC, dI) vwCl (tyy cI cJ cZ cM) A ((fun (u9 : Unit) => [(h, .inr (7, oM r i j)), ((r 14), .inl (cI, 2, .inl f14)), ((r 15), .inl (cI, 20, .inl f15))]) u)) A) args s 0 0 A) (F0 m 44 ls [.int j44_S0, .int j4_L2]) := by
          intro j44_S0  H locs ls hP hD hS hl
          refine lv_iadd hx hb dX7_worthOf_44 ?_
          refine lv_topi (fun y_44 ey_44 => ?_)
          refine lv_istore_n (lv' := [(2, .int y_44), (0, .ref h), (1, .int x1), (3, .int j4_L3)]) hx hb dX7_worthOf_45 rfl hl (by decide) rfl (fun ls hl => ?_)
          obtain ⟨y_46, ey_46⟩ : ∃ y : Int32, y = j4_L3 + 1 := ⟨_, rfl⟩
          refine lv_iinc (v := y_46) (lv' := [(3, .int y_46), (2, .int y_44), (0, .ref h), (1, .int x1)]) hx hb dX7_worthOf_46 hl (k := 3) rfl ey_46.symm (by decide) rfl (fun ls hl => ?_)
          have f_46_1 : iR y_46 1 10 := iR_add ey_46 f_17_3 (iR_c (n := 1) (a := 1) (b := 1) (by decide +kernel) (by decide +kernel)) (by decide +kernel)
          refine lv_goto (tgt := 4) hx hb dX7_worthOf_49 (by decide) ?_
          exact ih_4 y_44 y_46 (iR_w f_46_1 (by decide +kernel)) (m_up (B := 10) hm_4 ey_46 f_17_3 (by decide +kernel)) H locs ls hP hD hS (lv_sub hl [2, 3, 1, 0] rfl)
        refine lv_if_eq (tgt := 43) hx hb dX7_worthOf_23 (by decide) (fun c_23 => ?_) (fun c_23 => ?_)
        · have c_23 : r_20 = 0 := c_23
          have f_43_5 : iR r_20 0 0 := iR_eqL c_23 g_20_0 (iR_c (n := 0) (a := 0) (b := 0) (by decide +kernel) (by decide +kernel)) (by decide +kernel)
          refine lv_iconst (v := 0) hx hb dX7_worthOf_43 (by decide +kernel) ?_
          exact J_44 0  H locs ls hP hD hS (lv_sub hl [0, 1, 3] rfl)
        · have c_23 : ¬ r_20 = 0 := c_23
          have f_26_5 : iR r_20 1 1 := iR_neL c_23 g_20_0 (iR_c (n := 0) (a := 0) (b := 0) (by decide +kernel) (by decide +kernel)) (by decide +kernel)
          refine lv_aload_n hx hb dX7_worthOf_26 rfl (lv_at hl 0 rfl) ?_
          refine k_get (D := (dC, dI)) (ci := 7) (v := .ref (r 15)) (C := RX7) (T := TX7) (N := 92) hx hb hts hinX7 hown hK hP 0 rfl rfl 15 (by decide) w_2 rfl rfl dX7_worthOf_27 ?_
          refine lv_bipush (v := 10) hx hb dX7_worthOf_30 (by decide +kernel) ?_
          refine lv_aload_n hx hb dX7_worthOf_32 rfl (lv_at hl 0 rfl) ?_
          refine k_get (D := (dC, dI)) (ci := 7) (v := .int (i 13)) (C := RX7) (T := TX7) (N := 92) hx hb hts hinX7 hown hK hP 0 rfl rfl 13 (by decide) w_1 rfl rfl dX7_worthOf_33 ?_
          refine lv_imul hx hb dX7_worthOf_36 ?_
          refine lv_topi (fun y_36 ey_36 => ?_)
          have f_36_6 : iR y_36 0 10 := iR_mul ey_36 (iR_c (n := 10) (a := 10) (b := 10) (by decide +kernel) (by decide +kernel)) f_10_1 (by decide +kernel)
          refine lv_iload_n hx hb dX7_worthOf_37 rfl (lv_at hl 3 rfl) ?_
          refine lv_iadd hx hb dX7_worthOf_38 ?_
          refine lv_topi (fun y_38 ey_38 => ?_)
          have f_38_7 : iR y_38 0 19 := iR_add ey_38 f_36_6 f_17_3 (by decide +kernel)
          refine va_iald hx hb hK hP 2 0 rfl rfl (iR_vp f_38_7 (by decide +kernel)) dX7_worthOf_39 ?_
          refine lv_goto (tgt := 44) hx hb dX7_worthOf_40 (by decide) ?_
          exact J_44 (f15 y_38.toNatClampNeg)  H locs ls hP hD hS (lv_sub hl [0, 1, 3] rfl)
  refine lv_istore_n (lv' := [(3, .int 0), (2, .int 0), (0, .ref h), (1, .int x1)]) hx hb dX7_worthOf_3 rfl hl (by decide) rfl (fun ls hl => ?_)
  exact J_4 _ 0 0 (iR_c (n := 0) (a := 0) (b := 10) (by decide +kernel) (by decide +kernel)) (Nat.lt_succ_self _) H locs ls hP hD hS (lv_sub hl [2, 3, 1, 0] rfl)
set_option maxHeartbeats 8000000 in
set_option maxRecDepth 100000 in
theorem s_X7_manyOf_v0 (l : Launch) (dC : Nat → ClassId) (dI : Nat → Nat → Nat) (cI cJ cZ cM : ClassId) (h : Nat) (r : Nat → Nat) (i : Nat → Int32) (j : Nat → Int64) (x1 : Int32) (f14 : Nat → Int32) (hx1 : iR x1 0 1) (hI : mR i) (hf14 : aR f14 0 10) : k_Mi l yX7_manyOf wsX7_manyOf ({ frames := 1, cells := 0, slots := 0, locals := 40 }) (dC, dI) vwCl (tyy cI cJ cZ cM) [(h, .inr (7, oM r i j)), ((r 14), .inl (cI, 2, .inl f14))] [.ref h, .int x1, .int 0] 0 0 (fun (u9 : Unit) => [(h, .inr (7, oM r i j)), ((r 14), .inl (cI, 2, .inl f14))]) (fun (r9 : Int32) (u9 : Unit) => (r9 = (f14 x1.toNatClampNeg))) := by
  refine fun sz => k_enter (cc := cX7_manyOf) (maxL := 3) (ret := some (.int)) (Qc := fun A => va_Qi (fun (r9 : Int32) (u9 : Unit) => (r9 = (f14 x1.toNatClampNeg))) (fun u => k_B (dC, dI) vwCl (tyy cI cJ cZ cM) A ((fun (u9 : Unit) => [(h, .inr (7, oM r i j)), ((r 14), .inl (cI, 2, .inl f14))]) u)) A) sz (by decide +kernel) rfl (Nat.le_of_ble_eq_true rfl) (fun p e s m args below meth c A ls H locs B hP hD hS hl => ?_)
  obtain ⟨hx, hb, hml, hown, hts, hr, hlk, hnm, hK, hA, hN, hC⟩ := id B
  have hown : s.vm.findClass RX7 = some m.cls := hown
  have hl : lv_has ls 3 [(0, .ref h), (1, .int x1), (2, .int 0)] := hl
  have w_0 : (Cond.fieldLink RX7 54 "WishSeaModel" "things" "[I").before args s = true := hts _ (List.mem_of_getElem? (i := 1) rfl)
  have hinX7 : ∀ w ∈ u_ws RX7 TX7 92, w ∈ wsX7_manyOf := fun _ h => List.mem_cons_of_mem _ (List.mem_append_right _ h)
  refine lv_iload_n hx hb dX7_manyOf_0 rfl (lv_at hl 2 rfl) ?_
  refine lv_if_ne (tgt := 13) hx hb dX7_manyOf_1 (by decide) (fun q9 => absurd q9 (by decide +kernel)) (fun _ => ?_)
  refine lv_aload_n hx hb dX7_manyOf_4 rfl (lv_at hl 0 rfl) ?_
  refine k_get (D := (dC, dI)) (ci := 7) (v := .ref (r 14)) (C := RX7) (T := TX7) (N := 92) hx hb hts hinX7 hown hK hP 0 rfl rfl 14 (by decide) w_0 rfl rfl dX7_manyOf_5 ?_
  refine lv_iload_n hx hb dX7_manyOf_8 rfl (lv_at hl 1 rfl) ?_
  refine va_iald hx hb hK hP 1 0 rfl rfl (iR_vp hx1 (by decide +kernel)) dX7_manyOf_9 ?_
  have f_9_1 : iR (f14 x1.toNatClampNeg) 0 10 := hf14 _
  refine lv_goto (tgt := 19) hx hb dX7_manyOf_10 (by decide) ?_
  exact k_ri B hP hD hS dX7_manyOf_19 () [0, 1] rfl rfl rfl (Nat.le_of_ble_eq_true rfl) (Nat.le_of_ble_eq_true rfl) rfl
set_option maxHeartbeats 8000000 in
set_option maxRecDepth 100000 in
theorem s_X7_nameOf_v0 (l : Launch) (dC : Nat → ClassId) (dI : Nat → Nat → Nat) (cI cJ cZ cM : ClassId) (h : Nat) (r : Nat → Nat) (i : Nat → Int32) (j : Nat → Int64) (x1 : Int32) (x3 : Int32) (g34 : Nat → Int64) (hx1 : iR x1 0 1) (hx3 : iR x3 0 9) (hI : mR i) : k_Ml l yX7_nameOf wsX7_nameOf ({ frames := 1, cells := 0, slots := 0, locals := 40 }) (dC, dI) vwCl (tyy cI cJ cZ cM) [(h, .inr (7, oM r i j)), ((r 34), .inl (cJ, 20, .inr (.inl g34)))] [.ref h, .int x1, .int 0, .int x3] 0 0 (fun (u9 : Unit) => [(h, .inr (7, oM r i j)), ((r 34), .inl (cJ, 20, .inr (.inl g34)))]) (fun (r9 : Int64) (u9 : Unit) => True) := by
  refine fun sz => k_enter (cc := cX7_nameOf) (maxL := 4) (ret := some (.long)) (Qc := fun A => va_Ql (fun (r9 : Int64) (u9 : Unit) => True) (fun u => k_B (dC, dI) vwCl (tyy cI cJ cZ cM) A ((fun (u9 : Unit) => [(h, .inr (7, oM r i j)), ((r 34), .inl (cJ, 20, .inr (.inl g34)))]) u)) A) sz (by decide +kernel) rfl (Nat.le_of_ble_eq_true rfl) (fun p e s m args below meth c A ls H locs B hP hD hS hl => ?_)
  obtain ⟨hx, hb, hml, hown, hts, hr, hlk, hnm, hK, hA, hN, hC⟩ := id B
  have hown : s.vm.findClass RX7 = some m.cls := hown
  have hl : lv_has ls 4 [(0, .ref h), (1, .int x1), (2, .int 0), (3, .int x3)] := hl
  have w_0 : (Cond.fieldLink RX7 114 "WishSeaModel" "thingName" "[J").before args s = true := hts _ (List.mem_of_getElem? (i := 1) rfl)
  have hinX7 : ∀ w ∈ u_ws RX7 TX7 92, w ∈ wsX7_nameOf := fun _ h => List.mem_cons_of_mem _ (List.mem_append_right _ h)
  refine lv_iload_n hx hb dX7_nameOf_0 rfl (lv_at hl 2 rfl) ?_
  refine lv_if_ne (tgt := 18) hx hb dX7_nameOf_1 (by decide) (fun q9 => absurd q9 (by decide +kernel)) (fun _ => ?_)
  refine lv_aload_n hx hb dX7_nameOf_4 rfl (lv_at hl 0 rfl) ?_
  refine k_get (D := (dC, dI)) (ci := 7) (v := .ref (r 34)) (C := RX7) (T := TX7) (N := 92) hx hb hts hinX7 hown hK hP 0 rfl rfl 34 (by decide) w_0 rfl rfl dX7_nameOf_5 ?_
  refine lv_bipush (v := 10) hx hb dX7_nameOf_8 (by decide +kernel) ?_
  refine lv_iload_n hx hb dX7_nameOf_10 rfl (lv_at hl 1 rfl) ?_
  refine lv_imul hx hb dX7_nameOf_11 ?_
  refine lv_topi (fun y_11 ey_11 => ?_)
  have f_11_1 : iR y_11 0 10 := iR_mul ey_11 (iR_c (n := 10) (a := 10) (b := 10) (by decide +kernel) (by decide +kernel)) hx1 (by decide +kernel)
  refine lv_iload_n hx hb dX7_nameOf_12 rfl (lv_at hl 3 rfl) ?_
  refine lv_iadd hx hb dX7_nameOf_13 ?_
  refine lv_topi (fun y_13 ey_13 => ?_)
  have f_13_2 : iR y_13 0 19 := iR_add ey_13 f_11_1 hx3 (by decide +kernel)
  refine va_lald hx hb hK hP 1 1 rfl rfl (iR_vp f_13_2 (by decide +kernel)) dX7_nameOf_14 ?_
  refine lv_goto (tgt := 29) hx hb dX7_nameOf_15 (by decide) ?_
  exact k_rl B hP hD hS dX7_nameOf_29 () [0, 1] rfl rfl (Nat.le_of_ble_eq_true rfl) (Nat.le_of_ble_eq_true rfl) trivial
set_option maxHeartbeats 8000000 in
set_option maxRecDepth 100000 in
theorem s_X7_manyOf_v1 (l : Launch) (dC : Nat → ClassId) (dI : Nat → Nat → Nat) (cI cJ cZ cM : ClassId) (h : Nat) (r : Nat → Nat) (i : Nat → Int32) (j : Nat → Int64) (x1 : Int32) (f18 : Nat → Int32) (hx1 : iR x1 0 1) (hI : mR i) (hf18 : aR f18 0 12) : k_Mi l yX7_manyOf wsX7_manyOf ({ frames := 1, cells := 0, slots := 0, locals := 40 }) (dC, dI) vwCl (tyy cI cJ cZ cM) [(h, .inr (7, oM r i j)), ((r 18), .inl (cI, 2, .inl f18))] [.ref h, .int x1, .int 1] 0 0 (fun (u9 : Unit) => [(h, .inr (7, oM r i j)), ((r 18), .inl (cI, 2, .inl f18))]) (fun (r9 : Int32) (u9 : Unit) => (r9 = (f18 x1.toNatClampNeg))) := by
  refine fun sz => k_enter (cc := cX7_manyOf) (maxL := 3) (ret := some (.int)) (Qc := fun A => va_Qi (fun (r9 : Int32) (u9 : Unit) => (r9 = (f18 x1.toNatClampNeg))) (fun u => k_B (dC, dI) vwCl (tyy cI cJ cZ cM) A ((fun (u9 : Unit) => [(h, .inr (7, oM r i j)), ((r 18), .inl (cI, 2, .inl f18))]) u)) A) sz (by decide +kernel) rfl (Nat.le_of_ble_eq_true rfl) (fun p e s m args below meth c A ls H locs B hP hD hS hl => ?_)
  obtain ⟨hx, hb, hml, hown, hts, hr, hlk, hnm, hK, hA, hN, hC⟩ := id B
  have hown : s.vm.findClass RX7 = some m.cls := hown
  have hl : lv_has ls 3 [(0, .ref h), (1, .int x1), (2, .int 1)] := hl
  have w_0 : (Cond.fieldLink RX7 66 "WishSeaModel" "wishes" "[I").before args s = true := hts _ (List.mem_of_getElem? (i := 2) rfl)
  have hinX7 : ∀ w ∈ u_ws RX7 TX7 92, w ∈ wsX7_manyOf := fun _ h => List.mem_cons_of_mem _ (List.mem_append_right _ h)
  refine lv_iload_n hx hb dX7_manyOf_0 rfl (lv_at hl 2 rfl) ?_
  refine lv_if_ne (tgt := 13) hx hb dX7_manyOf_1 (by decide) (fun _ => ?_) (fun q9 => absurd q9 (by decide +kernel))
  refine lv_aload_n hx hb dX7_manyOf_13 rfl (lv_at hl 0 rfl) ?_
  refine k_get (D := (dC, dI)) (ci := 7) (v := .ref (r 18)) (C := RX7) (T := TX7) (N := 92) hx hb hts hinX7 hown hK hP 0 rfl rfl 18 (by decide) w_0 rfl rfl dX7_manyOf_14 ?_
  refine lv_iload_n hx hb dX7_manyOf_17 rfl (lv_at hl 1 rfl) ?_
  refine va_iald hx hb hK hP 1 0 rfl rfl (iR_vp hx1 (by decide +kernel)) dX7_manyOf_18 ?_
  have f_18_1 : iR (f18 x1.toNatClampNeg) 0 12 := hf18 _
  exact k_ri B hP hD hS dX7_manyOf_19 () [0, 1] rfl rfl rfl (Nat.le_of_ble_eq_true rfl) (Nat.le_of_ble_eq_true rfl) rfl
set_option maxHeartbeats 8000000 in
set_option maxRecDepth 100000 in
theorem s_X7_nameOf_v1 (l : Launch) (dC : Nat → ClassId) (dI : Nat → Nat → Nat) (cI cJ cZ cM : ClassId) (h : Nat) (r : Nat → Nat) (i : Nat → Int32) (j : Nat → Int64) (x1 : Int32) (x3 : Int32) (g35 : Nat → Int64) (hx1 : iR x1 0 1) (hx3 : iR x3 0 11) (hI : mR i) : k_Ml l yX7_nameOf wsX7_nameOf ({ frames := 1, cells := 0, slots := 0, locals := 40 }) (dC, dI) vwCl (tyy cI cJ cZ cM) [(h, .inr (7, oM r i j)), ((r 35), .inl (cJ, 24, .inr (.inl g35)))] [.ref h, .int x1, .int 1, .int x3] 0 0 (fun (u9 : Unit) => [(h, .inr (7, oM r i j)), ((r 35), .inl (cJ, 24, .inr (.inl g35)))]) (fun (r9 : Int64) (u9 : Unit) => True) := by
  refine fun sz => k_enter (cc := cX7_nameOf) (maxL := 4) (ret := some (.long)) (Qc := fun A => va_Ql (fun (r9 : Int64) (u9 : Unit) => True) (fun u => k_B (dC, dI) vwCl (tyy cI cJ cZ cM) A ((fun (u9 : Unit) => [(h, .inr (7, oM r i j)), ((r 35), .inl (cJ, 24, .inr (.inl g35)))]) u)) A) sz (by decide +kernel) rfl (Nat.le_of_ble_eq_true rfl) (fun p e s m args below meth c A ls H locs B hP hD hS hl => ?_)
  obtain ⟨hx, hb, hml, hown, hts, hr, hlk, hnm, hK, hA, hN, hC⟩ := id B
  have hown : s.vm.findClass RX7 = some m.cls := hown
  have hl : lv_has ls 4 [(0, .ref h), (1, .int x1), (2, .int 1), (3, .int x3)] := hl
  have w_0 : (Cond.fieldLink RX7 118 "WishSeaModel" "wishName" "[J").before args s = true := hts _ (List.mem_of_getElem? (i := 2) rfl)
  have hinX7 : ∀ w ∈ u_ws RX7 TX7 92, w ∈ wsX7_nameOf := fun _ h => List.mem_cons_of_mem _ (List.mem_append_right _ h)
  refine lv_iload_n hx hb dX7_nameOf_0 rfl (lv_at hl 2 rfl) ?_
  refine lv_if_ne (tgt := 18) hx hb dX7_nameOf_1 (by decide) (fun _ => ?_) (fun q9 => absurd q9 (by decide +kernel))
  refine lv_aload_n hx hb dX7_nameOf_18 rfl (lv_at hl 0 rfl) ?_
  refine k_get (D := (dC, dI)) (ci := 7) (v := .ref (r 35)) (C := RX7) (T := TX7) (N := 92) hx hb hts hinX7 hown hK hP 0 rfl rfl 35 (by decide) w_0 rfl rfl dX7_nameOf_19 ?_
  refine lv_bipush (v := 12) hx hb dX7_nameOf_22 (by decide +kernel) ?_
  refine lv_iload_n hx hb dX7_nameOf_24 rfl (lv_at hl 1 rfl) ?_
  refine lv_imul hx hb dX7_nameOf_25 ?_
  refine lv_topi (fun y_25 ey_25 => ?_)
  have f_25_1 : iR y_25 0 12 := iR_mul ey_25 (iR_c (n := 12) (a := 12) (b := 12) (by decide +kernel) (by decide +kernel)) hx1 (by decide +kernel)
  refine lv_iload_n hx hb dX7_nameOf_26 rfl (lv_at hl 3 rfl) ?_
  refine lv_iadd hx hb dX7_nameOf_27 ?_
  refine lv_topi (fun y_27 ey_27 => ?_)
  have f_27_2 : iR y_27 0 23 := iR_add ey_27 f_25_1 hx3 (by decide +kernel)
  refine va_lald hx hb hK hP 1 1 rfl rfl (iR_vp f_27_2 (by decide +kernel)) dX7_nameOf_28 ?_
  exact k_rl B hP hD hS dX7_nameOf_29 () [0, 1] rfl rfl (Nat.le_of_ble_eq_true rfl) (Nat.le_of_ble_eq_true rfl) trivial
set_option maxHeartbeats 8000000 in
set_option maxRecDepth 100000 in
theorem s_X7_manyOf_v2 (l : Launch) (dC : Nat → ClassId) (dI : Nat → Nat → Nat) (cI cJ cZ cM : ClassId) (h : Nat) (r : Nat → Nat) (i : Nat → Int32) (j : Nat → Int64) (x1 : Int32) (f14 : Nat → Int32) (hx1 : iR x1 0 1) (hI : mR i) (hf14 : aR f14 0 10) : k_Mi l yX7_manyOf wsX7_manyOf ({ frames := 1, cells := 0, slots := 0, locals := 40 }) (dC, dI) vwCl (tyy cI cJ cZ cM) [(h, .inr (7, oM r i j)), ((r 14), .inl (cI, 2, .inl f14))] [.ref h, .int x1, .int 0] 0 0 (fun (u9 : Unit) => [(h, .inr (7, oM r i j)), ((r 14), .inl (cI, 2, .inl f14))]) (fun (r9 : Int32) (u9 : Unit) => (r9 = (f14 x1.toNatClampNeg))) := by
  refine fun sz => k_enter (cc := cX7_manyOf) (maxL := 3) (ret := some (.int)) (Qc := fun A => va_Qi (fun (r9 : Int32) (u9 : Unit) => (r9 = (f14 x1.toNatClampNeg))) (fun u => k_B (dC, dI) vwCl (tyy cI cJ cZ cM) A ((fun (u9 : Unit) => [(h, .inr (7, oM r i j)), ((r 14), .inl (cI, 2, .inl f14))]) u)) A) sz (by decide +kernel) rfl (Nat.le_of_ble_eq_true rfl) (fun p e s m args below meth c A ls H locs B hP hD hS hl => ?_)
  obtain ⟨hx, hb, hml, hown, hts, hr, hlk, hnm, hK, hA, hN, hC⟩ := id B
  have hown : s.vm.findClass RX7 = some m.cls := hown
  have hl : lv_has ls 3 [(0, .ref h), (1, .int x1), (2, .int 0)] := hl
  have w_0 : (Cond.fieldLink RX7 54 "WishSeaModel" "things" "[I").before args s = true := hts _ (List.mem_of_getElem? (i := 1) rfl)
  have hinX7 : ∀ w ∈ u_ws RX7 TX7 92, w ∈ wsX7_manyOf := fun _ h => List.mem_cons_of_mem _ (List.mem_append_right _ h)
  refine lv_iload_n hx hb dX7_manyOf_0 rfl (lv_at hl 2 rfl) ?_
  refine lv_if_ne (tgt := 13) hx hb dX7_manyOf_1 (by decide) (fun q9 => absurd q9 (by decide +kernel)) (fun _ => ?_)
  refine lv_aload_n hx hb dX7_manyOf_4 rfl (lv_at hl 0 rfl) ?_
  refine k_get (D := (dC, dI)) (ci := 7) (v := .ref (r 14)) (C := RX7) (T := TX7) (N := 92) hx hb hts hinX7 hown hK hP 0 rfl rfl 14 (by decide) w_0 rfl rfl dX7_manyOf_5 ?_
  refine lv_iload_n hx hb dX7_manyOf_8 rfl (lv_at hl 1 rfl) ?_
  refine va_iald hx hb hK hP 1 0 rfl rfl (iR_vp hx1 (by decide +kernel)) dX7_manyOf_9 ?_
  have f_9_1 : iR (f14 x1.toNatClampNeg) 0 10 := hf14 _
  refine lv_goto (tgt := 19) hx hb dX7_manyOf_10 (by decide) ?_
  exact k_ri B hP hD hS dX7_manyOf_19 () [0, 1] rfl rfl rfl (Nat.le_of_ble_eq_true rfl) (Nat.le_of_ble_eq_true rfl) rfl
set_option maxHeartbeats 8000000 in
set_option maxRecDepth 100000 in
theorem s_X7_nameOf_v2 (l : Launch) (dC : Nat → ClassId) (dI : Nat → Nat → Nat) (cI cJ cZ cM : ClassId) (h : Nat) (r : Nat → Nat) (i : Nat → Int32) (j : Nat → Int64) (x1 : Int32) (x3 : Int32) (g34 : Nat → Int64) (hx1 : iR x1 0 1) (hx3 : iR x3 0 9) (hI : mR i) : k_Ml l yX7_nameOf wsX7_nameOf ({ frames := 1, cells := 0, slots := 0, locals := 40 }) (dC, dI) vwCl (tyy cI cJ cZ cM) [(h, .inr (7, oM r i j)), ((r 34), .inl (cJ, 20, .inr (.inl g34)))] [.ref h, .int x1, .int 0, .int x3] 0 0 (fun (u9 : Unit) => [(h, .inr (7, oM r i j)), ((r 34), .inl (cJ, 20, .inr (.inl g34)))]) (fun (r9 : Int64) (u9 : Unit) => True) := by
  refine fun sz => k_enter (cc := cX7_nameOf) (maxL := 4) (ret := some (.long)) (Qc := fun A => va_Ql (fun (r9 : Int64) (u9 : Unit) => True) (fun u => k_B (dC, dI) vwCl (tyy cI cJ cZ cM) A ((fun (u9 : Unit) => [(h, .inr (7, oM r i j)), ((r 34), .inl (cJ, 20, .inr (.inl g34)))]) u)) A) sz (by decide +kernel) rfl (Nat.le_of_ble_eq_true rfl) (fun p e s m args below meth c A ls H locs B hP hD hS hl => ?_)
  obtain ⟨hx, hb, hml, hown, hts, hr, hlk, hnm, hK, hA, hN, hC⟩ := id B
  have hown : s.vm.findClass RX7 = some m.cls := hown
  have hl : lv_has ls 4 [(0, .ref h), (1, .int x1), (2, .int 0), (3, .int x3)] := hl
  have w_0 : (Cond.fieldLink RX7 114 "WishSeaModel" "thingName" "[J").before args s = true := hts _ (List.mem_of_getElem? (i := 1) rfl)
  have hinX7 : ∀ w ∈ u_ws RX7 TX7 92, w ∈ wsX7_nameOf := fun _ h => List.mem_cons_of_mem _ (List.mem_append_right _ h)
  refine lv_iload_n hx hb dX7_nameOf_0 rfl (lv_at hl 2 rfl) ?_
  refine lv_if_ne (tgt := 18) hx hb dX7_nameOf_1 (by decide) (fun q9 => absurd q9 (by decide +kernel)) (fun _ => ?_)
  refine lv_aload_n hx hb dX7_nameOf_4 rfl (lv_at hl 0 rfl) ?_
  refine k_get (D := (dC, dI)) (ci := 7) (v := .ref (r 34)) (C := RX7) (T := TX7) (N := 92) hx hb hts hinX7 hown hK hP 0 rfl rfl 34 (by decide) w_0 rfl rfl dX7_nameOf_5 ?_
  refine lv_bipush (v := 10) hx hb dX7_nameOf_8 (by decide +kernel) ?_
  refine lv_iload_n hx hb dX7_nameOf_10 rfl (lv_at hl 1 rfl) ?_
  refine lv_imul hx hb dX7_nameOf_11 ?_
  refine lv_topi (fun y_11 ey_11 => ?_)
  have f_11_1 : iR y_11 0 10 := iR_mul ey_11 (iR_c (n := 10) (a := 10) (b := 10) (by decide +kernel) (by decide +kernel)) hx1 (by decide +kernel)
  refine lv_iload_n hx hb dX7_nameOf_12 rfl (lv_at hl 3 rfl) ?_
  refine lv_iadd hx hb dX7_nameOf_13 ?_
  refine lv_topi (fun y_13 ey_13 => ?_)
  have f_13_2 : iR y_13 0 19 := iR_add ey_13 f_11_1 hx3 (by decide +kernel)
  refine va_lald hx hb hK hP 1 1 rfl rfl (iR_vp f_13_2 (by decide +kernel)) dX7_nameOf_14 ?_
  refine lv_goto (tgt := 29) hx hb dX7_nameOf_15 (by decide) ?_
  exact k_rl B hP hD hS dX7_nameOf_29 () [0, 1] rfl rfl (Nat.le_of_ble_eq_true rfl) (Nat.le_of_ble_eq_true rfl) trivial
set_option maxHeartbeats 8000000 in
set_option maxRecDepth 100000 in
theorem s_X7_manyOf_v3 (l : Launch) (dC : Nat → ClassId) (dI : Nat → Nat → Nat) (cI cJ cZ cM : ClassId) (h : Nat) (r : Nat → Nat) (i : Nat → Int32) (j : Nat → Int64) (x1 : Int32) (f18 : Nat → Int32) (hx1 : iR x1 0 1) (hI : mR i) (hf18 : aR f18 0 12) : k_Mi l yX7_manyOf wsX7_manyOf ({ frames := 1, cells := 0, slots := 0, locals := 40 }) (dC, dI) vwCl (tyy cI cJ cZ cM) [(h, .inr (7, oM r i j)), ((r 18), .inl (cI, 2, .inl f18))] [.ref h, .int x1, .int 1] 0 0 (fun (u9 : Unit) => [(h, .inr (7, oM r i j)), ((r 18), .inl (cI, 2, .inl f18))]) (fun (r9 : Int32) (u9 : Unit) => (r9 = (f18 x1.toNatClampNeg))) := by
  refine fun sz => k_enter (cc := cX7_manyOf) (maxL := 3) (ret := some (.int)) (Qc := fun A => va_Qi (fun (r9 : Int32) (u9 : Unit) => (r9 = (f18 x1.toNatClampNeg))) (fun u => k_B (dC, dI) vwCl (tyy cI cJ cZ cM) A ((fun (u9 : Unit) => [(h, .inr (7, oM r i j)), ((r 18), .inl (cI, 2, .inl f18))]) u)) A) sz (by decide +kernel) rfl (Nat.le_of_ble_eq_true rfl) (fun p e s m args below meth c A ls H locs B hP hD hS hl => ?_)
  obtain ⟨hx, hb, hml, hown, hts, hr, hlk, hnm, hK, hA, hN, hC⟩ := id B
  have hown : s.vm.findClass RX7 = some m.cls := hown
  have hl : lv_has ls 3 [(0, .ref h), (1, .int x1), (2, .int 1)] := hl
  have w_0 : (Cond.fieldLink RX7 66 "WishSeaModel" "wishes" "[I").before args s = true := hts _ (List.mem_of_getElem? (i := 2) rfl)
  have hinX7 : ∀ w ∈ u_ws RX7 TX7 92, w ∈ wsX7_manyOf := fun _ h => List.mem_cons_of_mem _ (List.mem_append_right _ h)
  refine lv_iload_n hx hb dX7_manyOf_0 rfl (lv_at hl 2 rfl) ?_
  refine lv_if_ne (tgt := 13) hx hb dX7_manyOf_1 (by decide) (fun _ => ?_) (fun q9 => absurd q9 (by decide +kernel))
  refine lv_aload_n hx hb dX7_manyOf_13 rfl (lv_at hl 0 rfl) ?_
  refine k_get (D := (dC, dI)) (ci := 7) (v := .ref (r 18)) (C := RX7) (T := TX7) (N := 92) hx hb hts hinX7 hown hK hP 0 rfl rfl 18 (by decide) w_0 rfl rfl dX7_manyOf_14 ?_
  refine lv_iload_n hx hb dX7_manyOf_17 rfl (lv_at hl 1 rfl) ?_
  refine va_iald hx hb hK hP 1 0 rfl rfl (iR_vp hx1 (by decide +kernel)) dX7_manyOf_18 ?_
  have f_18_1 : iR (f18 x1.toNatClampNeg) 0 12 := hf18 _
  exact k_ri B hP hD hS dX7_manyOf_19 () [0, 1] rfl rfl rfl (Nat.le_of_ble_eq_true rfl) (Nat.le_of_ble_eq_true rfl) rfl
set_option maxHeartbeats 8000000 in
set_option maxRecDepth 100000 in
theorem s_X7_nameOf_v3 (l : Launch) (dC : Nat → ClassId) (dI : Nat → Nat → Nat) (cI cJ cZ cM : ClassId) (h : Nat) (r : Nat → Nat) (i : Nat → Int32) (j : Nat → Int64) (x1 : Int32) (x3 : Int32) (g35 : Nat → Int64) (hx1 : iR x1 0 1) (hx3 : iR x3 0 11) (hI : mR i) : k_Ml l yX7_nameOf wsX7_nameOf ({ frames := 1, cells := 0, slots := 0, locals := 40 }) (dC, dI) vwCl (tyy cI cJ cZ cM) [(h, .inr (7, oM r i j)), ((r 35), .inl (cJ, 24, .inr (.inl g35)))] [.ref h, .int x1, .int 1, .int x3] 0 0 (fun (u9 : Unit) => [(h, .inr (7, oM r i j)), ((r 35), .inl (cJ, 24, .inr (.inl g35)))]) (fun (r9 : Int64) (u9 : Unit) => True) := by
  refine fun sz => k_enter (cc := cX7_nameOf) (maxL := 4) (ret := some (.long)) (Qc := fun A => va_Ql (fun (r9 : Int64) (u9 : Unit) => True) (fun u => k_B (dC, dI) vwCl (tyy cI cJ cZ cM) A ((fun (u9 : Unit) => [(h, .inr (7, oM r i j)), ((r 35), .inl (cJ, 24, .inr (.inl g35)))]) u)) A) sz (by decide +kernel) rfl (Nat.le_of_ble_eq_true rfl) (fun p e s m args below meth c A ls H locs B hP hD hS hl => ?_)
  obtain ⟨hx, hb, hml, hown, hts, hr, hlk, hnm, hK, hA, hN, hC⟩ := id B
  have hown : s.vm.findClass RX7 = some m.cls := hown
  have hl : lv_has ls 4 [(0, .ref h), (1, .int x1), (2, .int 1), (3, .int x3)] := hl
  have w_0 : (Cond.fieldLink RX7 118 "WishSeaModel" "wishName" "[J").before args s = true := hts _ (List.mem_of_getElem? (i := 2) rfl)
  have hinX7 : ∀ w ∈ u_ws RX7 TX7 92, w ∈ wsX7_nameOf := fun _ h => List.mem_cons_of_mem _ (List.mem_append_right _ h)
  refine lv_iload_n hx hb dX7_nameOf_0 rfl (lv_at hl 2 rfl) ?_
  refine lv_if_ne (tgt := 18) hx hb dX7_nameOf_1 (by decide) (fun _ => ?_) (fun q9 => absurd q9 (by decide +kernel))
  refine lv_aload_n hx hb dX7_nameOf_18 rfl (lv_at hl 0 rfl) ?_
  refine k_get (D := (dC, dI)) (ci := 7) (v := .ref (r 35)) (C := RX7) (T := TX7) (N := 92) hx hb hts hinX7 hown hK hP 0 rfl rfl 35 (by decide) w_0 rfl rfl dX7_nameOf_19 ?_
  refine lv_bipush (v := 12) hx hb dX7_nameOf_22 (by decide +kernel) ?_
  refine lv_iload_n hx hb dX7_nameOf_24 rfl (lv_at hl 1 rfl) ?_
  refine lv_imul hx hb dX7_nameOf_25 ?_
  refine lv_topi (fun y_25 ey_25 => ?_)
  have f_25_1 : iR y_25 0 12 := iR_mul ey_25 (iR_c (n := 12) (a := 12) (b := 12) (by decide +kernel) (by decide +kernel)) hx1 (by decide +kernel)
  refine lv_iload_n hx hb dX7_nameOf_26 rfl (lv_at hl 3 rfl) ?_
  refine lv_iadd hx hb dX7_nameOf_27 ?_
  refine lv_topi (fun y_27 ey_27 => ?_)
  have f_27_2 : iR y_27 0 23 := iR_add ey_27 f_25_1 hx3 (by decide +kernel)
  refine va_lald hx hb hK hP 1 1 rfl rfl (iR_vp f_27_2 (by decide +kernel)) dX7_nameOf_28 ?_
  exact k_rl B hP hD hS dX7_nameOf_29 () [0, 1] rfl rfl (Nat.le_of_ble_eq_true rfl) (Nat.le_of_ble_eq_true rfl) trivial
set_option maxHeartbeats 8000000 in
set_option maxRecDepth 100000 in
theorem s_X7_letter_v0 (l : Launch) (dC : Nat → ClassId) (dI : Nat → Nat → Nat) (cI cJ cZ cM : ClassId) (h : Nat) (r : Nat → Nat) (i : Nat → Int32) (j : Nat → Int64) (x1 : Int32) (x2 : Int32) (x3 : Int32) (f14 : Nat → Int32) (f18 : Nat → Int32) (g34 : Nat → Int64) (g35 : Nat → Int64) (hI : mR i) (hf14 : aR f14 0 10) (hf18 : aR f18 0 12) : k_Mi l yX7_letter wsX7_letter ({ frames := 2, cells := 0, slots := 0, locals := 63 }) (dC, dI) vwCl (tyy cI cJ cZ cM) [(h, .inr (7, oM r i j)), ((r 14), .inl (cI, 2, .inl f14)), ((r 18), .inl (cI, 2, .inl f18)), ((r 34), .inl (cJ, 20, .inr (.inl g34))), ((r 35), .inl (cJ, 24, .inr (.inl g35)))] [.ref h, .int x1, .int x2, .int x3] 0 0 (fun (u9 : Unit) => [(h, .inr (7, oM r i j)), ((r 14), .inl (cI, 2, .inl f14)), ((r 18), .inl (cI, 2, .inl f18)), ((r 34), .inl (cJ, 20, .inr (.inl g34))), ((r 35), .inl (cJ, 24, .inr (.inl g35)))]) (fun (r9 : Int32) (u9 : Unit) => True) := by
  refine fun sz => k_enter (cc := cX7_letter) (maxL := 9) (ret := some (.int)) (Qc := fun A => va_Qi (fun (r9 : Int32) (u9 : Unit) => True) (fun u => k_B (dC, dI) vwCl (tyy cI cJ cZ cM) A ((fun (u9 : Unit) => [(h, .inr (7, oM r i j)), ((r 14), .inl (cI, 2, .inl f14)), ((r 18), .inl (cI, 2, .inl f18)), ((r 34), .inl (cJ, 20, .inr (.inl g34))), ((r 35), .inl (cJ, 24, .inr (.inl g35)))]) u)) A) sz (by decide +kernel) rfl (Nat.le_of_ble_eq_true rfl) (fun p e s m args below meth c A ls H locs B hP hD hS hl => ?_)
  obtain ⟨hx, hb, hml, hown, hts, hr, hlk, hnm, hK, hA, hN, hC⟩ := id B
  have hown : s.vm.findClass RX7 = some m.cls := hown
  have hl : lv_has ls 9 [(0, .ref h), (1, .int x1), (2, .int x2), (3, .int x3)] := hl
  have w_0 : (Cond.fieldLink RX7 51 "WishSeaModel" "bank" "I").before args s = true := hts _ (List.mem_of_getElem? (i := 1) rfl)
  have w_1 : (Cond.constantLong RX7 542 (255)).before args s = true := hts _ (List.mem_of_getElem? (i := 2) rfl)
  have hinX7 : ∀ w ∈ u_ws RX7 TX7 92, w ∈ wsX7_letter := fun _ h => List.mem_cons_of_mem _ (List.mem_append_right _ h)
  refine lv_iload_n hx hb dX7_letter_0 rfl (lv_at hl 1 rfl) ?_
  refine lv_iconst (v := 0) hx hb dX7_letter_1 (by decide +kernel) ?_
  refine lv_iconst (v := 1) hx hb dX7_letter_2 (by decide +kernel) ?_
  refine k_ci (wc := []) (wr := [(h, .inr (7, oM r i j)), ((r 14), .inl (cI, 2, .inl f14)), ((r 18), .inl (cI, 2, .inl f18)), ((r 34), .inl (cJ, 20, .inr (.inl g34))), ((r 35), .inl (cJ, 24, .inr (.inl g35)))]) (fun hPc hDc hFc => va_runS (As := [.int x1, .int 0, .int 1]) (rest := []) ⟨hx, hb, hml, hown, hts⟩ (s_X7_is_v0 l dC dI cI cJ cZ cM x1 0 1 H.size) (va_cwS 3 hts gX7_letter_X7_is rfl rfl rfl (by decide +kernel) ⟨(Nat.le_of_ble_eq_true rfl), (Nat.le_of_ble_eq_true rfl)⟩) (k_pS hPc hDc hK hN hC hS hFc) rfl rfl hl.1 rfl (lv_room (Nat.le_of_ble_eq_true rfl)) dX7_letter_3 ⟨(Nat.le_of_ble_eq_true rfl), (Nat.le_of_ble_eq_true rfl)⟩) hP hD hS hA [] [0, 1, 2, 3, 4] rfl rfl rfl rfl (by decide) (fun _ => rfl) 0 0 rfl rfl (fun r_3 u_3 H locs hw hP hD hS => ?_)
  obtain ⟨g_3_0, g_3_1⟩ := hw
  have hP : va_P (dC, dI) vwCl [(h, .inr (7, oM r i j)), ((r 14), .inl (cI, 2, .inl f14)), ((r 18), .inl (cI, 2, .inl f18)), ((r 34), .inl (cJ, 20, .inr (.inl g34))), ((r 35), .inl (cJ, 24, .inr (.inl g35)))] H := hP
  have hD : va_D A [(h, .inr (7, oM r i j)), ((r 14), .inl (cI, 2, .inl f14)), ((r 18), .inl (cI, 2, .inl f18)), ((r 34), .inl (cJ, 20, .inr (.inl g34))), ((r 35), .inl (cJ, 24, .inr (.inl g35)))] := hD
  have g_3_1 : (r_3 = 0) ∨ ((0 ≤ x1) ∧ (x1 ≤ 1)) := g_3_1
  have J_37 : ∀   (H : Heap) (locs : List Loc) (ls : Array Slot), va_P (dC, dI) vwCl [(h, .inr (7, oM r i j)), ((r 14), .inl (cI, 2, .inl f14)), ((r 18), .inl (cI, 2, .inl f18)), ((r 34), .inl (cJ, 20, .inr (.inl g34))), ((r 35), .inl (cJ, 24, .inr (.inl g35)))] H → va_D A [(h, .inr (7, oM r i j)), ((r 14), .inl (cI, 2, .inl f14)), ((r 18), .inl (cI, 2, .inl f18)), ((r 34), .inl (cJ, 20, .inr (.inl g34))), ((r 35), .inl (cJ, 24, .inr (.inl g35)))] → va_S A s.heap H locs → lv_has ls 9 [] → W p l e ({ frames := 2, cells := 0, slots := 0, locals := 63 }) s m args below meth c H locs 0 0 (MQ below (va_Qi (fun (r9 : Int32) (u9 : Unit) => True) (fun u => k_B (dC, dI) vwCl (tyy cI cJ cZ cM) A ((fun (u9 : Unit) => [(h, .inr (7, oM r i j)), ((r 14), .inl (cI, 2, .inl f14)), ((r 18), .inl (cI, 2, .inl f18)), ((r 34), .inl (cJ, 20, .inr (.inl g34))), ((r 35), .inl (cJ, 24, .inr (.inl g35)))]) u)) A) args s 0 0 A) (F0 m 37 ls []) := by
    intro   H locs ls hP hD hS hl
    refine lv_iconst (v := (-1)) hx hb dX7_letter_37 (by decide +kernel) ?_
    exact k_ri B hP hD hS dX7_letter_38 () [0, 1, 2, 3, 4] rfl rfl rfl (Nat.le_of_ble_eq_true rfl) (Nat.le_of_ble_eq_true rfl) trivial
  refine lv_if_eq (tgt := 37) hx hb dX7_letter_6 (by decide) (fun c_6 => ?_) (fun c_6 => ?_)
  · have c_6 : r_3 = 0 := c_6
    have f_37_1 : iR r_3 0 0 := iR_eqL c_6 g_3_0 (iR_c (n := 0) (a := 0) (b := 0) (by decide +kernel) (by decide +kernel)) (by decide +kernel)
    exact J_37   H locs ls hP hD hS (lv_sub hl [] rfl)
  · have c_6 : ¬ r_3 = 0 := c_6
    have f_9_1 : iR r_3 1 1 := iR_neL c_6 g_3_0 (iR_c (n := 0) (a := 0) (b := 0) (by decide +kernel) (by decide +kernel)) (by decide +kernel)
    obtain ⟨d_6_1_0, d_6_1_1⟩ := g_3_1.resolve_left c_6
    have f_9_2 : iR x1 0 2147483647 := iR_leR d_6_1_0 (iR_c (n := 0) (a := 0) (b := 0) (by decide +kernel) (by decide +kernel)) (iR_top _) (by decide +kernel)
    have f_9_3 : iR x1 0 1 := iR_leL d_6_1_1 f_9_2 (iR_c (n := 1) (a := 1) (b := 1) (by decide +kernel) (by decide +kernel)) (by decide +kernel)
    rcases (show x1.toInt = 0 ∨ x1.toInt = 1 by have q9 := f_9_3; unfold iR at q9; omega) with c_9 | c_9
    · obtain rfl : x1 = 0 := k_eqL (by decide +kernel) c_9
      refine lv_iload_n hx hb dX7_letter_9 rfl (lv_at hl 2 rfl) ?_
      refine lv_iconst (v := 0) hx hb dX7_letter_10 (by decide +kernel) ?_
      refine lv_aload_n hx hb dX7_letter_11 rfl (lv_at hl 0 rfl) ?_
      refine lv_aload_n hx hb dX7_letter_12 rfl (lv_at hl 0 rfl) ?_
      have f_13v0_4 : iR (i 13) 0 1 := hI 13
      refine k_get (D := (dC, dI)) (ci := 7) (v := .int (i 13)) (C := RX7) (T := TX7) (N := 92) hx hb hts hinX7 hown hK hP 0 rfl rfl 13 (by decide) w_0 rfl rfl dX7_letter_13 ?_
      refine lv_iload_n hx hb dX7_letter_16 rfl (lv_at hl 1 rfl) ?_
      refine k_ci (wc := [(h, .inr (7, oM r i j)), ((r 14), .inl (cI, 2, .inl f14))]) (wr := [((r 18), .inl (cI, 2, .inl f18)), ((r 34), .inl (cJ, 20, .inr (.inl g34))), ((r 35), .inl (cJ, 24, .inr (.inl g35)))]) (fun hPc hDc hFc => va_runV (As := [.int (i 13), .int 0]) (rest := [.int 0, .int x2]) ⟨hx, hb, hml, hown, hts⟩ (s_X7_manyOf_v2 l dC dI cI cJ cZ cM h r i j (i 13) f14 f_13v0_4 hI hf14 H.size) (cwV 2 hts gX7_letter_X7_manyOf rfl rfl rfl (by decide +kernel) ⟨(Nat.le_of_ble_eq_true rfl), (Nat.le_of_ble_eq_true rfl)⟩) (k_pV hPc hDc hK hN hC hS hFc hP (q0 := 0) (ci := 7) rfl rfl) rfl rfl hl.1 rfl (lv_room (Nat.le_of_ble_eq_true rfl)) dX7_letter_17 ⟨(Nat.le_of_ble_eq_true rfl), (Nat.le_of_ble_eq_true rfl)⟩) hP hD hS hA [0, 1] [2, 3, 4] rfl rfl rfl rfl (by decide) (fun _ => rfl) 0 0 rfl rfl (fun r_17v0 u_17v0 H locs hw hP hD hS => ?_)
      have g_17v0_0 := hw
      obtain rfl : r_17v0 = (f14 (i 13).toNatClampNeg) := g_17v0_0
      have hP : va_P (dC, dI) vwCl [((r 18), .inl (cI, 2, .inl f18)), ((r 34), .inl (cJ, 20, .inr (.inl g34))), ((r 35), .inl (cJ, 24, .inr (.inl g35))), (h, .inr (7, oM r i j)), ((r 14), .inl (cI, 2, .inl f14))] H := hP
      have hD : va_D A [((r 18), .inl (cI, 2, .inl f18)), ((r 34), .inl (cJ, 20, .inr (.inl g34))), ((r 35), .inl (cJ, 24, .inr (.inl g35))), (h, .inr (7, oM r i j)), ((r 14), .inl (cI, 2, .inl f14))] := hD
      refine lv_iconst (v := 1) hx hb dX7_letter_20 (by decide +kernel) ?_
      refine lv_isub hx hb dX7_letter_21 ?_
      refine lv_topi (fun y_21v0 ey_21v0 => ?_)
      have f_21v0_5 : iR y_21v0 (-1) 9 := iR_sub ey_21v0 (show iR (f14 (i 13).toNatClampNeg) 0 10 from hf14 _) (iR_c (n := 1) (a := 1) (b := 1) (by decide +kernel) (by decide +kernel)) (by decide +kernel)
      refine k_ci (wc := []) (wr := [((r 18), .inl (cI, 2, .inl f18)), ((r 34), .inl (cJ, 20, .inr (.inl g34))), ((r 35), .inl (cJ, 24, .inr (.inl g35))), (h, .inr (7, oM r i j)), ((r 14), .inl (cI, 2, .inl f14))]) (fun hPc hDc hFc => va_runS (As := [.int x2, .int 0, .int y_21v0]) (rest := []) ⟨hx, hb, hml, hown, hts⟩ (s_X7_is_v0 l dC dI cI cJ cZ cM x2 0 y_21v0 H.size) (va_cwS 3 hts gX7_letter_X7_is rfl rfl rfl (by decide +kernel) ⟨(Nat.le_of_ble_eq_true rfl), (Nat.le_of_ble_eq_true rfl)⟩) (k_pS hPc hDc hK hN hC hS hFc) rfl rfl hl.1 rfl (lv_room (Nat.le_of_ble_eq_true rfl)) dX7_letter_22 ⟨(Nat.le_of_ble_eq_true rfl), (Nat.le_of_ble_eq_true rfl)⟩) hP hD hS hA [] [0, 1, 2, 3, 4] rfl rfl rfl rfl (by decide) (fun _ => rfl) 0 0 rfl rfl (fun r_22v0 u_22v0 H locs hw hP hD hS => ?_)
      obtain ⟨g_22v0_0, g_22v0_1⟩ := hw
      have hP : va_P (dC, dI) vwCl [((r 18), .inl (cI, 2, .inl f18)), ((r 34), .inl (cJ, 20, .inr (.inl g34))), ((r 35), .inl (cJ, 24, .inr (.inl g35))), (h, .inr (7, oM r i j)), ((r 14), .inl (cI, 2, .inl f14))] H := hP
      have hD : va_D A [((r 18), .inl (cI, 2, .inl f18)), ((r 34), .inl (cJ, 20, .inr (.inl g34))), ((r 35), .inl (cJ, 24, .inr (.inl g35))), (h, .inr (7, oM r i j)), ((r 14), .inl (cI, 2, .inl f14))] := hD
      have g_22v0_1 : (r_22v0 = 0) ∨ ((0 ≤ x2) ∧ (x2 ≤ y_21v0)) := g_22v0_1
      refine lv_if_eq (tgt := 37) hx hb dX7_letter_25 (by decide) (fun c_25v0 => ?_) (fun c_25v0 => ?_)
      · have c_25v0 : r_22v0 = 0 := c_25v0
        have f_37v0_6 : iR r_22v0 0 0 := iR_eqL c_25v0 g_22v0_0 (iR_c (n := 0) (a := 0) (b := 0) (by decide +kernel) (by decide +kernel)) (by decide +kernel)
        exact J_37   H locs ls (hP.sub [3, 4, 0, 1, 2] rfl) (hD.sub [3, 4, 0, 1, 2] (by decide +kernel) rfl) hS (lv_sub hl [] rfl)
      · have c_25v0 : ¬ r_22v0 = 0 := c_25v0
        have f_28v0_6 : iR r_22v0 1 1 := iR_neL c_25v0 g_22v0_0 (iR_c (n := 0) (a := 0) (b := 0) (by decide +kernel) (by decide +kernel)) (by decide +kernel)
        obtain ⟨d_25v0_2_0, d_25v0_2_1⟩ := g_22v0_1.resolve_left c_25v0
        have f_28v0_7 : iR x2 0 2147483647 := iR_leR d_25v0_2_0 (iR_c (n := 0) (a := 0) (b := 0) (by decide +kernel) (by decide +kernel)) (iR_top _) (by decide +kernel)
        have f_28v0_8 : iR x2 0 9 := iR_leL d_25v0_2_1 f_28v0_7 f_21v0_5 (by decide +kernel)
        have f_28v0_9 : iR y_21v0 0 9 := iR_leR d_25v0_2_1 f_28v0_7 f_21v0_5 (by decide +kernel)
        refine lv_iload_n hx hb dX7_letter_28 rfl (lv_at hl 3 rfl) ?_
        refine lv_iconst (v := 0) hx hb dX7_letter_29 (by decide +kernel) ?_
        refine lv_iconst (v := 5) hx hb dX7_letter_30 (by decide +kernel) ?_
        refine k_ci (wc := []) (wr := [((r 18), .inl (cI, 2, .inl f18)), ((r 34), .inl (cJ, 20, .inr (.inl g34))), ((r 35), .inl (cJ, 24, .inr (.inl g35))), (h, .inr (7, oM r i j)), ((r 14), .inl (cI, 2, .inl f14))]) (fun hPc hDc hFc => va_runS (As := [.int x3, .int 0, .int 5]) (rest := []) ⟨hx, hb, hml, hown, hts⟩ (s_X7_is_v0 l dC dI cI cJ cZ cM x3 0 5 H.size) (va_cwS 3 hts gX7_letter_X7_is rfl rfl rfl (by decide +kernel) ⟨(Nat.le_of_ble_eq_true rfl), (Nat.le_of_ble_eq_true rfl)⟩) (k_pS hPc hDc hK hN hC hS hFc) rfl rfl hl.1 rfl (lv_room (Nat.le_of_ble_eq_true rfl)) dX7_letter_31 ⟨(Nat.le_of_ble_eq_true rfl), (Nat.le_of_ble_eq_true rfl)⟩) hP hD hS hA [] [0, 1, 2, 3, 4] rfl rfl rfl rfl (by decide) (fun _ => rfl) 0 0 rfl rfl (fun r_31v0 u_31v0 H locs hw hP hD hS => ?_)
        obtain ⟨g_31v0_0, g_31v0_1⟩ := hw
        have hP : va_P (dC, dI) vwCl [((r 18), .inl (cI, 2, .inl f18)), ((r 34), .inl (cJ, 20, .inr (.inl g34))), ((r 35), .inl (cJ, 24, .inr (.inl g35))), (h, .inr (7, oM r i j)), ((r 14), .inl (cI, 2, .inl f14))] H := hP
        have hD : va_D A [((r 18), .inl (cI, 2, .inl f18)), ((r 34), .inl (cJ, 20, .inr (.inl g34))), ((r 35), .inl (cJ, 24, .inr (.inl g35))), (h, .inr (7, oM r i j)), ((r 14), .inl (cI, 2, .inl f14))] := hD
        have g_31v0_1 : (r_31v0 = 0) ∨ ((0 ≤ x3) ∧ (x3 ≤ 5)) := g_31v0_1
        refine lv_if_ne (tgt := 39) hx hb dX7_letter_34 (by decide) (fun c_34v0 => ?_) (fun c_34v0 => ?_)
        · have c_34v0 : ¬ r_31v0 = 0 := c_34v0
          have f_39v0_10 : iR r_31v0 1 1 := iR_neL c_34v0 g_31v0_0 (iR_c (n := 0) (a := 0) (b := 0) (by decide +kernel) (by decide +kernel)) (by decide +kernel)
          obtain ⟨d_34v0_3_0, d_34v0_3_1⟩ := g_31v0_1.resolve_left c_34v0
          have f_39v0_11 : iR x3 0 2147483647 := iR_leR d_34v0_3_0 (iR_c (n := 0) (a := 0) (b := 0) (by decide +kernel) (by decide +kernel)) (iR_top _) (by decide +kernel)
          have f_39v0_12 : iR x3 0 5 := iR_leL d_34v0_3_1 f_39v0_11 (iR_c (n := 5) (a := 5) (b := 5) (by decide +kernel) (by decide +kernel)) (by decide +kernel)
          refine lv_aload_n hx hb dX7_letter_39 rfl (lv_at hl 0 rfl) ?_
          refine lv_aload_n hx hb dX7_letter_40 rfl (lv_at hl 0 rfl) ?_
          refine k_get (D := (dC, dI)) (ci := 7) (v := .int (i 13)) (C := RX7) (T := TX7) (N := 92) hx hb hts hinX7 hown hK hP 3 rfl rfl 13 (by decide) w_0 rfl rfl dX7_letter_41 ?_
          refine lv_iload_n hx hb dX7_letter_44 rfl (lv_at hl 1 rfl) ?_
          refine lv_iload_n hx hb dX7_letter_45 rfl (lv_at hl 2 rfl) ?_
          refine k_cl (wc := [(h, .inr (7, oM r i j)), ((r 34), .inl (cJ, 20, .inr (.inl g34)))]) (wr := [((r 18), .inl (cI, 2, .inl f18)), ((r 35), .inl (cJ, 24, .inr (.inl g35))), ((r 14), .inl (cI, 2, .inl f14))]) (fun hPc hDc hFc => va_runV (As := [.int (i 13), .int 0, .int x2]) (rest := []) ⟨hx, hb, hml, hown, hts⟩ (s_X7_nameOf_v2 l dC dI cI cJ cZ cM h r i j (i 13) x2 g34 f_13v0_4 f_28v0_8 hI H.size) (cwV 3 hts gX7_letter_X7_nameOf rfl rfl rfl (by decide +kernel) ⟨(Nat.le_of_ble_eq_true rfl), (Nat.le_of_ble_eq_true rfl)⟩) (k_pV hPc hDc hK hN hC hS hFc hP (q0 := 3) (ci := 7) rfl rfl) rfl rfl hl.1 rfl (lv_room (Nat.le_of_ble_eq_true rfl)) dX7_letter_46 ⟨(Nat.le_of_ble_eq_true rfl), (Nat.le_of_ble_eq_true rfl)⟩) hP hD hS hA [3, 1] [0, 2, 4] rfl rfl rfl rfl (by decide) (fun _ => rfl) 0 0 rfl rfl (fun r_46v0 u_46v0 H locs hw hP hD hS => ?_)
          have hP : va_P (dC, dI) vwCl [((r 18), .inl (cI, 2, .inl f18)), ((r 35), .inl (cJ, 24, .inr (.inl g35))), ((r 14), .inl (cI, 2, .inl f14)), (h, .inr (7, oM r i j)), ((r 34), .inl (cJ, 20, .inr (.inl g34)))] H := hP
          have hD : va_D A [((r 18), .inl (cI, 2, .inl f18)), ((r 35), .inl (cJ, 24, .inr (.inl g35))), ((r 14), .inl (cI, 2, .inl f14)), (h, .inr (7, oM r i j)), ((r 34), .inl (cJ, 20, .inr (.inl g34)))] := hD
          refine lv_lstore (lv' := [(4, .long r_46v0), (0, .ref h), (1, .int 0), (2, .int x2), (3, .int x3)]) hx hb dX7_letter_49 hl (by decide) rfl (fun ls hl => ?_)
          refine lv_iconst (v := 0) hx hb dX7_letter_51 (by decide +kernel) ?_
          refine lv_istore (lv' := [(6, .int 0), (4, .long r_46v0), (0, .ref h), (1, .int 0), (2, .int x2), (3, .int x3)]) hx hb dX7_letter_52 hl (by decide) rfl (fun ls hl => ?_)
          refine lv_lload hx hb dX7_letter_54 (lv_at hl 1 rfl) ?_
          have J_58v0 : ∀ (n_58v0 : Nat) (j58v0_L6 : Int32) (j58v0_L7 : Int64)  (hm_58v0 : j58v0_L7.toInt.toNat < n_58v0) (H : Heap) (locs : List Loc) (ls : Array Slot), va_P (dC, dI) vwCl [(h, .inr (7, oM r i j)), ((r 14), .inl (cI, 2, .inl f14)), ((r 18), .inl (cI, 2, .inl f18)), ((r 34), .inl (cJ, 20, .inr (.inl g34))), ((r 35), .inl (cJ, 24, .inr (.inl g35)))] H → va_D A [(h, .inr (7, oM r i j)), ((r 14), .inl (cI, 2, .inl f14)), ((r 18), .inl (cI, 2, .inl f18)), ((r 34), .inl (cJ, 20, .inr (.inl g34))), ((r 35), .inl (cJ, 24, .inr (.inl g35)))] → va_S A s.heap H locs → lv_has ls 9 [(3, .int x3), (4, .long r_46v0), (6, .int j58v0_L6), (7, .long j58v0_L7)] → W p l e ({ frames := 2, cells := 0, slots := 0, locals := 63 }) s m args below meth c H locs 0 0 (MQ below (va_Qi (fun (r9 : Int32) (u9 : Unit) => True) (fun u => k_B (dC, dI) vwCl (tyy cI cJ cZ cM) A ((fun (u9 : Unit) => [(h, .inr (7, oM r i j)), ((r 14), .inl (cI, 2, .inl f14)), ((r 18), .inl (cI, 2, .inl f18)), ((r 34), .inl (cJ, 20, .inr (.inl g34))), ((r 35), .inl (cJ, 24, .inr (.inl g35)))]) u)) A) args s 0 0 A) (F0 m 58 ls []) := by
            intro n_58v0
            induction n_58v0 with
            | zero => intro j58v0_L6 j58v0_L7  hm_58v0; exact absurd hm_58v0 (Nat.not_lt_zero _)
            | succ n_58v0 ih_58v0 =>
              intro j58v0_L6 j58v0_L7  hm_58v0 H locs ls hP hD hS hl
              refine lv_lload hx hb dX7_letter_58 (lv_at hl 3 rfl) ?_
              refine lv_lconst (v := 0) hx hb dX7_letter_60 (by decide +kernel) ?_
              refine W.lcmp hx hb dX7_letter_61 ?_
              refine lv_topi (fun y_61v0 ey_61v0 => ?_)
              refine lv_if_le (tgt := 78) hx hb dX7_letter_62 (by decide) (fun c_62v0 => ?_) (fun c_62v0 => ?_)
              · have c_62v0 : y_61v0 ≤ 0 := c_62v0
                have f_78v0_1 : iR y_61v0 (-2147483648) 0 := iR_leL c_62v0 (iR_top _) (iR_c (n := 0) (a := 0) (b := 0) (by decide +kernel) (by decide +kernel)) (by decide +kernel)
                have lc_62v0 : j58v0_L7 ≤ 0 := l_cmple ey_61v0 c_62v0
                refine lv_iload_n hx hb dX7_letter_78 rfl (lv_at hl 0 rfl) ?_
                refine lv_iload hx hb dX7_letter_79 (lv_at hl 2 rfl) ?_
                refine lv_icmp_lt (tgt := 88) hx hb dX7_letter_81 (by decide) (fun c_81v0 => ?_) (fun c_81v0 => ?_)
                · have c_81v0 : x3 < j58v0_L6 := c_81v0
                  have f_88v0_2 : iR j58v0_L6 1 2147483647 := iR_ltR c_81v0 f_39v0_12 (iR_top _) (by decide +kernel)
                  refine lv_lload hx hb dX7_letter_88 (lv_at hl 1 rfl) ?_
                  refine lv_bipush (v := 8) hx hb dX7_letter_90 (by decide +kernel) ?_
                  refine lv_iload hx hb dX7_letter_92 (lv_at hl 2 rfl) ?_
                  refine lv_iconst (v := 1) hx hb dX7_letter_94 (by decide +kernel) ?_
                  refine lv_isub hx hb dX7_letter_95 ?_
                  refine lv_topi (fun y_95v0 ey_95v0 => ?_)
                  have f_95v0_3 : iR y_95v0 0 2147483646 := iR_sub ey_95v0 f_88v0_2 (iR_c (n := 1) (a := 1) (b := 1) (by decide +kernel) (by decide +kernel)) (by decide +kernel)
                  refine lv_iload_n hx hb dX7_letter_96 rfl (lv_at hl 0 rfl) ?_
                  refine lv_isub hx hb dX7_letter_97 ?_
                  refine lv_topi (fun y_97v0 ey_97v0 => ?_)
                  have f_97v0_4 : iR y_97v0 (-5) 2147483646 := iR_sub ey_97v0 f_95v0_3 f_39v0_12 (by decide +kernel)
                  refine lv_imul hx hb dX7_letter_98 ?_
                  refine lv_topi (fun y_98v0 ey_98v0 => ?_)
                  refine lv_lshr (v := r_46v0 >>> (y_98v0.toInt64 &&& 63)) hx hb dX7_letter_99 rfl ?_
                  refine lv_topl (fun y_99v0 ey_99v0 => ?_)
                  refine lv_ldc2 (v := 255) hx hb hown w_1 dX7_letter_100 ?_
                  refine lv_land hx hb dX7_letter_103 ?_
                  refine lv_topl (fun y_103v0 ey_103v0 => ?_)
                  refine lv_l2i (v := y_103v0.toInt32) hx hb dX7_letter_104 rfl ?_
                  refine lv_topi (fun y_104v0 ey_104v0 => ?_)
                  refine lv_bipush (v := 97) hx hb dX7_letter_105 (by decide +kernel) ?_
                  refine lv_isub hx hb dX7_letter_107 ?_
                  refine lv_topi (fun y_107v0 ey_107v0 => ?_)
                  refine lv_iconst (v := 1) hx hb dX7_letter_108 (by decide +kernel) ?_
                  refine lv_iadd hx hb dX7_letter_109 ?_
                  refine lv_topi (fun y_109v0 ey_109v0 => ?_)
                  exact k_ri B hP hD hS dX7_letter_110 () [0, 1, 2, 3, 4] rfl rfl rfl (Nat.le_of_ble_eq_true rfl) (Nat.le_of_ble_eq_true rfl) trivial
                · have c_81v0 : j58v0_L6 ≤ x3 := i_nlt c_81v0
                  have f_84v0_2 : iR j58v0_L6 (-2147483648) 5 := iR_leL c_81v0 (iR_top _) f_39v0_12 (by decide +kernel)
                  refine lv_iconst (v := 0) hx hb dX7_letter_84 (by decide +kernel) ?_
                  refine lv_goto (tgt := 110) hx hb dX7_letter_85 (by decide) ?_
                  exact k_ri B hP hD hS dX7_letter_110 () [0, 1, 2, 3, 4] rfl rfl rfl (Nat.le_of_ble_eq_true rfl) (Nat.le_of_ble_eq_true rfl) trivial
              · have c_62v0 : 0 < y_61v0 := i_nle c_62v0
                have f_65v0_1 : iR y_61v0 1 2147483647 := iR_ltR c_62v0 (iR_c (n := 0) (a := 0) (b := 0) (by decide +kernel) (by decide +kernel)) (iR_top _) (by decide +kernel)
                have lc_62v0 : 0 < j58v0_L7 := l_cmpgt ey_61v0 c_62v0
                obtain ⟨y_65v0, ey_65v0⟩ : ∃ y : Int32, y = j58v0_L6 + 1 := ⟨_, rfl⟩
                refine lv_iinc (v := y_65v0) (lv' := [(6, .int y_65v0), (3, .int x3), (4, .long r_46v0), (7, .long j58v0_L7)]) hx hb dX7_letter_65 hl (k := 2) rfl ey_65v0.symm (by decide) rfl (fun ls hl => ?_)
                refine lv_lload hx hb dX7_letter_68 (lv_at hl 3 rfl) ?_
                refine lv_bipush (v := 8) hx hb dX7_letter_70 (by decide +kernel) ?_
                refine lv_lshr (v := j58v0_L7 >>> ((8 : Int32).toInt64 &&& 63)) hx hb dX7_letter_72 rfl ?_
                refine lv_topl (fun y_72v0 ey_72v0 => ?_)
                refine lv_lstore (lv' := [(7, .long y_72v0), (6, .int y_65v0), (3, .int x3), (4, .long r_46v0)]) hx hb dX7_letter_73 hl (by decide) rfl (fun ls hl => ?_)
                refine lv_goto (tgt := 58) hx hb dX7_letter_75 (by decide) ?_
                exact ih_58v0 y_65v0 y_72v0  (m_shr8 hm_58v0 ey_72v0 lc_62v0) H locs ls hP hD hS (lv_sub hl [2, 3, 1, 0] rfl)
          refine lv_lstore (lv' := [(7, .long r_46v0), (6, .int 0), (4, .long r_46v0), (0, .ref h), (1, .int 0), (2, .int x2), (3, .int x3)]) hx hb dX7_letter_56 hl (by decide) rfl (fun ls hl => ?_)
          exact J_58v0 _ 0 r_46v0  (Nat.lt_succ_self _) H locs ls (hP.sub [3, 2, 0, 4, 1] rfl) (hD.sub [3, 2, 0, 4, 1] (by decide +kernel) rfl) hS (lv_sub hl [6, 2, 1, 0] rfl)
        · have c_34v0 : r_31v0 = 0 := c_34v0
          have f_37v0_10 : iR r_31v0 0 0 := iR_eqL c_34v0 g_31v0_0 (iR_c (n := 0) (a := 0) (b := 0) (by decide +kernel) (by decide +kernel)) (by decide +kernel)
          exact J_37   H locs ls (hP.sub [3, 4, 0, 1, 2] rfl) (hD.sub [3, 4, 0, 1, 2] (by decide +kernel) rfl) hS (lv_sub hl [] rfl)
    · obtain rfl : x1 = 1 := k_eqL (by decide +kernel) c_9
      refine lv_iload_n hx hb dX7_letter_9 rfl (lv_at hl 2 rfl) ?_
      refine lv_iconst (v := 0) hx hb dX7_letter_10 (by decide +kernel) ?_
      refine lv_aload_n hx hb dX7_letter_11 rfl (lv_at hl 0 rfl) ?_
      refine lv_aload_n hx hb dX7_letter_12 rfl (lv_at hl 0 rfl) ?_
      have f_13v1_4 : iR (i 13) 0 1 := hI 13
      refine k_get (D := (dC, dI)) (ci := 7) (v := .int (i 13)) (C := RX7) (T := TX7) (N := 92) hx hb hts hinX7 hown hK hP 0 rfl rfl 13 (by decide) w_0 rfl rfl dX7_letter_13 ?_
      refine lv_iload_n hx hb dX7_letter_16 rfl (lv_at hl 1 rfl) ?_
      refine k_ci (wc := [(h, .inr (7, oM r i j)), ((r 18), .inl (cI, 2, .inl f18))]) (wr := [((r 14), .inl (cI, 2, .inl f14)), ((r 34), .inl (cJ, 20, .inr (.inl g34))), ((r 35), .inl (cJ, 24, .inr (.inl g35)))]) (fun hPc hDc hFc => va_runV (As := [.int (i 13), .int 1]) (rest := [.int 0, .int x2]) ⟨hx, hb, hml, hown, hts⟩ (s_X7_manyOf_v3 l dC dI cI cJ cZ cM h r i j (i 13) f18 f_13v1_4 hI hf18 H.size) (cwV 2 hts gX7_letter_X7_manyOf rfl rfl rfl (by decide +kernel) ⟨(Nat.le_of_ble_eq_true rfl), (Nat.le_of_ble_eq_true rfl)⟩) (k_pV hPc hDc hK hN hC hS hFc hP (q0 := 0) (ci := 7) rfl rfl) rfl rfl hl.1 rfl (lv_room (Nat.le_of_ble_eq_true rfl)) dX7_letter_17 ⟨(Nat.le_of_ble_eq_true rfl), (Nat.le_of_ble_eq_true rfl)⟩) hP hD hS hA [0, 2] [1, 3, 4] rfl rfl rfl rfl (by decide) (fun _ => rfl) 0 0 rfl rfl (fun r_17v1 u_17v1 H locs hw hP hD hS => ?_)
      have g_17v1_0 := hw
      obtain rfl : r_17v1 = (f18 (i 13).toNatClampNeg) := g_17v1_0
      have hP : va_P (dC, dI) vwCl [((r 14), .inl (cI, 2, .inl f14)), ((r 34), .inl (cJ, 20, .inr (.inl g34))), ((r 35), .inl (cJ, 24, .inr (.inl g35))), (h, .inr (7, oM r i j)), ((r 18), .inl (cI, 2, .inl f18))] H := hP
      have hD : va_D A [((r 14), .inl (cI, 2, .inl f14)), ((r 34), .inl (cJ, 20, .inr (.inl g34))), ((r 35), .inl (cJ, 24, .inr (.inl g35))), (h, .inr (7, oM r i j)), ((r 18), .inl (cI, 2, .inl f18))] := hD
      refine lv_iconst (v := 1) hx hb dX7_letter_20 (by decide +kernel) ?_
      refine lv_isub hx hb dX7_letter_21 ?_
      refine lv_topi (fun y_21v1 ey_21v1 => ?_)
      have f_21v1_5 : iR y_21v1 (-1) 11 := iR_sub ey_21v1 (show iR (f18 (i 13).toNatClampNeg) 0 12 from hf18 _) (iR_c (n := 1) (a := 1) (b := 1) (by decide +kernel) (by decide +kernel)) (by decide +kernel)
      refine k_ci (wc := []) (wr := [((r 14), .inl (cI, 2, .inl f14)), ((r 34), .inl (cJ, 20, .inr (.inl g34))), ((r 35), .inl (cJ, 24, .inr (.inl g35))), (h, .inr (7, oM r i j)), ((r 18), .inl (cI, 2, .inl f18))]) (fun hPc hDc hFc => va_runS (As := [.int x2, .int 0, .int y_21v1]) (rest := []) ⟨hx, hb, hml, hown, hts⟩ (s_X7_is_v0 l dC dI cI cJ cZ cM x2 0 y_21v1 H.size) (va_cwS 3 hts gX7_letter_X7_is rfl rfl rfl (by decide +kernel) ⟨(Nat.le_of_ble_eq_true rfl), (Nat.le_of_ble_eq_true rfl)⟩) (k_pS hPc hDc hK hN hC hS hFc) rfl rfl hl.1 rfl (lv_room (Nat.le_of_ble_eq_true rfl)) dX7_letter_22 ⟨(Nat.le_of_ble_eq_true rfl), (Nat.le_of_ble_eq_true rfl)⟩) hP hD hS hA [] [0, 1, 2, 3, 4] rfl rfl rfl rfl (by decide) (fun _ => rfl) 0 0 rfl rfl (fun r_22v1 u_22v1 H locs hw hP hD hS => ?_)
      obtain ⟨g_22v1_0, g_22v1_1⟩ := hw
      have hP : va_P (dC, dI) vwCl [((r 14), .inl (cI, 2, .inl f14)), ((r 34), .inl (cJ, 20, .inr (.inl g34))), ((r 35), .inl (cJ, 24, .inr (.inl g35))), (h, .inr (7, oM r i j)), ((r 18), .inl (cI, 2, .inl f18))] H := hP
      have hD : va_D A [((r 14), .inl (cI, 2, .inl f14)), ((r 34), .inl (cJ, 20, .inr (.inl g34))), ((r 35), .inl (cJ, 24, .inr (.inl g35))), (h, .inr (7, oM r i j)), ((r 18), .inl (cI, 2, .inl f18))] := hD
      have g_22v1_1 : (r_22v1 = 0) ∨ ((0 ≤ x2) ∧ (x2 ≤ y_21v1)) := g_22v1_1
      refine lv_if_eq (tgt := 37) hx hb dX7_letter_25 (by decide) (fun c_25v1 => ?_) (fun c_25v1 => ?_)
      · have c_25v1 : r_22v1 = 0 := c_25v1
        have f_37v1_6 : iR r_22v1 0 0 := iR_eqL c_25v1 g_22v1_0 (iR_c (n := 0) (a := 0) (b := 0) (by decide +kernel) (by decide +kernel)) (by decide +kernel)
        exact J_37   H locs ls (hP.sub [3, 0, 4, 1, 2] rfl) (hD.sub [3, 0, 4, 1, 2] (by decide +kernel) rfl) hS (lv_sub hl [] rfl)
      · have c_25v1 : ¬ r_22v1 = 0 := c_25v1
        have f_28v1_6 : iR r_22v1 1 1 := iR_neL c_25v1 g_22v1_0 (iR_c (n := 0) (a := 0) (b := 0) (by decide +kernel) (by decide +kernel)) (by decide +kernel)
        obtain ⟨d_25v1_2_0, d_25v1_2_1⟩ := g_22v1_1.resolve_left c_25v1
        have f_28v1_7 : iR x2 0 2147483647 := iR_leR d_25v1_2_0 (iR_c (n := 0) (a := 0) (b := 0) (by decide +kernel) (by decide +kernel)) (iR_top _) (by decide +kernel)
        have f_28v1_8 : iR x2 0 11 := iR_leL d_25v1_2_1 f_28v1_7 f_21v1_5 (by decide +kernel)
        have f_28v1_9 : iR y_21v1 0 11 := iR_leR d_25v1_2_1 f_28v1_7 f_21v1_5 (by decide +kernel)
        refine lv_iload_n hx hb dX7_letter_28 rfl (lv_at hl 3 rfl) ?_
        refine lv_iconst (v := 0) hx hb dX7_letter_29 (by decide +kernel) ?_
        refine lv_iconst (v := 5) hx hb dX7_letter_30 (by decide +kernel) ?_
        refine k_ci (wc := []) (wr := [((r 14), .inl (cI, 2, .inl f14)), ((r 34), .inl (cJ, 20, .inr (.inl g34))), ((r 35), .inl (cJ, 24, .inr (.inl g35))), (h, .inr (7, oM r i j)), ((r 18), .inl (cI, 2, .inl f18))]) (fun hPc hDc hFc => va_runS (As := [.int x3, .int 0, .int 5]) (rest := []) ⟨hx, hb, hml, hown, hts⟩ (s_X7_is_v0 l dC dI cI cJ cZ cM x3 0 5 H.size) (va_cwS 3 hts gX7_letter_X7_is rfl rfl rfl (by decide +kernel) ⟨(Nat.le_of_ble_eq_true rfl), (Nat.le_of_ble_eq_true rfl)⟩) (k_pS hPc hDc hK hN hC hS hFc) rfl rfl hl.1 rfl (lv_room (Nat.le_of_ble_eq_true rfl)) dX7_letter_31 ⟨(Nat.le_of_ble_eq_true rfl), (Nat.le_of_ble_eq_true rfl)⟩) hP hD hS hA [] [0, 1, 2, 3, 4] rfl rfl rfl rfl (by decide) (fun _ => rfl) 0 0 rfl rfl (fun r_31v1 u_31v1 H locs hw hP hD hS => ?_)
        obtain ⟨g_31v1_0, g_31v1_1⟩ := hw
        have hP : va_P (dC, dI) vwCl [((r 14), .inl (cI, 2, .inl f14)), ((r 34), .inl (cJ, 20, .inr (.inl g34))), ((r 35), .inl (cJ, 24, .inr (.inl g35))), (h, .inr (7, oM r i j)), ((r 18), .inl (cI, 2, .inl f18))] H := hP
        have hD : va_D A [((r 14), .inl (cI, 2, .inl f14)), ((r 34), .inl (cJ, 20, .inr (.inl g34))), ((r 35), .inl (cJ, 24, .inr (.inl g35))), (h, .inr (7, oM r i j)), ((r 18), .inl (cI, 2, .inl f18))] := hD
        have g_31v1_1 : (r_31v1 = 0) ∨ ((0 ≤ x3) ∧ (x3 ≤ 5)) := g_31v1_1
        refine lv_if_ne (tgt := 39) hx hb dX7_letter_34 (by decide) (fun c_34v1 => ?_) (fun c_34v1 => ?_)
        · have c_34v1 : ¬ r_31v1 = 0 := c_34v1
          have f_39v1_10 : iR r_31v1 1 1 := iR_neL c_34v1 g_31v1_0 (iR_c (n := 0) (a := 0) (b := 0) (by decide +kernel) (by decide +kernel)) (by decide +kernel)
          obtain ⟨d_34v1_3_0, d_34v1_3_1⟩ := g_31v1_1.resolve_left c_34v1
          have f_39v1_11 : iR x3 0 2147483647 := iR_leR d_34v1_3_0 (iR_c (n := 0) (a := 0) (b := 0) (by decide +kernel) (by decide +kernel)) (iR_top _) (by decide +kernel)
          have f_39v1_12 : iR x3 0 5 := iR_leL d_34v1_3_1 f_39v1_11 (iR_c (n := 5) (a := 5) (b := 5) (by decide +kernel) (by decide +kernel)) (by decide +kernel)
          refine lv_aload_n hx hb dX7_letter_39 rfl (lv_at hl 0 rfl) ?_
          refine lv_aload_n hx hb dX7_letter_40 rfl (lv_at hl 0 rfl) ?_
          refine k_get (D := (dC, dI)) (ci := 7) (v := .int (i 13)) (C := RX7) (T := TX7) (N := 92) hx hb hts hinX7 hown hK hP 3 rfl rfl 13 (by decide) w_0 rfl rfl dX7_letter_41 ?_
          refine lv_iload_n hx hb dX7_letter_44 rfl (lv_at hl 1 rfl) ?_
          refine lv_iload_n hx hb dX7_letter_45 rfl (lv_at hl 2 rfl) ?_
          refine k_cl (wc := [(h, .inr (7, oM r i j)), ((r 35), .inl (cJ, 24, .inr (.inl g35)))]) (wr := [((r 14), .inl (cI, 2, .inl f14)), ((r 34), .inl (cJ, 20, .inr (.inl g34))), ((r 18), .inl (cI, 2, .inl f18))]) (fun hPc hDc hFc => va_runV (As := [.int (i 13), .int 1, .int x2]) (rest := []) ⟨hx, hb, hml, hown, hts⟩ (s_X7_nameOf_v3 l dC dI cI cJ cZ cM h r i j (i 13) x2 g35 f_13v1_4 f_28v1_8 hI H.size) (cwV 3 hts gX7_letter_X7_nameOf rfl rfl rfl (by decide +kernel) ⟨(Nat.le_of_ble_eq_true rfl), (Nat.le_of_ble_eq_true rfl)⟩) (k_pV hPc hDc hK hN hC hS hFc hP (q0 := 3) (ci := 7) rfl rfl) rfl rfl hl.1 rfl (lv_room (Nat.le_of_ble_eq_true rfl)) dX7_letter_46 ⟨(Nat.le_of_ble_eq_true rfl), (Nat.le_of_ble_eq_true rfl)⟩) hP hD hS hA [3, 2] [0, 1, 4] rfl rfl rfl rfl (by decide) (fun _ => rfl) 0 0 rfl rfl (fun r_46v1 u_46v1 H locs hw hP hD hS => ?_)
          have hP : va_P (dC, dI) vwCl [((r 14), .inl (cI, 2, .inl f14)), ((r 34), .inl (cJ, 20, .inr (.inl g34))), ((r 18), .inl (cI, 2, .inl f18)), (h, .inr (7, oM r i j)), ((r 35), .inl (cJ, 24, .inr (.inl g35)))] H := hP
          have hD : va_D A [((r 14), .inl (cI, 2, .inl f14)), ((r 34), .inl (cJ, 20, .inr (.inl g34))), ((r 18), .inl (cI, 2, .inl f18)), (h, .inr (7, oM r i j)), ((r 35), .inl (cJ, 24, .inr (.inl g35)))] := hD
          refine lv_lstore (lv' := [(4, .long r_46v1), (0, .ref h), (1, .int 1), (2, .int x2), (3, .int x3)]) hx hb dX7_letter_49 hl (by decide) rfl (fun ls hl => ?_)
          refine lv_iconst (v := 0) hx hb dX7_letter_51 (by decide +kernel) ?_
          refine lv_istore (lv' := [(6, .int 0), (4, .long r_46v1), (0, .ref h), (1, .int 1), (2, .int x2), (3, .int x3)]) hx hb dX7_letter_52 hl (by decide) rfl (fun ls hl => ?_)
          refine lv_lload hx hb dX7_letter_54 (lv_at hl 1 rfl) ?_
          have J_58v1 : ∀ (n_58v1 : Nat) (j58v1_L6 : Int32) (j58v1_L7 : Int64)  (hm_58v1 : j58v1_L7.toInt.toNat < n_58v1) (H : Heap) (locs : List Loc) (ls : Array Slot), va_P (dC, dI) vwCl [(h, .inr (7, oM r i j)), ((r 14), .inl (cI, 2, .inl f14)), ((r 18), .inl (cI, 2, .inl f18)), ((r 34), .inl (cJ, 20, .inr (.inl g34))), ((r 35), .inl (cJ, 24, .inr (.inl g35)))] H → va_D A [(h, .inr (7, oM r i j)), ((r 14), .inl (cI, 2, .inl f14)), ((r 18), .inl (cI, 2, .inl f18)), ((r 34), .inl (cJ, 20, .inr (.inl g34))), ((r 35), .inl (cJ, 24, .inr (.inl g35)))] → va_S A s.heap H locs → lv_has ls 9 [(3, .int x3), (4, .long r_46v1), (6, .int j58v1_L6), (7, .long j58v1_L7)] → W p l e ({ frames := 2, cells := 0, slots := 0, locals := 63 }) s m args below meth c H locs 0 0 (MQ below (va_Qi (fun (r9 : Int32) (u9 : Unit) => True) (fun u => k_B (dC, dI) vwCl (tyy cI cJ cZ cM) A ((fun (u9 : Unit) => [(h, .inr (7, oM r i j)), ((r 14), .inl (cI, 2, .inl f14)), ((r 18), .inl (cI, 2, .inl f18)), ((r 34), .inl (cJ, 20, .inr (.inl g34))), ((r 35), .inl (cJ, 24, .inr (.inl g35)))]) u)) A) args s 0 0 A) (F0 m 58 ls []) := by
            intro n_58v1
            induction n_58v1 with
            | zero => intro j58v1_L6 j58v1_L7  hm_58v1; exact absurd hm_58v1 (Nat.not_lt_zero _)
            | succ n_58v1 ih_58v1 =>
              intro j58v1_L6 j58v1_L7  hm_58v1 H locs ls hP hD hS hl
              refine lv_lload hx hb dX7_letter_58 (lv_at hl 3 rfl) ?_
              refine lv_lconst (v := 0) hx hb dX7_letter_60 (by decide +kernel) ?_
              refine W.lcmp hx hb dX7_letter_61 ?_
              refine lv_topi (fun y_61v1 ey_61v1 => ?_)
              refine lv_if_le (tgt := 78) hx hb dX7_letter_62 (by decide) (fun c_62v1 => ?_) (fun c_62v1 => ?_)
              · have c_62v1 : y_61v1 ≤ 0 := c_62v1
                have f_78v1_1 : iR y_61v1 (-2147483648) 0 := iR_leL c_62v1 (iR_top _) (iR_c (n := 0) (a := 0) (b := 0) (by decide +kernel) (by decide +kernel)) (by decide +kernel)
                have lc_62v1 : j58v1_L7 ≤ 0 := l_cmple ey_61v1 c_62v1
                refine lv_iload_n hx hb dX7_letter_78 rfl (lv_at hl 0 rfl) ?_
                refine lv_iload hx hb dX7_letter_79 (lv_at hl 2 rfl) ?_
                refine lv_icmp_lt (tgt := 88) hx hb dX7_letter_81 (by decide) (fun c_81v1 => ?_) (fun c_81v1 => ?_)
                · have c_81v1 : x3 < j58v1_L6 := c_81v1
                  have f_88v1_2 : iR j58v1_L6 1 2147483647 := iR_ltR c_81v1 f_39v1_12 (iR_top _) (by decide +kernel)
                  refine lv_lload hx hb dX7_letter_88 (lv_at hl 1 rfl) ?_
                  refine lv_bipush (v := 8) hx hb dX7_letter_90 (by decide +kernel) ?_
                  refine lv_iload hx hb dX7_letter_92 (lv_at hl 2 rfl) ?_
                  refine lv_iconst (v := 1) hx hb dX7_letter_94 (by decide +kernel) ?_
                  refine lv_isub hx hb dX7_letter_95 ?_
                  refine lv_topi (fun y_95v1 ey_95v1 => ?_)
                  have f_95v1_3 : iR y_95v1 0 2147483646 := iR_sub ey_95v1 f_88v1_2 (iR_c (n := 1) (a := 1) (b := 1) (by decide +kernel) (by decide +kernel)) (by decide +kernel)
                  refine lv_iload_n hx hb dX7_letter_96 rfl (lv_at hl 0 rfl) ?_
                  refine lv_isub hx hb dX7_letter_97 ?_
                  refine lv_topi (fun y_97v1 ey_97v1 => ?_)
                  have f_97v1_4 : iR y_97v1 (-5) 2147483646 := iR_sub ey_97v1 f_95v1_3 f_39v1_12 (by decide +kernel)
                  refine lv_imul hx hb dX7_letter_98 ?_
                  refine lv_topi (fun y_98v1 ey_98v1 => ?_)
                  refine lv_lshr (v := r_46v1 >>> (y_98v1.toInt64 &&& 63)) hx hb dX7_letter_99 rfl ?_
                  refine lv_topl (fun y_99v1 ey_99v1 => ?_)
                  refine lv_ldc2 (v := 255) hx hb hown w_1 dX7_letter_100 ?_
                  refine lv_land hx hb dX7_letter_103 ?_
                  refine lv_topl (fun y_103v1 ey_103v1 => ?_)
                  refine lv_l2i (v := y_103v1.toInt32) hx hb dX7_letter_104 rfl ?_
                  refine lv_topi (fun y_104v1 ey_104v1 => ?_)
                  refine lv_bipush (v := 97) hx hb dX7_letter_105 (by decide +kernel) ?_
                  refine lv_isub hx hb dX7_letter_107 ?_
                  refine lv_topi (fun y_107v1 ey_107v1 => ?_)
                  refine lv_iconst (v := 1) hx hb dX7_letter_108 (by decide +kernel) ?_
                  refine lv_iadd hx hb dX7_letter_109 ?_
                  refine lv_topi (fun y_109v1 ey_109v1 => ?_)
                  exact k_ri B hP hD hS dX7_letter_110 () [0, 1, 2, 3, 4] rfl rfl rfl (Nat.le_of_ble_eq_true rfl) (Nat.le_of_ble_eq_true rfl) trivial
                · have c_81v1 : j58v1_L6 ≤ x3 := i_nlt c_81v1
                  have f_84v1_2 : iR j58v1_L6 (-2147483648) 5 := iR_leL c_81v1 (iR_top _) f_39v1_12 (by decide +kernel)
                  refine lv_iconst (v := 0) hx hb dX7_letter_84 (by decide +kernel) ?_
                  refine lv_goto (tgt := 110) hx hb dX7_letter_85 (by decide) ?_
                  exact k_ri B hP hD hS dX7_letter_110 () [0, 1, 2, 3, 4] rfl rfl rfl (Nat.le_of_ble_eq_true rfl) (Nat.le_of_ble_eq_true rfl) trivial
              · have c_62v1 : 0 < y_61v1 := i_nle c_62v1
                have f_65v1_1 : iR y_61v1 1 2147483647 := iR_ltR c_62v1 (iR_c (n := 0) (a := 0) (b := 0) (by decide +kernel) (by decide +kernel)) (iR_top _) (by decide +kernel)
                have lc_62v1 : 0 < j58v1_L7 := l_cmpgt ey_61v1 c_62v1
                obtain ⟨y_65v1, ey_65v1⟩ : ∃ y : Int32, y = j58v1_L6 + 1 := ⟨_, rfl⟩
                refine lv_iinc (v := y_65v1) (lv' := [(6, .int y_65v1), (3, .int x3), (4, .long r_46v1), (7, .long j58v1_L7)]) hx hb dX7_letter_65 hl (k := 2) rfl ey_65v1.symm (by decide) rfl (fun ls hl => ?_)
                refine lv_lload hx hb dX7_letter_68 (lv_at hl 3 rfl) ?_
                refine lv_bipush (v := 8) hx hb dX7_letter_70 (by decide +kernel) ?_
                refine lv_lshr (v := j58v1_L7 >>> ((8 : Int32).toInt64 &&& 63)) hx hb dX7_letter_72 rfl ?_
                refine lv_topl (fun y_72v1 ey_72v1 => ?_)
                refine lv_lstore (lv' := [(7, .long y_72v1), (6, .int y_65v1), (3, .int x3), (4, .long r_46v1)]) hx hb dX7_letter_73 hl (by decide) rfl (fun ls hl => ?_)
                refine lv_goto (tgt := 58) hx hb dX7_letter_75 (by decide) ?_
                exact ih_58v1 y_65v1 y_72v1  (m_shr8 hm_58v1 ey_72v1 lc_62v1) H locs ls hP hD hS (lv_sub hl [2, 3, 1, 0] rfl)
          refine lv_lstore (lv' := [(7, .long r_46v1), (6, .int 0), (4, .long r_46v1), (0, .ref h), (1, .int 1), (2, .int x2), (3, .int x3)]) hx hb dX7_letter_56 hl (by decide) rfl (fun ls hl => ?_)
          exact J_58v1 _ 0 r_46v1  (Nat.lt_succ_self _) H locs ls (hP.sub [3, 0, 2, 1, 4] rfl) (hD.sub [3, 0, 2, 1, 4] (by decide +kernel) rfl) hS (lv_sub hl [6, 2, 1, 0] rfl)
        · have c_34v1 : r_31v1 = 0 := c_34v1
          have f_37v1_10 : iR r_31v1 0 0 := iR_eqL c_34v1 g_31v1_0 (iR_c (n := 0) (a := 0) (b := 0) (by decide +kernel) (by decide +kernel)) (by decide +kernel)
          exact J_37   H locs ls (hP.sub [3, 0, 4, 1, 2] rfl) (hD.sub [3, 0, 4, 1, 2] (by decide +kernel) rfl) hS (lv_sub hl [] rfl)
set_option maxHeartbeats 8000000 in
set_option maxRecDepth 100000 in
theorem s_X7_isThing_v0 (l : Launch) (dC : Nat → ClassId) (dI : Nat → Nat → Nat) (cI cJ cZ cM : ClassId) (h : Nat) (r : Nat → Nat) (i : Nat → Int32) (j : Nat → Int64) (x1 : Int32) (f14 : Nat → Int32) (hI : mR i) (hf14 : aR f14 0 10) : k_Mi l yX7_isThing wsX7_isThing ({ frames := 1, cells := 0, slots := 0, locals := 40 }) (dC, dI) vwCl (tyy cI cJ cZ cM) [(h, .inr (7, oM r i j)), ((r 14), .inl (cI, 2, .inl f14))] [.ref h, .int x1] 0 0 (fun (u9 : Unit) => [(h, .inr (7, oM r i j)), ((r 14), .inl (cI, 2, .inl f14))]) (fun (r9 : Int32) (u9 : Unit) => (iR r9 0 1) ∧ ((r9 = 0) ∨ ((0 ≤ x1) ∧ (x1 < (f14 (i 13).toNatClampNeg))))) := by
  refine fun sz => k_enter (cc := cX7_isThing) (maxL := 2) (ret := some (.boolean)) (Qc := fun A => va_Qi (fun (r9 : Int32) (u9 : Unit) => (iR r9 0 1) ∧ ((r9 = 0) ∨ ((0 ≤ x1) ∧ (x1 < (f14 (i 13).toNatClampNeg))))) (fun u => k_B (dC, dI) vwCl (tyy cI cJ cZ cM) A ((fun (u9 : Unit) => [(h, .inr (7, oM r i j)), ((r 14), .inl (cI, 2, .inl f14))]) u)) A) sz (by decide +kernel) rfl (Nat.le_of_ble_eq_true rfl) (fun p e s m args below meth c A ls H locs B hP hD hS hl => ?_)
  obtain ⟨hx, hb, hml, hown, hts, hr, hlk, hnm, hK, hA, hN, hC⟩ := id B
  have hown : s.vm.findClass RX7 = some m.cls := hown
  have hl : lv_has ls 2 [(0, .ref h), (1, .int x1)] := hl
  have w_0 : (Cond.fieldLink RX7 54 "WishSeaModel" "things" "[I").before args s = true := hts _ (List.mem_of_getElem? (i := 1) rfl)
  have w_1 : (Cond.fieldLink RX7 51 "WishSeaModel" "bank" "I").before args s = true := hts _ (List.mem_of_getElem? (i := 2) rfl)
  have hinX7 : ∀ w ∈ u_ws RX7 TX7 92, w ∈ wsX7_isThing := fun _ h => List.mem_cons_of_mem _ (List.mem_append_right _ h)
  refine lv_iload_n hx hb dX7_isThing_0 rfl (lv_at hl 1 rfl) ?_
  have J_21 : ∀   (H : Heap) (locs : List Loc) (ls : Array Slot), va_P (dC, dI) vwCl [(h, .inr (7, oM r i j)), ((r 14), .inl (cI, 2, .inl f14))] H → va_D A [(h, .inr (7, oM r i j)), ((r 14), .inl (cI, 2, .inl f14))] → va_S A s.heap H locs → lv_has ls 2 [] → W p l e ({ frames := 1, cells := 0, slots := 0, locals := 40 }) s m args below meth c H locs 0 0 (MQ below (va_Qi (fun (r9 : Int32) (u9 : Unit) => (iR r9 0 1) ∧ ((r9 = 0) ∨ ((0 ≤ x1) ∧ (x1 < (f14 (i 13).toNatClampNeg))))) (fun u => k_B (dC, dI) vwCl (tyy cI cJ cZ cM) A ((fun (u9 : Unit) => [(h, .inr (7, oM r i j)), ((r 14), .inl (cI, 2, .inl f14))]) u)) A) args s 0 0 A) (F0 m 21 ls []) := by
    intro   H locs ls hP hD hS hl
    refine lv_iconst (v := 0) hx hb dX7_isThing_21 (by decide +kernel) ?_
    exact k_ri B hP hD hS dX7_isThing_22 () [0, 1] rfl rfl rfl (Nat.le_of_ble_eq_true rfl) (Nat.le_of_ble_eq_true rfl) ⟨(show iR 0 0 1 from (iR_c (n := 0) (a := 0) (b := 1) (by decide +kernel) (by decide +kernel))), (show (0 = 0) ∨ ((0 ≤ x1) ∧ (x1 < (f14 (i 13).toNatClampNeg))) from (Or.inl rfl))⟩
  refine lv_if_lt (tgt := 21) hx hb dX7_isThing_1 (by decide) (fun c_1 => ?_) (fun c_1 => ?_)
  · have c_1 : x1 < 0 := c_1
    have f_21_1 : iR x1 (-2147483648) (-1) := iR_ltL c_1 (iR_top _) (iR_c (n := 0) (a := 0) (b := 0) (by decide +kernel) (by decide +kernel)) (by decide +kernel)
    exact J_21   H locs ls hP hD hS (lv_sub hl [] rfl)
  · have c_1 : 0 ≤ x1 := i_nlt c_1
    have f_4_1 : iR x1 0 2147483647 := iR_leR c_1 (iR_c (n := 0) (a := 0) (b := 0) (by decide +kernel) (by decide +kernel)) (iR_top _) (by decide +kernel)
    refine lv_iload_n hx hb dX7_isThing_4 rfl (lv_at hl 1 rfl) ?_
    refine lv_aload_n hx hb dX7_isThing_5 rfl (lv_at hl 0 rfl) ?_
    refine k_get (D := (dC, dI)) (ci := 7) (v := .ref (r 14)) (C := RX7) (T := TX7) (N := 92) hx hb hts hinX7 hown hK hP 0 rfl rfl 14 (by decide) w_0 rfl rfl dX7_isThing_6 ?_
    refine lv_aload_n hx hb dX7_isThing_9 rfl (lv_at hl 0 rfl) ?_
    have f_10_2 : iR (i 13) 0 1 := hI 13
    refine k_get (D := (dC, dI)) (ci := 7) (v := .int (i 13)) (C := RX7) (T := TX7) (N := 92) hx hb hts hinX7 hown hK hP 0 rfl rfl 13 (by decide) w_1 rfl rfl dX7_isThing_10 ?_
    refine va_iald hx hb hK hP 1 0 rfl rfl (iR_vp f_10_2 (by decide +kernel)) dX7_isThing_13 ?_
    have f_13_3 : iR (f14 (i 13).toNatClampNeg) 0 10 := hf14 _
    refine lv_icmp_ge (tgt := 21) hx hb dX7_isThing_14 (by decide) (fun c_14 => ?_) (fun c_14 => ?_)
    · have c_14 : (f14 (i 13).toNatClampNeg) ≤ x1 := c_14
      exact J_21   H locs ls hP hD hS (lv_sub hl [] rfl)
    · have c_14 : x1 < (f14 (i 13).toNatClampNeg) := i_nle c_14
      have f_17_4 : iR x1 0 9 := iR_ltL c_14 f_4_1 f_13_3 (by decide +kernel)
      have f_17_5 : iR (f14 (i 13).toNatClampNeg) 1 10 := iR_ltR c_14 f_4_1 f_13_3 (by decide +kernel)
      refine lv_iconst (v := 1) hx hb dX7_isThing_17 (by decide +kernel) ?_
      refine lv_goto (tgt := 22) hx hb dX7_isThing_18 (by decide) ?_
      exact k_ri B hP hD hS dX7_isThing_22 () [0, 1] rfl rfl rfl (Nat.le_of_ble_eq_true rfl) (Nat.le_of_ble_eq_true rfl) ⟨(show iR 1 0 1 from (iR_c (n := 1) (a := 0) (b := 1) (by decide +kernel) (by decide +kernel))), (show (1 = 0) ∨ ((0 ≤ x1) ∧ (x1 < (f14 (i 13).toNatClampNeg))) from (Or.inr ⟨c_1, c_14⟩))⟩
set_option maxHeartbeats 8000000 in
set_option maxRecDepth 100000 in
theorem s_X7_givesOf_v0 (l : Launch) (dC : Nat → ClassId) (dI : Nat → Nat → Nat) (cI cJ cZ cM : ClassId) (h : Nat) (r : Nat → Nat) (i : Nat → Int32) (j : Nat → Int64) (x1 : Int32) (f20 : Nat → Int32) (hx1 : iR x1 0 11) (hI : mR i) (hf20 : aR f20 0 9) : k_Mi l yX7_givesOf wsX7_givesOf ({ frames := 1, cells := 0, slots := 0, locals := 40 }) (dC, dI) vwCl (tyy cI cJ cZ cM) [(h, .inr (7, oM r i j)), ((r 20), .inl (cI, 24, .inl f20))] [.ref h, .int x1] 0 0 (fun (u9 : Unit) => [(h, .inr (7, oM r i j)), ((r 20), .inl (cI, 24, .inl f20))]) (fun (r9 : Int32) (u9 : Unit) => (iR r9 0 9)) := by
  refine fun sz => k_enter (cc := cX7_givesOf) (maxL := 2) (ret := some (.int)) (Qc := fun A => va_Qi (fun (r9 : Int32) (u9 : Unit) => (iR r9 0 9)) (fun u => k_B (dC, dI) vwCl (tyy cI cJ cZ cM) A ((fun (u9 : Unit) => [(h, .inr (7, oM r i j)), ((r 20), .inl (cI, 24, .inl f20))]) u)) A) sz (by decide +kernel) rfl (Nat.le_of_ble_eq_true rfl) (fun p e s m args below meth c A ls H locs B hP hD hS hl => ?_)
  obtain ⟨hx, hb, hml, hown, hts, hr, hlk, hnm, hK, hA, hN, hC⟩ := id B
  have hown : s.vm.findClass RX7 = some m.cls := hown
  have hl : lv_has ls 2 [(0, .ref h), (1, .int x1)] := hl
  have w_0 : (Cond.fieldLink RX7 72 "WishSeaModel" "wishGives" "[I").before args s = true := hts _ (List.mem_of_getElem? (i := 1) rfl)
  have w_1 : (Cond.fieldLink RX7 51 "WishSeaModel" "bank" "I").before args s = true := hts _ (List.mem_of_getElem? (i := 2) rfl)
  have hinX7 : ∀ w ∈ u_ws RX7 TX7 92, w ∈ wsX7_givesOf := fun _ h => List.mem_cons_of_mem _ (List.mem_append_right _ h)
  refine lv_aload_n hx hb dX7_givesOf_0 rfl (lv_at hl 0 rfl) ?_
  refine k_get (D := (dC, dI)) (ci := 7) (v := .ref (r 20)) (C := RX7) (T := TX7) (N := 92) hx hb hts hinX7 hown hK hP 0 rfl rfl 20 (by decide) w_0 rfl rfl dX7_givesOf_1 ?_
  refine lv_bipush (v := 12) hx hb dX7_givesOf_4 (by decide +kernel) ?_
  refine lv_aload_n hx hb dX7_givesOf_6 rfl (lv_at hl 0 rfl) ?_
  have f_7_1 : iR (i 13) 0 1 := hI 13
  refine k_get (D := (dC, dI)) (ci := 7) (v := .int (i 13)) (C := RX7) (T := TX7) (N := 92) hx hb hts hinX7 hown hK hP 0 rfl rfl 13 (by decide) w_1 rfl rfl dX7_givesOf_7 ?_
  refine lv_imul hx hb dX7_givesOf_10 ?_
  refine lv_topi (fun y_10 ey_10 => ?_)
  have f_10_2 : iR y_10 0 12 := iR_mul ey_10 (iR_c (n := 12) (a := 12) (b := 12) (by decide +kernel) (by decide +kernel)) f_7_1 (by decide +kernel)
  refine lv_iload_n hx hb dX7_givesOf_11 rfl (lv_at hl 1 rfl) ?_
  refine lv_iadd hx hb dX7_givesOf_12 ?_
  refine lv_topi (fun y_12 ey_12 => ?_)
  have f_12_3 : iR y_12 0 23 := iR_add ey_12 f_10_2 hx1 (by decide +kernel)
  refine va_iald hx hb hK hP 1 0 rfl rfl (iR_vp f_12_3 (by decide +kernel)) dX7_givesOf_13 ?_
  have f_13_4 : iR (f20 y_12.toNatClampNeg) 0 9 := hf20 _
  exact k_ri B hP hD hS dX7_givesOf_14 () [0, 1] rfl rfl rfl (Nat.le_of_ble_eq_true rfl) (Nat.le_of_ble_eq_true rfl) (show iR (f20 y_12.toNatClampNeg) 0 9 from f_13_4)
set_option maxHeartbeats 8000000 in
set_option maxRecDepth 100000 in
theorem s_X7_isThing_v1 (l : Launch) (dC : Nat → ClassId) (dI : Nat → Nat → Nat) (cI cJ cZ cM : ClassId) (h : Nat) (r : Nat → Nat) (i : Nat → Int32) (j : Nat → Int64) (x1 : Int32) (f14 : Nat → Int32) (hI : mR i) (hf14 : aR f14 0 10) : k_Mi l yX7_isThing wsX7_isThing ({ frames := 1, cells := 0, slots := 0, locals := 40 }) (dC, dI) vwCl (tyy cI cJ cZ cM) [(h, .inr (7, oM r i j)), ((r 14), .inl (cI, 2, .inl f14))] [.ref h, .int x1] 0 0 (fun (u9 : Unit) => [(h, .inr (7, oM r i j)), ((r 14), .inl (cI, 2, .inl f14))]) (fun (r9 : Int32) (u9 : Unit) => (iR r9 0 1) ∧ ((r9 = 0) ∨ ((0 ≤ x1) ∧ (x1 < (f14 (i 13).toNatClampNeg))))) := by
  refine fun sz => k_enter (cc := cX7_isThing) (maxL := 2) (ret := some (.boolean)) (Qc := fun A => va_Qi (fun (r9 : Int32) (u9 : Unit) => (iR r9 0 1) ∧ ((r9 = 0) ∨ ((0 ≤ x1) ∧ (x1 < (f14 (i 13).toNatClampNeg))))) (fun u => k_B (dC, dI) vwCl (tyy cI cJ cZ cM) A ((fun (u9 : Unit) => [(h, .inr (7, oM r i j)), ((r 14), .inl (cI, 2, .inl f14))]) u)) A) sz (by decide +kernel) rfl (Nat.le_of_ble_eq_true rfl) (fun p e s m args below meth c A ls H locs B hP hD hS hl => ?_)
  obtain ⟨hx, hb, hml, hown, hts, hr, hlk, hnm, hK, hA, hN, hC⟩ := id B
  have hown : s.vm.findClass RX7 = some m.cls := hown
  have hl : lv_has ls 2 [(0, .ref h), (1, .int x1)] := hl
  have w_0 : (Cond.fieldLink RX7 54 "WishSeaModel" "things" "[I").before args s = true := hts _ (List.mem_of_getElem? (i := 1) rfl)
  have w_1 : (Cond.fieldLink RX7 51 "WishSeaModel" "bank" "I").before args s = true := hts _ (List.mem_of_getElem? (i := 2) rfl)
  have hinX7 : ∀ w ∈ u_ws RX7 TX7 92, w ∈ wsX7_isThing := fun _ h => List.mem_cons_of_mem _ (List.mem_append_right _ h)
  refine lv_iload_n hx hb dX7_isThing_0 rfl (lv_at hl 1 rfl) ?_
  have J_21 : ∀   (H : Heap) (locs : List Loc) (ls : Array Slot), va_P (dC, dI) vwCl [(h, .inr (7, oM r i j)), ((r 14), .inl (cI, 2, .inl f14))] H → va_D A [(h, .inr (7, oM r i j)), ((r 14), .inl (cI, 2, .inl f14))] → va_S A s.heap H locs → lv_has ls 2 [] → W p l e ({ frames := 1, cells := 0, slots := 0, locals := 40 }) s m args below meth c H locs 0 0 (MQ below (va_Qi (fun (r9 : Int32) (u9 : Unit) => (iR r9 0 1) ∧ ((r9 = 0) ∨ ((0 ≤ x1) ∧ (x1 < (f14 (i 13).toNatClampNeg))))) (fun u => k_B (dC, dI) vwCl (tyy cI cJ cZ cM) A ((fun (u9 : Unit) => [(h, .inr (7, oM r i j)), ((r 14), .inl (cI, 2, .inl f14))]) u)) A) args s 0 0 A) (F0 m 21 ls []) := by
    intro   H locs ls hP hD hS hl
    refine lv_iconst (v := 0) hx hb dX7_isThing_21 (by decide +kernel) ?_
    exact k_ri B hP hD hS dX7_isThing_22 () [0, 1] rfl rfl rfl (Nat.le_of_ble_eq_true rfl) (Nat.le_of_ble_eq_true rfl) ⟨(show iR 0 0 1 from (iR_c (n := 0) (a := 0) (b := 1) (by decide +kernel) (by decide +kernel))), (show (0 = 0) ∨ ((0 ≤ x1) ∧ (x1 < (f14 (i 13).toNatClampNeg))) from (Or.inl rfl))⟩
  refine lv_if_lt (tgt := 21) hx hb dX7_isThing_1 (by decide) (fun c_1 => ?_) (fun c_1 => ?_)
  · have c_1 : x1 < 0 := c_1
    have f_21_1 : iR x1 (-2147483648) (-1) := iR_ltL c_1 (iR_top _) (iR_c (n := 0) (a := 0) (b := 0) (by decide +kernel) (by decide +kernel)) (by decide +kernel)
    exact J_21   H locs ls hP hD hS (lv_sub hl [] rfl)
  · have c_1 : 0 ≤ x1 := i_nlt c_1
    have f_4_1 : iR x1 0 2147483647 := iR_leR c_1 (iR_c (n := 0) (a := 0) (b := 0) (by decide +kernel) (by decide +kernel)) (iR_top _) (by decide +kernel)
    refine lv_iload_n hx hb dX7_isThing_4 rfl (lv_at hl 1 rfl) ?_
    refine lv_aload_n hx hb dX7_isThing_5 rfl (lv_at hl 0 rfl) ?_
    refine k_get (D := (dC, dI)) (ci := 7) (v := .ref (r 14)) (C := RX7) (T := TX7) (N := 92) hx hb hts hinX7 hown hK hP 0 rfl rfl 14 (by decide) w_0 rfl rfl dX7_isThing_6 ?_
    refine lv_aload_n hx hb dX7_isThing_9 rfl (lv_at hl 0 rfl) ?_
    have f_10_2 : iR (i 13) 0 1 := hI 13
    refine k_get (D := (dC, dI)) (ci := 7) (v := .int (i 13)) (C := RX7) (T := TX7) (N := 92) hx hb hts hinX7 hown hK hP 0 rfl rfl 13 (by decide) w_1 rfl rfl dX7_isThing_10 ?_
    refine va_iald hx hb hK hP 1 0 rfl rfl (iR_vp f_10_2 (by decide +kernel)) dX7_isThing_13 ?_
    have f_13_3 : iR (f14 (i 13).toNatClampNeg) 0 10 := hf14 _
    refine lv_icmp_ge (tgt := 21) hx hb dX7_isThing_14 (by decide) (fun c_14 => ?_) (fun c_14 => ?_)
    · have c_14 : (f14 (i 13).toNatClampNeg) ≤ x1 := c_14
      exact J_21   H locs ls hP hD hS (lv_sub hl [] rfl)
    · have c_14 : x1 < (f14 (i 13).toNatClampNeg) := i_nle c_14
      have f_17_4 : iR x1 0 9 := iR_ltL c_14 f_4_1 f_13_3 (by decide +kernel)
      have f_17_5 : iR (f14 (i 13).toNatClampNeg) 1 10 := iR_ltR c_14 f_4_1 f_13_3 (by decide +kernel)
      refine lv_iconst (v := 1) hx hb dX7_isThing_17 (by decide +kernel) ?_
      refine lv_goto (tgt := 22) hx hb dX7_isThing_18 (by decide) ?_
      exact k_ri B hP hD hS dX7_isThing_22 () [0, 1] rfl rfl rfl (Nat.le_of_ble_eq_true rfl) (Nat.le_of_ble_eq_true rfl) ⟨(show iR 1 0 1 from (iR_c (n := 1) (a := 0) (b := 1) (by decide +kernel) (by decide +kernel))), (show (1 = 0) ∨ ((0 ≤ x1) ∧ (x1 < (f14 (i 13).toNatClampNeg))) from (Or.inr ⟨c_1, c_14⟩))⟩
