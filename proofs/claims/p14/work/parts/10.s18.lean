set_option maxHeartbeats 8000000 in
set_option maxRecDepth 100000 in
theorem s_X7_givesOf_v4 (l : Launch) (dC : Nat → ClassId) (dI : Nat → Nat → Nat) (cI cJ cZ cM : ClassId) (h : Nat) (r : Nat → Nat) (i : Nat → Int32) (j : Nat → Int64) (x1 : Int32) (f20 : Nat → Int32) (hx1 : iR x1 0 11) (hI : mR i) (hf20 : aR f20 0 9) : k_Mi l yX7_givesOf wsX7_givesOf ({ frames := 1, cells := 0, slots := 0, locals := 40 }) (dC, dI) vwCl (tyy cI cJ cZ cM) [(h, .inr (7, oM r i j)), ((r 20), .inl (cI, 24, .inl f20))] [.ref h, .int x1] 0 0 (fun (u9 : Unit) => [(h, .inr (7, oM r i j)), ((r 20), .inl (cI, 24, .inl f20))]) (fun (r9 : Int32) (u9 : Unit) => (iR r9 0 9)) := by
  refine fun sz => k_enter (cc := cX7_givesOf) (maxL := 2) (ret := some (.int)) (Qc := fun A => va_Qi (fun (r9 : Int32) (u9 : Unit) => (iR r9 0 9)) (fun u => k_B (dC, dI) vwCl (tyy cI cJ cZ cM) A ((fun (u9 : Unit) => [(h, .inr (7, oM r i j)), ((r 20), .inl (cI, 24, .inl f20))]) u)) A) sz (by decide +kernel) rfl (Nat.le_of_ble_eq_true rfl) (fun p e s m args below meth c A ls H locs B hP hD hS hl => ?_)
  obtain ⟨hx, hb, hml, hown, hts, hr, hlk, hnm, hK, hA, hN, hC⟩ := id B
  have hown : s.vm.findClass RX7 = some m.cls := hown
  have hl : lv_has ls 2 [(0, .ref h), (1, .int x1)] := hl
  have w_0 : (Cond.fieldLink RX7 72 "WishSeaModel" "wishGives" "[I").before args s = true := hts _ (List.mem_of_getElem? (i := 1) rfl)
  have w_1 : (Cond.fieldLink RX7 51 "WishSeaModel" "bank" "I").before args s = true := hts _ (List.mem_of_getElem? (i := 2) rfl)
  have hinX7 : ∀ w ∈ u_ws RX7 TX7 92, w ∈ wsX7_givesOf := fun _ h => List.mem_cons_of_mem _ (List.mem_append_right _ h)
  refine lv_aload_n hx hb dX7_givesOf_0 rfl (lv_at hl 0 rfl) ?_
  refine k_get (D := (dC, dI)) (ci := 7) (v := .ref (r 20)) (C := RX7) (T := TX7) (N := 92) hx hb hts hinX7 hown hK hP 0 rfl rfl 20 (by decide) w_0 rfl rfl dX7_givesOf_1 ?_
  refine lv_bipush (v := 12) hx hb dX7_givesOf_4 (by decide +kernel) ?_
  refine lv_aload_n hx hb dX7_givesOf_6 rfl (lv_at hl 0 rfl) ?_
  have f_7_1 : iR (i 13) 0 1 := hI 13
  refine k_get (D := (dC, dI)) (ci := 7) (v := .int (i 13)) (C := RX7) (T := TX7) (N := 92) hx hb hts hinX7 hown hK hP 0 rfl rfl 13 (by decide) w_1 rfl rfl dX7_givesOf_7 ?_
  refine lv_imul hx hb dX7_givesOf_10 ?_
  refine lv_topi (fun y_10 ey_10 => ?_)
  have f_10_2 : iR y_10 0 12 := iR_mul ey_10 (iR_c (n := 12) (a := 12) (b := 12) (by decide +kernel) (by decide +kernel)) f_7_1 (by decide +kernel)
  refine lv_iload_n hx hb dX7_givesOf_11 rfl (lv_at hl 1 rfl) ?_
  refine lv_iadd hx hb dX7_givesOf_12 ?_
  refine lv_topi (fun y_12 ey_12 => ?_)
  have f_12_3 : iR y_12 0 23 := iR_add ey_12 f_10_2 hx1 (by decide +kernel)
  refine va_iald hx hb hK hP 1 0 rfl rfl (iR_vp f_12_3 (by decide +kernel)) dX7_givesOf_13 ?_
  have f_13_4 : iR (f20 y_12.toNatClampNeg) 0 9 := hf20 _
  exact k_ri B hP hD hS dX7_givesOf_14 () [0, 1] rfl rfl rfl (Nat.le_of_ble_eq_true rfl) (Nat.le_of_ble_eq_true rfl) f_13_4
set_option maxHeartbeats 8000000 in
set_option maxRecDepth 100000 in
theorem s_X7_thing_v0 (l : Launch) (dC : Nat → ClassId) (dI : Nat → Nat → Nat) (cI cJ cZ cM : ClassId) (h : Nat) (r : Nat → Nat) (i : Nat → Int32) (j : Nat → Int64) (x1 : Int32) (x2 : Int32) (f14 : Nat → Int32) (f15 : Nat → Int32) (f16 : Nat → Int32) (f17 : Nat → Int32) (f18 : Nat → Int32) (f20 : Nat → Int32) (f23 : Nat → Int32) (f49 : Nat → Int32) (hI : mR i) (hf14 : aR f14 0 10) (hf17 : aR f17 0 1) (hf18 : aR f18 0 12) (hf20 : aR f20 0 9) (hf23 : aR f23 0 1023) (hf49 : aR f49 0 1023) : k_Mi l yX7_thing wsX7_thing ({ frames := 2, cells := 0, slots := 0, locals := 61 }) (dC, dI) vwCl (tyy cI cJ cZ cM) [(h, .inr (7, oM r i j)), ((r 14), .inl (cI, 2, .inl f14)), ((r 15), .inl (cI, 20, .inl f15)), ((r 16), .inl (cI, 20, .inl f16)), ((r 17), .inl (cI, 20, .inl f17)), ((r 18), .inl (cI, 2, .inl f18)), ((r 20), .inl (cI, 24, .inl f20)), ((r 23), .inl (cI, 2, .inl f23)), ((r 49), .inl (cI, 22, .inl f49))] [.ref h, .int x1, .int x2] 0 0 (fun (u9 : Unit) => [(h, .inr (7, oM r i j)), ((r 14), .inl (cI, 2, .inl f14)), ((r 15), .inl (cI, 20, .inl f15)), ((r 16), .inl (cI, 20, .inl f16)), ((r 17), .inl (cI, 20, .inl f17)), ((r 18), .inl (cI, 2, .inl f18)), ((r 20), .inl (cI, 24, .inl f20)), ((r 23), .inl (cI, 2, .inl f23)), ((r 49), .inl (cI, 22, .inl f49))]) (fun (r9 : Int32) (u9 : Unit) => True) := by
  refine fun sz => k_enter (cc := cX7_thing) (maxL := 5) (ret := some (.int)) (Qc := fun A => va_Qi (fun (r9 : Int32) (u9 : Unit) => True) (fun u => k_B (dC, dI) vwCl (tyy cI cJ cZ cM) A ((fun (u9 : Unit) => [(h, .inr (7, oM r i j)), ((r 14), .inl (cI, 2, .inl f14)), ((r 15), .inl (cI, 20, .inl f15)), ((r 16), .inl (cI, 20, .inl f16)), ((r 17), .inl (cI, 20, .inl f17)), ((r 18), .inl (cI, 2, .inl f18)), ((r 20), .inl (cI, 24, .inl f20)), ((r 23), .inl (cI, 2, .inl f23)), ((r 49), .inl (cI, 22, .inl f49))]) u)) A) sz (by decide +kernel) rfl (Nat.le_of_ble_eq_true rfl) (fun p e s m args below meth c A ls H locs B hP hD hS hl => ?_)
  obtain ⟨hx, hb, hml, hown, hts, hr, hlk, hnm, hK, hA, hN, hC⟩ := id B
  have hown : s.vm.findClass RX7 = some m.cls := hown
  have hl : lv_has ls 5 [(0, .ref h), (1, .int x1), (2, .int x2)] := hl
  have w_0 : (Cond.fieldLink RX7 57 "WishSeaModel" "thingWorth" "[I").before args s = true := hts _ (List.mem_of_getElem? (i := 1) rfl)
  have w_1 : (Cond.fieldLink RX7 51 "WishSeaModel" "bank" "I").before args s = true := hts _ (List.mem_of_getElem? (i := 2) rfl)
  have w_2 : (Cond.fieldLink RX7 60 "WishSeaModel" "thingRhyme" "[I").before args s = true := hts _ (List.mem_of_getElem? (i := 3) rfl)
  have w_3 : (Cond.fieldLink RX7 63 "WishSeaModel" "thingBrief" "[I").before args s = true := hts _ (List.mem_of_getElem? (i := 4) rfl)
  have w_4 : (Cond.fieldLink RX7 162 "WishSeaModel" "hadOf" "[I").before args s = true := hts _ (List.mem_of_getElem? (i := 5) rfl)
  have w_5 : (Cond.fieldLink RX7 81 "WishSeaModel" "firstOnes" "[I").before args s = true := hts _ (List.mem_of_getElem? (i := 6) rfl)
  have w_6 : (Cond.fieldLink RX7 66 "WishSeaModel" "wishes" "[I").before args s = true := hts _ (List.mem_of_getElem? (i := 7) rfl)
  have hinX7 : ∀ w ∈ u_ws RX7 TX7 92, w ∈ wsX7_thing := fun _ h => List.mem_cons_of_mem _ (List.mem_append_right _ h)
  refine lv_aload_n hx hb dX7_thing_0 rfl (lv_at hl 0 rfl) ?_
  refine lv_iload_n hx hb dX7_thing_1 rfl (lv_at hl 1 rfl) ?_
  refine k_ci (wc := [(h, .inr (7, oM r i j)), ((r 14), .inl (cI, 2, .inl f14))]) (wr := [((r 15), .inl (cI, 20, .inl f15)), ((r 16), .inl (cI, 20, .inl f16)), ((r 17), .inl (cI, 20, .inl f17)), ((r 18), .inl (cI, 2, .inl f18)), ((r 20), .inl (cI, 24, .inl f20)), ((r 23), .inl (cI, 2, .inl f23)), ((r 49), .inl (cI, 22, .inl f49))]) (fun hPc hDc hFc => va_runV (As := [.int x1]) (rest := []) ⟨hx, hb, hml, hown, hts⟩ (s_X7_isThing_v1 l dC dI cI cJ cZ cM h r i j x1 f14 hI hf14 H.size) (cwV 1 hts gX7_thing_X7_isThing rfl rfl rfl (by decide +kernel) ⟨(Nat.le_of_ble_eq_true rfl), (Nat.le_of_ble_eq_true rfl)⟩) (k_pV hPc hDc hK hN hC hS hFc hP (q0 := 0) (ci := 7) rfl rfl) rfl rfl hl.1 rfl (lv_room (Nat.le_of_ble_eq_true rfl)) dX7_thing_2 ⟨(Nat.le_of_ble_eq_true rfl), (Nat.le_of_ble_eq_true rfl)⟩) hP hD hS hA [0, 1] [2, 3, 4, 5, 6, 7, 8] rfl rfl rfl rfl (by decide) (fun _ => rfl) 0 0 rfl rfl (fun r_2 u_2 H locs hw hP hD hS => ?_)
  obtain ⟨g_2_0, g_2_1⟩ := hw
  have hP : va_P (dC, dI) vwCl [((r 15), .inl (cI, 20, .inl f15)), ((r 16), .inl (cI, 20, .inl f16)), ((r 17), .inl (cI, 20, .inl f17)), ((r 18), .inl (cI, 2, .inl f18)), ((r 20), .inl (cI, 24, .inl f20)), ((r 23), .inl (cI, 2, .inl f23)), ((r 49), .inl (cI, 22, .inl f49)), (h, .inr (7, oM r i j)), ((r 14), .inl (cI, 2, .inl f14))] H := hP
  have hD : va_D A [((r 15), .inl (cI, 20, .inl f15)), ((r 16), .inl (cI, 20, .inl f16)), ((r 17), .inl (cI, 20, .inl f17)), ((r 18), .inl (cI, 2, .inl f18)), ((r 20), .inl (cI, 24, .inl f20)), ((r 23), .inl (cI, 2, .inl f23)), ((r 49), .inl (cI, 22, .inl f49)), (h, .inr (7, oM r i j)), ((r 14), .inl (cI, 2, .inl f14))] := hD
  refine lv_if_ne (tgt := 10) hx hb dX7_thing_5 (by decide) (fun c_5 => ?_) (fun c_5 => ?_)
  · have c_5 : ¬ r_2 = 0 := c_5
    have f_10_1 : iR r_2 1 1 := iR_neL c_5 g_2_0 (iR_c (n := 0) (a := 0) (b := 0) (by decide +kernel) (by decide +kernel)) (by decide +kernel)
    obtain ⟨d_5_1_0, d_5_1_1⟩ := g_2_1.resolve_left c_5
    have f_10_2 : iR x1 0 2147483647 := iR_leR d_5_1_0 (iR_c (n := 0) (a := 0) (b := 0) (by decide +kernel) (by decide +kernel)) (iR_top _) (by decide +kernel)
    have f_10_3 : iR x1 0 9 := iR_ltL d_5_1_1 f_10_2 (show iR (f14 (i 13).toNatClampNeg) 0 10 from hf14 _) (by decide +kernel)
    have f_10_4 : iR (f14 (i 13).toNatClampNeg) 1 10 := iR_ltR d_5_1_1 f_10_2 (show iR (f14 (i 13).toNatClampNeg) 0 10 from hf14 _) (by decide +kernel)
    refine lv_iconst (v := 0) hx hb dX7_thing_10 (by decide +kernel) ?_
    refine lv_istore_n (lv' := [(3, .int 0), (0, .ref h), (1, .int x1), (2, .int x2)]) hx hb dX7_thing_11 rfl hl (by decide) rfl (fun ls hl => ?_)
    refine lv_iload_n hx hb dX7_thing_12 rfl (lv_at hl 3 rfl) ?_
    rcases (show x2.toInt = 0 ∨ x2.toInt = 1 ∨ x2.toInt = 2 ∨ x2.toInt = 3 ∨ x2.toInt = 4 ∨ x2.toInt = 5 ∨ (¬ x2.toInt = 0 ∧ ¬ x2.toInt = 1 ∧ ¬ x2.toInt = 2 ∧ ¬ x2.toInt = 3 ∧ ¬ x2.toInt = 4 ∧ ¬ x2.toInt = 5) by omega) with c_13 | c_13 | c_13 | c_13 | c_13 | c_13 | c_13
    · have f_52_5 : iR x2 0 0 := iR_c c_13 (by decide +kernel)
      refine lv_tableIn (off := 39) (tgt := 52) hx hb dX7_thing_13 (by rw [c_13]; decide) (by rw [c_13]; decide) (by rw [c_13]; decide +kernel) (by decide +kernel) ?_
      refine lv_aload_n hx hb dX7_thing_52 rfl (lv_at hl 1 rfl) ?_
      refine k_get (D := (dC, dI)) (ci := 7) (v := .ref (r 15)) (C := RX7) (T := TX7) (N := 92) hx hb hts hinX7 hown hK hP 7 rfl rfl 15 (by decide) w_0 rfl rfl dX7_thing_53 ?_
      refine lv_bipush (v := 10) hx hb dX7_thing_56 (by decide +kernel) ?_
      refine lv_aload_n hx hb dX7_thing_58 rfl (lv_at hl 1 rfl) ?_
      have f_59_6 : iR (i 13) 0 1 := hI 13
      refine k_get (D := (dC, dI)) (ci := 7) (v := .int (i 13)) (C := RX7) (T := TX7) (N := 92) hx hb hts hinX7 hown hK hP 7 rfl rfl 13 (by decide) w_1 rfl rfl dX7_thing_59 ?_
      refine lv_imul hx hb dX7_thing_62 ?_
      refine lv_topi (fun y_62 ey_62 => ?_)
      have f_62_7 : iR y_62 0 10 := iR_mul ey_62 (iR_c (n := 10) (a := 10) (b := 10) (by decide +kernel) (by decide +kernel)) f_59_6 (by decide +kernel)
      refine lv_iload_n hx hb dX7_thing_63 rfl (lv_at hl 2 rfl) ?_
      refine lv_iadd hx hb dX7_thing_64 ?_
      refine lv_topi (fun y_64 ey_64 => ?_)
      have f_64_8 : iR y_64 0 19 := iR_add ey_64 f_62_7 f_10_3 (by decide +kernel)
      refine va_iald hx hb hK hP 0 0 rfl rfl (iR_vp f_64_8 (by decide +kernel)) dX7_thing_65 ?_
      exact k_ri B hP hD hS dX7_thing_66 () [7, 8, 0, 1, 2, 3, 4, 5, 6] rfl rfl rfl (Nat.le_of_ble_eq_true rfl) (Nat.le_of_ble_eq_true rfl) trivial
    · have f_67_5 : iR x2 1 1 := iR_c c_13 (by decide +kernel)
      refine lv_tableIn (off := 54) (tgt := 67) hx hb dX7_thing_13 (by rw [c_13]; decide) (by rw [c_13]; decide) (by rw [c_13]; decide +kernel) (by decide +kernel) ?_
      refine lv_aload_n hx hb dX7_thing_67 rfl (lv_at hl 1 rfl) ?_
      refine k_get (D := (dC, dI)) (ci := 7) (v := .ref (r 16)) (C := RX7) (T := TX7) (N := 92) hx hb hts hinX7 hown hK hP 7 rfl rfl 16 (by decide) w_2 rfl rfl dX7_thing_68 ?_
      refine lv_bipush (v := 10) hx hb dX7_thing_71 (by decide +kernel) ?_
      refine lv_aload_n hx hb dX7_thing_73 rfl (lv_at hl 1 rfl) ?_
      have f_74_6 : iR (i 13) 0 1 := hI 13
      refine k_get (D := (dC, dI)) (ci := 7) (v := .int (i 13)) (C := RX7) (T := TX7) (N := 92) hx hb hts hinX7 hown hK hP 7 rfl rfl 13 (by decide) w_1 rfl rfl dX7_thing_74 ?_
      refine lv_imul hx hb dX7_thing_77 ?_
      refine lv_topi (fun y_77 ey_77 => ?_)
      have f_77_7 : iR y_77 0 10 := iR_mul ey_77 (iR_c (n := 10) (a := 10) (b := 10) (by decide +kernel) (by decide +kernel)) f_74_6 (by decide +kernel)
      refine lv_iload_n hx hb dX7_thing_78 rfl (lv_at hl 2 rfl) ?_
      refine lv_iadd hx hb dX7_thing_79 ?_
      refine lv_topi (fun y_79 ey_79 => ?_)
      have f_79_8 : iR y_79 0 19 := iR_add ey_79 f_77_7 f_10_3 (by decide +kernel)
      refine va_iald hx hb hK hP 1 0 rfl rfl (iR_vp f_79_8 (by decide +kernel)) dX7_thing_80 ?_
      exact k_ri B hP hD hS dX7_thing_81 () [7, 8, 0, 1, 2, 3, 4, 5, 6] rfl rfl rfl (Nat.le_of_ble_eq_true rfl) (Nat.le_of_ble_eq_true rfl) trivial
    · have f_82_5 : iR x2 2 2 := iR_c c_13 (by decide +kernel)
      refine lv_tableIn (off := 69) (tgt := 82) hx hb dX7_thing_13 (by rw [c_13]; decide) (by rw [c_13]; decide) (by rw [c_13]; decide +kernel) (by decide +kernel) ?_
      refine lv_aload_n hx hb dX7_thing_82 rfl (lv_at hl 1 rfl) ?_
      refine k_get (D := (dC, dI)) (ci := 7) (v := .ref (r 17)) (C := RX7) (T := TX7) (N := 92) hx hb hts hinX7 hown hK hP 7 rfl rfl 17 (by decide) w_3 rfl rfl dX7_thing_83 ?_
      refine lv_bipush (v := 10) hx hb dX7_thing_86 (by decide +kernel) ?_
      refine lv_aload_n hx hb dX7_thing_88 rfl (lv_at hl 1 rfl) ?_
      have f_89_6 : iR (i 13) 0 1 := hI 13
      refine k_get (D := (dC, dI)) (ci := 7) (v := .int (i 13)) (C := RX7) (T := TX7) (N := 92) hx hb hts hinX7 hown hK hP 7 rfl rfl 13 (by decide) w_1 rfl rfl dX7_thing_89 ?_
      refine lv_imul hx hb dX7_thing_92 ?_
      refine lv_topi (fun y_92 ey_92 => ?_)
      have f_92_7 : iR y_92 0 10 := iR_mul ey_92 (iR_c (n := 10) (a := 10) (b := 10) (by decide +kernel) (by decide +kernel)) f_89_6 (by decide +kernel)
      refine lv_iload_n hx hb dX7_thing_93 rfl (lv_at hl 2 rfl) ?_
      refine lv_iadd hx hb dX7_thing_94 ?_
      refine lv_topi (fun y_94 ey_94 => ?_)
      have f_94_8 : iR y_94 0 19 := iR_add ey_94 f_92_7 f_10_3 (by decide +kernel)
      refine va_iald hx hb hK hP 2 0 rfl rfl (iR_vp f_94_8 (by decide +kernel)) dX7_thing_95 ?_
      have f_95_9 : iR (f17 y_94.toNatClampNeg) 0 1 := hf17 _
      exact k_ri B hP hD hS dX7_thing_96 () [7, 8, 0, 1, 2, 3, 4, 5, 6] rfl rfl rfl (Nat.le_of_ble_eq_true rfl) (Nat.le_of_ble_eq_true rfl) trivial
    · have f_97_5 : iR x2 3 3 := iR_c c_13 (by decide +kernel)
      refine lv_tableIn (off := 84) (tgt := 97) hx hb dX7_thing_13 (by rw [c_13]; decide) (by rw [c_13]; decide) (by rw [c_13]; decide +kernel) (by decide +kernel) ?_
      refine lv_aload_n hx hb dX7_thing_97 rfl (lv_at hl 1 rfl) ?_
      refine k_get (D := (dC, dI)) (ci := 7) (v := .ref (r 49)) (C := RX7) (T := TX7) (N := 92) hx hb hts hinX7 hown hK hP 7 rfl rfl 49 (by decide) w_4 rfl rfl dX7_thing_98 ?_
      refine lv_iconst (v := 0) hx hb dX7_thing_101 (by decide +kernel) ?_
      refine k_iald (v := (f49 0)) hx hb hK hP 6 0 0 rfl rfl rfl (Nat.le_of_ble_eq_true rfl) (Nat.le_of_ble_eq_true rfl) rfl dX7_thing_102 ?_
      have f_102_6 : iR (f49 0) 0 1023 := hf49 _
      refine lv_iload_n hx hb dX7_thing_103 rfl (lv_at hl 2 rfl) ?_
      refine k_ci (wc := []) (wr := [((r 15), .inl (cI, 20, .inl f15)), ((r 16), .inl (cI, 20, .inl f16)), ((r 17), .inl (cI, 20, .inl f17)), ((r 18), .inl (cI, 2, .inl f18)), ((r 20), .inl (cI, 24, .inl f20)), ((r 23), .inl (cI, 2, .inl f23)), ((r 49), .inl (cI, 22, .inl f49)), (h, .inr (7, oM r i j)), ((r 14), .inl (cI, 2, .inl f14))]) (fun hPc hDc hFc => va_runS (As := [.int (f49 0), .int x1]) (rest := []) ⟨hx, hb, hml, hown, hts⟩ (s_X7_holds_v0 l dC dI cI cJ cZ cM (f49 0) x1 H.size) (va_cwS 2 hts gX7_thing_X7_holds rfl rfl rfl (by decide +kernel) ⟨(Nat.le_of_ble_eq_true rfl), (Nat.le_of_ble_eq_true rfl)⟩) (k_pS hPc hDc hK hN hC hS hFc) rfl rfl hl.1 rfl (lv_room (Nat.le_of_ble_eq_true rfl)) dX7_thing_104 ⟨(Nat.le_of_ble_eq_true rfl), (Nat.le_of_ble_eq_true rfl)⟩) hP hD hS hA [] [0, 1, 2, 3, 4, 5, 6, 7, 8] rfl rfl rfl rfl (by decide) (fun _ => rfl) 0 0 rfl rfl (fun r_104 u_104 H locs hw hP hD hS => ?_)
      obtain g_104_0 := hw
      have hP : va_P (dC, dI) vwCl [((r 15), .inl (cI, 20, .inl f15)), ((r 16), .inl (cI, 20, .inl f16)), ((r 17), .inl (cI, 20, .inl f17)), ((r 18), .inl (cI, 2, .inl f18)), ((r 20), .inl (cI, 24, .inl f20)), ((r 23), .inl (cI, 2, .inl f23)), ((r 49), .inl (cI, 22, .inl f49)), (h, .inr (7, oM r i j)), ((r 14), .inl (cI, 2, .inl f14))] H := hP
      have hD : va_D A [((r 15), .inl (cI, 20, .inl f15)), ((r 16), .inl (cI, 20, .inl f16)), ((r 17), .inl (cI, 20, .inl f17)), ((r 18), .inl (cI, 2, .inl f18)), ((r 20), .inl (cI, 24, .inl f20)), ((r 23), .inl (cI, 2, .inl f23)), ((r 49), .inl (cI, 22, .inl f49)), (h, .inr (7, oM r i j)), ((r 14), .inl (cI, 2, .inl f14))] := hD
      refine lv_if_eq (tgt := 114) hx hb dX7_thing_107 (by decide) (fun c_107 => ?_) (fun c_107 => ?_)
      · have c_107 : r_104 = 0 := c_107
        have f_114_7 : iR r_104 0 0 := iR_eqL c_107 g_104_0 (iR_c (n := 0) (a := 0) (b := 0) (by decide +kernel) (by decide +kernel)) (by decide +kernel)
        refine lv_iconst (v := 0) hx hb dX7_thing_114 (by decide +kernel) ?_
        exact k_ri B hP hD hS dX7_thing_115 () [7, 8, 0, 1, 2, 3, 4, 5, 6] rfl rfl rfl (Nat.le_of_ble_eq_true rfl) (Nat.le_of_ble_eq_true rfl) trivial
      · have c_107 : ¬ r_104 = 0 := c_107
        have f_110_7 : iR r_104 1 1 := iR_neL c_107 g_104_0 (iR_c (n := 0) (a := 0) (b := 0) (by decide +kernel) (by decide +kernel)) (by decide +kernel)
        refine lv_iconst (v := 1) hx hb dX7_thing_110 (by decide +kernel) ?_
        refine lv_goto (tgt := 115) hx hb dX7_thing_111 (by decide) ?_
        exact k_ri B hP hD hS dX7_thing_115 () [7, 8, 0, 1, 2, 3, 4, 5, 6] rfl rfl rfl (Nat.le_of_ble_eq_true rfl) (Nat.le_of_ble_eq_true rfl) trivial
    · have f_116_5 : iR x2 4 4 := iR_c c_13 (by decide +kernel)
      refine lv_tableIn (off := 103) (tgt := 116) hx hb dX7_thing_13 (by rw [c_13]; decide) (by rw [c_13]; decide) (by rw [c_13]; decide +kernel) (by decide +kernel) ?_
      refine lv_aload_n hx hb dX7_thing_116 rfl (lv_at hl 1 rfl) ?_
      refine k_get (D := (dC, dI)) (ci := 7) (v := .ref (r 23)) (C := RX7) (T := TX7) (N := 92) hx hb hts hinX7 hown hK hP 7 rfl rfl 23 (by decide) w_5 rfl rfl dX7_thing_117 ?_
      refine lv_aload_n hx hb dX7_thing_120 rfl (lv_at hl 1 rfl) ?_
      have f_121_6 : iR (i 13) 0 1 := hI 13
      refine k_get (D := (dC, dI)) (ci := 7) (v := .int (i 13)) (C := RX7) (T := TX7) (N := 92) hx hb hts hinX7 hown hK hP 7 rfl rfl 13 (by decide) w_1 rfl rfl dX7_thing_121 ?_
      refine va_iald hx hb hK hP 5 0 rfl rfl (iR_vp f_121_6 (by decide +kernel)) dX7_thing_124 ?_
      have f_124_7 : iR (f23 (i 13).toNatClampNeg) 0 1023 := hf23 _
      refine lv_iload_n hx hb dX7_thing_125 rfl (lv_at hl 2 rfl) ?_
      refine k_ci (wc := []) (wr := [((r 15), .inl (cI, 20, .inl f15)), ((r 16), .inl (cI, 20, .inl f16)), ((r 17), .inl (cI, 20, .inl f17)), ((r 18), .inl (cI, 2, .inl f18)), ((r 20), .inl (cI, 24, .inl f20)), ((r 23), .inl (cI, 2, .inl f23)), ((r 49), .inl (cI, 22, .inl f49)), (h, .inr (7, oM r i j)), ((r 14), .inl (cI, 2, .inl f14))]) (fun hPc hDc hFc => va_runS (As := [.int (f23 (i 13).toNatClampNeg), .int x1]) (rest := []) ⟨hx, hb, hml, hown, hts⟩ (s_X7_holds_v0 l dC dI cI cJ cZ cM (f23 (i 13).toNatClampNeg) x1 H.size) (va_cwS 2 hts gX7_thing_X7_holds rfl rfl rfl (by decide +kernel) ⟨(Nat.le_of_ble_eq_true rfl), (Nat.le_of_ble_eq_true rfl)⟩) (k_pS hPc hDc hK hN hC hS hFc) rfl rfl hl.1 rfl (lv_room (Nat.le_of_ble_eq_true rfl)) dX7_thing_126 ⟨(Nat.le_of_ble_eq_true rfl), (Nat.le_of_ble_eq_true rfl)⟩) hP hD hS hA [] [0, 1, 2, 3, 4, 5, 6, 7, 8] rfl rfl rfl rfl (by decide) (fun _ => rfl) 0 0 rfl rfl (fun r_126 u_126 H locs hw hP hD hS => ?_)
      obtain g_126_0 := hw
      have hP : va_P (dC, dI) vwCl [((r 15), .inl (cI, 20, .inl f15)), ((r 16), .inl (cI, 20, .inl f16)), ((r 17), .inl (cI, 20, .inl f17)), ((r 18), .inl (cI, 2, .inl f18)), ((r 20), .inl (cI, 24, .inl f20)), ((r 23), .inl (cI, 2, .inl f23)), ((r 49), .inl (cI, 22, .inl f49)), (h, .inr (7, oM r i j)), ((r 14), .inl (cI, 2, .inl f14))] H := hP
      have hD : va_D A [((r 15), .inl (cI, 20, .inl f15)), ((r 16), .inl (cI, 20, .inl f16)), ((r 17), .inl (cI, 20, .inl f17)), ((r 18), .inl (cI, 2, .inl f18)), ((r 20), .inl (cI, 24, .inl f20)), ((r 23), .inl (cI, 2, .inl f23)), ((r 49), .inl (cI, 22, .inl f49)), (h, .inr (7, oM r i j)), ((r 14), .inl (cI, 2, .inl f14))] := hD
      refine lv_if_eq (tgt := 136) hx hb dX7_thing_129 (by decide) (fun c_129 => ?_) (fun c_129 => ?_)
      · have c_129 : r_126 = 0 := c_129
        have f_136_8 : iR r_126 0 0 := iR_eqL c_129 g_126_0 (iR_c (n := 0) (a := 0) (b := 0) (by decide +kernel) (by decide +kernel)) (by decide +kernel)
        refine lv_iconst (v := 0) hx hb dX7_thing_136 (by decide +kernel) ?_
        exact k_ri B hP hD hS dX7_thing_137 () [7, 8, 0, 1, 2, 3, 4, 5, 6] rfl rfl rfl (Nat.le_of_ble_eq_true rfl) (Nat.le_of_ble_eq_true rfl) trivial
      · have c_129 : ¬ r_126 = 0 := c_129
        have f_132_8 : iR r_126 1 1 := iR_neL c_129 g_126_0 (iR_c (n := 0) (a := 0) (b := 0) (by decide +kernel) (by decide +kernel)) (by decide +kernel)
        refine lv_iconst (v := 1) hx hb dX7_thing_132 (by decide +kernel) ?_
        refine lv_goto (tgt := 137) hx hb dX7_thing_133 (by decide) ?_
        exact k_ri B hP hD hS dX7_thing_137 () [7, 8, 0, 1, 2, 3, 4, 5, 6] rfl rfl rfl (Nat.le_of_ble_eq_true rfl) (Nat.le_of_ble_eq_true rfl) trivial
    · have f_138_5 : iR x2 5 5 := iR_c c_13 (by decide +kernel)
      refine lv_tableIn (off := 125) (tgt := 138) hx hb dX7_thing_13 (by rw [c_13]; decide) (by rw [c_13]; decide) (by rw [c_13]; decide +kernel) (by decide +kernel) ?_
      refine lv_iconst (v := 0) hx hb dX7_thing_138 (by decide +kernel) ?_
      have J_141 : ∀ (n_141 : Nat) (j141_L3 : Int32) (j141_L4 : Int32) (hj141_L4 : iR j141_L4 0 12) (hm_141 : (12 - j141_L4.toInt).toNat < n_141) (H : Heap) (locs : List Loc) (ls : Array Slot), va_P (dC, dI) vwCl [(h, .inr (7, oM r i j)), ((r 14), .inl (cI, 2, .inl f14)), ((r 15), .inl (cI, 20, .inl f15)), ((r 16), .inl (cI, 20, .inl f16)), ((r 17), .inl (cI, 20, .inl f17)), ((r 18), .inl (cI, 2, .inl f18)), ((r 20), .inl (cI, 24, .inl f20)), ((r 23), .inl (cI, 2, .inl f23)), ((r 49), .inl (cI, 22, .inl f49))] H → va_D A [(h, .inr (7, oM r i j)), ((r 14), .inl (cI, 2, .inl f14)), ((r 15), .inl (cI, 20, .inl f15)), ((r 16), .inl (cI, 20, .inl f16)), ((r 17), .inl (cI, 20, .inl f17)), ((r 18), .inl (cI, 2, .inl f18)), ((r 20), .inl (cI, 24, .inl f20)), ((r 23), .inl (cI, 2, .inl f23)), ((r 49), .inl (cI, 22, .inl f49))] → va_S A s.heap H locs → lv_has ls 5 [(0, .ref h), (1, .int x1), (3, .int j141_L3), (4, .int j141_L4)] → W p l e ({ frames := 2, cells := 0, slots := 0, locals := 61 }) s m args below meth c H locs 0 0 (MQ below (va_Qi (fun (r9 : Int32) (u9 : Unit) => True) (fun u => k_B (dC, dI) vwCl (tyy cI cJ cZ cM) A ((fun (u9 : Unit) => [(h, .inr (7, oM r i j)), ((r 14), .inl (cI, 2, .inl f14)), ((r 15), .inl (cI, 20, .inl f15)), ((r 16), .inl (cI, 20, .inl f16)), ((r 17), .inl (cI, 20, .inl f17)), ((r 18), .inl (cI, 2, .inl f18)), ((r 20), .inl (cI, 24, .inl f20)), ((r 23), .inl (cI, 2, .inl f23)), ((r 49), .inl (cI, 22, .inl f49))]) u)) A) args s 0 0 A) (F0 m 141 ls []) := by
        intro n_141
        induction n_141 with
        | zero => intro j141_L3 j141_L4 hj141_L4 hm_141; exact absurd hm_141 (Nat.not_lt_zero _)
        | succ n_141 ih_141 =>
          intro j141_L3 j141_L4 hj141_L4 hm_141 H locs ls hP hD hS hl
          refine lv_iload hx hb dX7_thing_141 (lv_at hl 3 rfl) ?_
          refine lv_aload_n hx hb dX7_thing_143 rfl (lv_at hl 0 rfl) ?_
          refine k_get (D := (dC, dI)) (ci := 7) (v := .ref (r 18)) (C := RX7) (T := TX7) (N := 92) hx hb hts hinX7 hown hK hP 0 rfl rfl 18 (by decide) w_6 rfl rfl dX7_thing_144 ?_
          refine lv_aload_n hx hb dX7_thing_147 rfl (lv_at hl 0 rfl) ?_
          have f_148_1 : iR (i 13) 0 1 := hI 13
          refine k_get (D := (dC, dI)) (ci := 7) (v := .int (i 13)) (C := RX7) (T := TX7) (N := 92) hx hb hts hinX7 hown hK hP 0 rfl rfl 13 (by decide) w_1 rfl rfl dX7_thing_148 ?_
          refine va_iald hx hb hK hP 5 0 rfl rfl (iR_vp f_148_1 (by decide +kernel)) dX7_thing_151 ?_
          have f_151_2 : iR (f18 (i 13).toNatClampNeg) 0 12 := hf18 _
          refine lv_icmp_ge (tgt := 179) hx hb dX7_thing_152 (by decide) (fun c_152 => ?_) (fun c_152 => ?_)
          · have c_152 : (f18 (i 13).toNatClampNeg) ≤ j141_L4 := c_152
            refine lv_iload_n hx hb dX7_thing_179 rfl (lv_at hl 2 rfl) ?_
            exact k_ri B hP hD hS dX7_thing_180 () [0, 1, 2, 3, 4, 5, 6, 7, 8] rfl rfl rfl (Nat.le_of_ble_eq_true rfl) (Nat.le_of_ble_eq_true rfl) trivial
          · have c_152 : j141_L4 < (f18 (i 13).toNatClampNeg) := i_nle c_152
            have f_155_3 : iR j141_L4 0 11 := iR_ltL c_152 hj141_L4 f_151_2 (by decide +kernel)
            have f_155_4 : iR (f18 (i 13).toNatClampNeg) 1 12 := iR_ltR c_152 hj141_L4 f_151_2 (by decide +kernel)
            refine lv_iload_n hx hb dX7_thing_155 rfl (lv_at hl 2 rfl) ?_
            refine lv_aload_n hx hb dX7_thing_156 rfl (lv_at hl 0 rfl) ?_
            refine lv_iload hx hb dX7_thing_157 (lv_at hl 3 rfl) ?_
            refine k_ci (wc := [(h, .inr (7, oM r i j)), ((r 20), .inl (cI, 24, .inl f20))]) (wr := [((r 14), .inl (cI, 2, .inl f14)), ((r 15), .inl (cI, 20, .inl f15)), ((r 16), .inl (cI, 20, .inl f16)), ((r 17), .inl (cI, 20, .inl f17)), ((r 18), .inl (cI, 2, .inl f18)), ((r 23), .inl (cI, 2, .inl f23)), ((r 49), .inl (cI, 22, .inl f49))]) (fun hPc hDc hFc => va_runV (As := [.int j141_L4]) (rest := [.int j141_L3]) ⟨hx, hb, hml, hown, hts⟩ (s_X7_givesOf_v4 l dC dI cI cJ cZ cM h r i j j141_L4 f20 f_155_3 hI hf20 H.size) (cwV 1 hts gX7_thing_X7_givesOf rfl rfl rfl (by decide +kernel) ⟨(Nat.le_of_ble_eq_true rfl), (Nat.le_of_ble_eq_true rfl)⟩) (k_pV hPc hDc hK hN hC hS hFc hP (q0 := 0) (ci := 7) rfl rfl) rfl rfl hl.1 rfl (lv_room (Nat.le_of_ble_eq_true rfl)) dX7_thing_159 ⟨(Nat.le_of_ble_eq_true rfl), (Nat.le_of_ble_eq_true rfl)⟩) hP hD hS hA [0, 6] [1, 2, 3, 4, 5, 7, 8] rfl rfl rfl rfl (by decide) (fun _ => rfl) 0 0 rfl rfl (fun r_159 u_159 H locs hw hP hD hS => ?_)
            obtain g_159_0 := hw
            have hP : va_P (dC, dI) vwCl [((r 14), .inl (cI, 2, .inl f14)), ((r 15), .inl (cI, 20, .inl f15)), ((r 16), .inl (cI, 20, .inl f16)), ((r 17), .inl (cI, 20, .inl f17)), ((r 18), .inl (cI, 2, .inl f18)), ((r 23), .inl (cI, 2, .inl f23)), ((r 49), .inl (cI, 22, .inl f49)), (h, .inr (7, oM r i j)), ((r 20), .inl (cI, 24, .inl f20))] H := hP
            have hD : va_D A [((r 14), .inl (cI, 2, .inl f14)), ((r 15), .inl (cI, 20, .inl f15)), ((r 16), .inl (cI, 20, .inl f16)), ((r 17), .inl (cI, 20, .inl f17)), ((r 18), .inl (cI, 2, .inl f18)), ((r 23), .inl (cI, 2, .inl f23)), ((r 49), .inl (cI, 22, .inl f49)), (h, .inr (7, oM r i j)), ((r 20), .inl (cI, 24, .inl f20))] := hD
            refine lv_iload_n hx hb dX7_thing_162 rfl (lv_at hl 1 rfl) ?_
            have J_171 : ∀ (j171_S0 : Int32) (hj171_S0 : iR j171_S0 0 1) (H : Heap) (locs : List Loc) (ls : Array Slot), va_P (dC, dI) vwCl [(h, .inr (7, oM r i j)), ((r 14), .inl (cI, 2, .inl f14)), ((r 15), .inl (cI, 20, .inl f15)), ((r 16), .inl (cI, 20, .inl f16)), ((r 17), .inl (cI, 20, .inl f17)), ((r 18), .inl (cI, 2, .inl f18)), ((r 20), .inl (cI, 24, .inl f20)), ((r 23), .inl (cI, 2, .inl f23)), ((r 49), .inl (cI, 22, .inl f49))] H → va_D A [(h, .inr (7, oM r i j)), ((r 14), .inl (cI, 2, .inl f14)), ((r 15), .inl (cI, 20, .inl f15)), ((r 16), .inl (cI, 20, .inl f16)), ((r 17), .inl (cI, 20, .inl f17)), ((r 18), .inl (cI, 2, .inl f18)), ((r 20), .inl (cI, 24, .inl f20)), ((r 23), .inl (cI, 2, .inl f23)), ((r 49), .inl (cI, 22, .inl f49))] → va_S A s.heap H locs → lv_has ls 5 [(0, .ref h), (1, .int x1), (4, .int j141_L4)] → W p l e ({ frames := 2, cells := 0, slots := 0, locals := 61 }) s m args below meth c H locs 0 0 (MQ below (va_Qi (fun (r9 : Int32) (u9 : Unit) => True) (fun u => k_B (dC, dI) vwCl (tyy cI cJ cZ cM) A ((fun (u9 : Unit) => [(h, .inr (7, oM r i j)), ((r 14), .inl (cI, 2, .inl f14)), ((r 15), .inl (cI, 20, .inl f15)), ((r 16), .inl (cI, 20, .inl f16)), ((r 17), .inl (cI, 20, .inl f17)), ((r 18), .inl (cI, 2, .inl f18)), ((r 20), .inl (cI, 24, .inl f20)), ((r 23), .inl (cI, 2, .inl f23)), ((r 49), .inl (cI, 22, .inl f49))]) u)) A) args s 0 0 A) (F0 m 171 ls [.int j171_S0, .int j141_L3]) := by
              intro j171_S0 hj171_S0 H locs ls hP hD hS hl
              refine lv_iadd hx hb dX7_thing_171 ?_
              refine lv_topi (fun y_171 ey_171 => ?_)
              refine lv_istore_n (lv' := [(3, .int y_171), (0, .ref h), (1, .int x1), (4, .int j141_L4)]) hx hb dX7_thing_172 rfl hl (by decide) rfl (fun ls hl => ?_)
              obtain ⟨y_173, ey_173⟩ : ∃ y : Int32, y = j141_L4 + 1 := ⟨_, rfl⟩
              refine lv_iinc (v := y_173) (lv' := [(4, .int y_173), (3, .int y_171), (0, .ref h), (1, .int x1)]) hx hb dX7_thing_173 hl (k := 3) rfl ey_173.symm (by decide) rfl (fun ls hl => ?_)
              have f_173_1 : iR y_173 1 12 := iR_add ey_173 f_155_3 (iR_c (n := 1) (a := 1) (b := 1) (by decide +kernel) (by decide +kernel)) (by decide +kernel)
              refine lv_goto (tgt := 141) hx hb dX7_thing_176 (by decide) ?_
              exact ih_141 y_171 y_173 (iR_w f_173_1 (by decide +kernel)) (m_up (B := 12) hm_141 ey_173 f_155_3 (by decide +kernel)) H locs ls hP hD hS (lv_sub hl [2, 3, 1, 0] rfl)
            refine lv_icmp_ne (tgt := 170) hx hb dX7_thing_163 (by decide) (fun c_163 => ?_) (fun c_163 => ?_)
            · have c_163 : ¬ r_159 = x1 := c_163
              refine lv_iconst (v := 0) hx hb dX7_thing_170 (by decide +kernel) ?_
              exact J_171 0 (iR_c (n := 0) (a := 0) (b := 1) (by decide +kernel) (by decide +kernel)) H locs ls (hP.sub [7, 0, 1, 2, 3, 4, 8, 5, 6] rfl) (hD.sub [7, 0, 1, 2, 3, 4, 8, 5, 6] (by decide +kernel) rfl) hS (lv_sub hl [0, 1, 3] rfl)
            · have c_163 : r_159 = x1 := c_163
              refine lv_iconst (v := 1) hx hb dX7_thing_166 (by decide +kernel) ?_
              refine lv_goto (tgt := 171) hx hb dX7_thing_167 (by decide) ?_
              exact J_171 1 (iR_c (n := 1) (a := 0) (b := 1) (by decide +kernel) (by decide +kernel)) H locs ls (hP.sub [7, 0, 1, 2, 3, 4, 8, 5, 6] rfl) (hD.sub [7, 0, 1, 2, 3, 4, 8, 5, 6] (by decide +kernel) rfl) hS (lv_sub hl [0, 1, 3] rfl)
      refine lv_istore (lv' := [(4, .int 0), (3, .int 0), (0, .ref h), (1, .int x1), (2, .int x2)]) hx hb dX7_thing_139 hl (by decide) rfl (fun ls hl => ?_)
      exact J_141 _ 0 0 (iR_c (n := 0) (a := 0) (b := 12) (by decide +kernel) (by decide +kernel)) (Nat.lt_succ_self _) H locs ls (hP.sub [7, 8, 0, 1, 2, 3, 4, 5, 6] rfl) (hD.sub [7, 8, 0, 1, 2, 3, 4, 5, 6] (by decide +kernel) rfl) hS (lv_sub hl [2, 3, 1, 0] rfl)
    · refine lv_tableOut (tgt := 181) hx hb dX7_thing_13 (by omega) (by decide +kernel) ?_
      refine lv_iconst (v := (-1)) hx hb dX7_thing_181 (by decide +kernel) ?_
      exact k_ri B hP hD hS dX7_thing_182 () [7, 8, 0, 1, 2, 3, 4, 5, 6] rfl rfl rfl (Nat.le_of_ble_eq_true rfl) (Nat.le_of_ble_eq_true rfl) trivial
  · have c_5 : r_2 = 0 := c_5
    have f_8_1 : iR r_2 0 0 := iR_eqL c_5 g_2_0 (iR_c (n := 0) (a := 0) (b := 0) (by decide +kernel) (by decide +kernel)) (by decide +kernel)
    refine lv_iconst (v := (-1)) hx hb dX7_thing_8 (by decide +kernel) ?_
    exact k_ri B hP hD hS dX7_thing_9 () [7, 8, 0, 1, 2, 3, 4, 5, 6] rfl rfl rfl (Nat.le_of_ble_eq_true rfl) (Nat.le_of_ble_eq_true rfl) trivial
set_option maxHeartbeats 8000000 in
set_option maxRecDepth 100000 in
theorem s_X7_refuses_v6 (l : Launch) (dC : Nat → ClassId) (dI : Nat → Nat → Nat) (cI cJ cZ cM : ClassId) (h : Nat) (r : Nat → Nat) (i : Nat → Int32) (j : Nat → Int64) (x1 : Int32) (f48 : Nat → Int32) (hx1 : iR x1 0 5) (hI : mR i) : k_Mi l yX7_refuses wsX7_refuses ({ frames := 1, cells := 0, slots := 0, locals := 40 }) (dC, dI) vwCl (tyy cI cJ cZ cM) [(h, .inr (7, oM r i j)), ((r 48), .inl (cI, 6, .inl f48))] [.ref h, .int x1] 0 0 (fun (u9 : SU) => [(h, .inr (7, oM r i j)), ((r 48), .inl (cI, 6, .inl (u9.2.2.1 0)))]) (fun (r9 : Int32) (u9 : SU) => (r9 = (-1))) := by
  refine fun sz => k_enter (cc := cX7_refuses) (maxL := 2) (ret := some (.int)) (Qc := fun A => va_Qi (fun (r9 : Int32) (u9 : SU) => (r9 = (-1))) (fun u => k_B (dC, dI) vwCl (tyy cI cJ cZ cM) A ((fun (u9 : SU) => [(h, .inr (7, oM r i j)), ((r 48), .inl (cI, 6, .inl (u9.2.2.1 0)))]) u)) A) sz (by decide +kernel) rfl (Nat.le_of_ble_eq_true rfl) (fun p e s m args below meth c A ls H locs B hP hD hS hl => ?_)
  obtain ⟨hx, hb, hml, hown, hts, hr, hlk, hnm, hK, hA, hN, hC⟩ := id B
  have hown : s.vm.findClass RX7 = some m.cls := hown
  have hl : lv_has ls 2 [(0, .ref h), (1, .int x1)] := hl
  have w_0 : (Cond.fieldLink RX7 159 "WishSeaModel" "refused" "[I").before args s = true := hts _ (List.mem_of_getElem? (i := 1) rfl)
  have hinX7 : ∀ w ∈ u_ws RX7 TX7 92, w ∈ wsX7_refuses := fun _ h => List.mem_cons_of_mem _ (List.mem_append_right _ h)
  refine lv_aload_n hx hb dX7_refuses_0 rfl (lv_at hl 0 rfl) ?_
  refine k_get (D := (dC, dI)) (ci := 7) (v := .ref (r 48)) (C := RX7) (T := TX7) (N := 92) hx hb hts hinX7 hown hK hP 0 rfl rfl 48 (by decide) w_0 rfl rfl dX7_refuses_1 ?_
  refine lv_iload_n hx hb dX7_refuses_4 rfl (lv_at hl 1 rfl) ?_
  refine lv_dup2_11 hx hb dX7_refuses_5 rfl rfl ?_
  refine va_iald hx hb hK hP 1 0 rfl rfl (iR_vp hx1 (by decide +kernel)) dX7_refuses_6 ?_
  refine lv_iconst (v := 1) hx hb dX7_refuses_7 (by decide +kernel) ?_
  refine lv_iadd hx hb dX7_refuses_8 ?_
  refine lv_topi (fun y_8 ey_8 => ?_)
  refine s_iast (g := (upd f48 x1.toNatClampNeg y_8)) (ws' := [(h, .inr (7, oM r i j)), ((r 48), .inl (cI, 6, .inl (upd f48 x1.toNatClampNeg y_8)))]) hx hb hK hP hD hS 1 0 rfl rfl (iR_vp hx1 (by decide +kernel)) rfl rfl dX7_refuses_9 (fun H locs hP hD hS => ?_)
  refine lv_iconst (v := (-1)) hx hb dX7_refuses_10 (by decide +kernel) ?_
  exact k_ri B hP hD hS dX7_refuses_11 ((fun _ => 0), (fun _ => 0), (fun k9 => match k9 with | 0 => (upd f48 x1.toNatClampNeg y_8) | _ => (fun _ => 0)), (fun _ => (fun _ => 0)), (fun _ => 0)) [0, 1] rfl rfl rfl (Nat.le_of_ble_eq_true rfl) (Nat.le_of_ble_eq_true rfl) rfl
set_option maxHeartbeats 8000000 in
set_option maxRecDepth 100000 in
theorem s_X7_falls_v0 (l : Launch) (dC : Nat → ClassId) (dI : Nat → Nat → Nat) (cI cJ cZ cM : ClassId) (h : Nat) (r : Nat → Nat) (i : Nat → Int32) (j : Nat → Int64) (f0 : Nat → Int32) (f48 : Nat → Int32) (f78 : Nat → Int32) (f79 : Nat → Int32) (hI : mR i) (hf0 : aR f0 0 255) : k_Mi l yX7_falls wsX7_falls ({ frames := 2, cells := 0, slots := 0, locals := 61 }) (dC, dI) vwCl (tyy cI cJ cZ cM) [(h, .inr (7, oM r i j)), ((r 0), .inl (cI, 1800, .inl f0)), ((r 48), .inl (cI, 6, .inl f48)), ((r 78), .inl (cI, 20, .inl f78)), ((r 79), .inl (cI, 20, .inl f79))] [.ref h] 0 0 (fun (u9 : SU) => [(h, .inr (7, oM r (upd (upd i 1 0) 77 (u9.1 0)) j)), ((r 0), .inl (cI, 1800, .inl f0)), ((r 48), .inl (cI, 6, .inl (u9.2.2.1 0))), ((r 78), .inl (cI, 20, .inl (u9.2.2.1 1))), ((r 79), .inl (cI, 20, .inl (u9.2.2.1 2)))]) (fun (r9 : Int32) (u9 : SU) => (iR r9 (-1) 20) ∧ (iR (u9.1 0) 0 20)) := by
  refine fun sz => k_enter (cc := cX7_falls) (maxL := 4) (ret := some (.int)) (Qc := fun A => va_Qi (fun (r9 : Int32) (u9 : SU) => (iR r9 (-1) 20) ∧ (iR (u9.1 0) 0 20)) (fun u => k_B (dC, dI) vwCl (tyy cI cJ cZ cM) A ((fun (u9 : SU) => [(h, .inr (7, oM r (upd (upd i 1 0) 77 (u9.1 0)) j)), ((r 0), .inl (cI, 1800, .inl f0)), ((r 48), .inl (cI, 6, .inl (u9.2.2.1 0))), ((r 78), .inl (cI, 20, .inl (u9.2.2.1 1))), ((r 79), .inl (cI, 20, .inl (u9.2.2.1 2)))]) u)) A) sz (by decide +kernel) rfl (Nat.le_of_ble_eq_true rfl) (fun p e s m args below meth c A ls H locs B hP hD hS hl => ?_)
  obtain ⟨hx, hb, hml, hown, hts, hr, hlk, hnm, hK, hA, hN, hC⟩ := id B
  have hown : s.vm.findClass RX7 = some m.cls := hown
  have hl : lv_has ls 4 [(0, .ref h)] := hl
  have w_0 : (Cond.fieldLink RX7 13 "WishSeaModel" "taped" "I").before args s = true := hts _ (List.mem_of_getElem? (i := 1) rfl)
  have w_1 : (Cond.fieldLink RX7 246 "WishSeaModel" "fallMany" "I").before args s = true := hts _ (List.mem_of_getElem? (i := 3) rfl)
  have w_2 : (Cond.fieldLink RX7 249 "WishSeaModel" "fallDark" "[I").before args s = true := hts _ (List.mem_of_getElem? (i := 4) rfl)
  have w_3 : (Cond.fieldLink RX7 7 "WishSeaModel" "tape" "[I").before args s = true := hts _ (List.mem_of_getElem? (i := 2) rfl)
  have w_4 : (Cond.fieldLink RX7 252 "WishSeaModel" "fallIs" "[I").before args s = true := hts _ (List.mem_of_getElem? (i := 5) rfl)
  have hinX7 : ∀ w ∈ u_ws RX7 TX7 92, w ∈ wsX7_falls := fun _ h => List.mem_cons_of_mem _ (List.mem_append_right _ h)
  refine lv_aload_n hx hb dX7_falls_0 rfl (lv_at hl 0 rfl) ?_
  have f_1_1 : iR (i 1) 0 1600 := hI 1
  refine k_get (D := (dC, dI)) (ci := 7) (v := .int (i 1)) (C := RX7) (T := TX7) (N := 92) hx hb hts hinX7 hown hK hP 0 rfl rfl 1 (by decide) w_0 rfl rfl dX7_falls_1 ?_
  refine lv_istore_n (lv' := [(1, .int (i 1)), (0, .ref h)]) hx hb dX7_falls_4 rfl hl (by decide) rfl (fun ls hl => ?_)
  refine lv_aload_n hx hb dX7_falls_5 rfl (lv_at hl 1 rfl) ?_
  refine lv_iconst (v := 0) hx hb dX7_falls_6 (by decide +kernel) ?_
  refine k_put (D := (dC, dI)) (ci := 7) (v := .int 0) (C := RX7) (T := TX7) (N := 92) (ws' := [(h, .inr (7, oM r (upd i 1 0) j)), ((r 0), .inl (cI, 1800, .inl f0)), ((r 48), .inl (cI, 6, .inl f48)), ((r 78), .inl (cI, 20, .inl f78)), ((r 79), .inl (cI, 20, .inl f79))]) hx hb hts hinX7 tyX7 tyX7_ok nmX7 hown hK hP hD hS 0 rfl rfl 1 (by decide) w_0 rfl rfl rfl rfl (Nat.le_of_ble_eq_true rfl) rfl dX7_falls_7 (fun H locs hP hD hS => ?_)
  refine lv_iload_n hx hb dX7_falls_10 rfl (lv_at hl 0 rfl) ?_
  have J_30 : ∀   (H : Heap) (locs : List Loc) (ls : Array Slot), va_P (dC, dI) vwCl [(h, .inr (7, oM r (upd i 1 0) j)), ((r 0), .inl (cI, 1800, .inl f0)), ((r 48), .inl (cI, 6, .inl f48)), ((r 78), .inl (cI, 20, .inl f78)), ((r 79), .inl (cI, 20, .inl f79))] H → va_D A [(h, .inr (7, oM r (upd i 1 0) j)), ((r 0), .inl (cI, 1800, .inl f0)), ((r 48), .inl (cI, 6, .inl f48)), ((r 78), .inl (cI, 20, .inl f78)), ((r 79), .inl (cI, 20, .inl f79))] → va_S A s.heap H locs → lv_has ls 4 [(0, .ref h), (1, .int (i 1))] → W p l e ({ frames := 2, cells := 0, slots := 0, locals := 61 }) s m args below meth c H locs 0 0 (MQ below (va_Qi (fun (r9 : Int32) (u9 : SU) => (iR r9 (-1) 20) ∧ (iR (u9.1 0) 0 20)) (fun u => k_B (dC, dI) vwCl (tyy cI cJ cZ cM) A ((fun (u9 : SU) => [(h, .inr (7, oM r (upd (upd i 1 0) 77 (u9.1 0)) j)), ((r 0), .inl (cI, 1800, .inl f0)), ((r 48), .inl (cI, 6, .inl (u9.2.2.1 0))), ((r 78), .inl (cI, 20, .inl (u9.2.2.1 1))), ((r 79), .inl (cI, 20, .inl (u9.2.2.1 2)))]) u)) A) args s 0 0 A) (F0 m 30 ls []) := by
    intro   H locs ls hP hD hS hl
    refine lv_iconst (v := 0) hx hb dX7_falls_30 (by decide +kernel) ?_
    refine lv_istore_n (lv' := [(2, .int 0), (0, .ref h), (1, .int (i 1))]) hx hb dX7_falls_31 rfl hl (by decide) rfl (fun ls hl => ?_)
    refine lv_iconst (v := 2) hx hb dX7_falls_32 (by decide +kernel) ?_
    have J_34p30 : ∀ (n_34p30 : Nat)   (hm_34p30 : 0 < n_34p30) (H : Heap) (locs : List Loc) (ls : Array Slot), va_P (dC, dI) vwCl [(h, .inr (7, oM r (upd i 1 0) j)), ((r 0), .inl (cI, 1800, .inl f0)), ((r 48), .inl (cI, 6, .inl f48)), ((r 78), .inl (cI, 20, .inl f78)), ((r 79), .inl (cI, 20, .inl f79))] H → va_D A [(h, .inr (7, oM r (upd i 1 0) j)), ((r 0), .inl (cI, 1800, .inl f0)), ((r 48), .inl (cI, 6, .inl f48)), ((r 78), .inl (cI, 20, .inl f78)), ((r 79), .inl (cI, 20, .inl f79))] → va_S A s.heap H locs → lv_has ls 4 [(0, .ref h), (1, .int (i 1)), (2, .int 0), (3, .int 2)] → W p l e ({ frames := 2, cells := 0, slots := 0, locals := 61 }) s m args below meth c H locs 0 0 (MQ below (va_Qi (fun (r9 : Int32) (u9 : SU) => (iR r9 (-1) 20) ∧ (iR (u9.1 0) 0 20)) (fun u => k_B (dC, dI) vwCl (tyy cI cJ cZ cM) A ((fun (u9 : SU) => [(h, .inr (7, oM r (upd (upd i 1 0) 77 (u9.1 0)) j)), ((r 0), .inl (cI, 1800, .inl f0)), ((r 48), .inl (cI, 6, .inl (u9.2.2.1 0))), ((r 78), .inl (cI, 20, .inl (u9.2.2.1 1))), ((r 79), .inl (cI, 20, .inl (u9.2.2.1 2)))]) u)) A) args s 0 0 A) (F0 m 34 ls []) := by
      intro n_34p30
      induction n_34p30 with
      | zero => intro   hm_34p30; exact absurd hm_34p30 (Nat.not_lt_zero _)
      | succ n_34p30 ih_34p30 =>
        intro   hm_34p30 H locs ls hP hD hS hl
        refine lv_iload_n hx hb dX7_falls_34 rfl (lv_at hl 3 rfl) ?_
        refine lv_iload_n hx hb dX7_falls_35 rfl (lv_at hl 1 rfl) ?_
        have J_65p30 : ∀   (H : Heap) (locs : List Loc) (ls : Array Slot), va_P (dC, dI) vwCl [(h, .inr (7, oM r (upd i 1 0) j)), ((r 0), .inl (cI, 1800, .inl f0)), ((r 48), .inl (cI, 6, .inl f48)), ((r 78), .inl (cI, 20, .inl f78)), ((r 79), .inl (cI, 20, .inl f79))] H → va_D A [(h, .inr (7, oM r (upd i 1 0) j)), ((r 0), .inl (cI, 1800, .inl f0)), ((r 48), .inl (cI, 6, .inl f48)), ((r 78), .inl (cI, 20, .inl f78)), ((r 79), .inl (cI, 20, .inl f79))] → va_S A s.heap H locs → lv_has ls 4 [(0, .ref h), (1, .int (i 1)), (2, .int 0)] → W p l e ({ frames := 2, cells := 0, slots := 0, locals := 61 }) s m args below meth c H locs 0 0 (MQ below (va_Qi (fun (r9 : Int32) (u9 : SU) => (iR r9 (-1) 20) ∧ (iR (u9.1 0) 0 20)) (fun u => k_B (dC, dI) vwCl (tyy cI cJ cZ cM) A ((fun (u9 : SU) => [(h, .inr (7, oM r (upd (upd i 1 0) 77 (u9.1 0)) j)), ((r 0), .inl (cI, 1800, .inl f0)), ((r 48), .inl (cI, 6, .inl (u9.2.2.1 0))), ((r 78), .inl (cI, 20, .inl (u9.2.2.1 1))), ((r 79), .inl (cI, 20, .inl (u9.2.2.1 2)))]) u)) A) args s 0 0 A) (F0 m 65 ls []) := by
          intro   H locs ls hP hD hS hl
          refine lv_iload_n hx hb dX7_falls_65 rfl (lv_at hl 2 rfl) ?_
          refine lv_if_ne (tgt := 75) hx hb dX7_falls_66 (by decide) (fun q9 => absurd q9 (by decide +kernel)) (fun _ => ?_)
          refine lv_aload_n hx hb dX7_falls_69 rfl (lv_at hl 0 rfl) ?_
          refine lv_iconst (v := 5) hx hb dX7_falls_70 (by decide +kernel) ?_
          refine k_ci (wc := [(h, .inr (7, oM r (upd i 1 0) j)), ((r 48), .inl (cI, 6, .inl f48))]) (wr := [((r 0), .inl (cI, 1800, .inl f0)), ((r 78), .inl (cI, 20, .inl f78)), ((r 79), .inl (cI, 20, .inl f79))]) (fun hPc hDc hFc => va_runV (As := [.int 5]) (rest := []) ⟨hx, hb, hml, hown, hts⟩ (s_X7_refuses_v6 l dC dI cI cJ cZ cM h r (upd i 1 0) j 5 f48 (iR_c (n := 5) (a := 0) (b := 5) (by decide +kernel) (by decide +kernel)) (mR_upd 1 hI (show iR _ (loI 1) (hiI 1) from (iR_c (n := 0) (a := 0) (b := 1600) (by decide +kernel) (by decide +kernel)))) H.size) (cwV 1 hts gX7_falls_X7_refuses rfl rfl rfl (by decide +kernel) ⟨(Nat.le_of_ble_eq_true rfl), (Nat.le_of_ble_eq_true rfl)⟩) (k_pV hPc hDc hK hN hC hS hFc hP (q0 := 0) (ci := 7) rfl rfl) rfl rfl hl.1 rfl (lv_room (Nat.le_of_ble_eq_true rfl)) dX7_falls_71 ⟨(Nat.le_of_ble_eq_true rfl), (Nat.le_of_ble_eq_true rfl)⟩) hP hD hS hA [0, 2] [1, 3, 4] rfl rfl rfl rfl (by decide) (fun _ => rfl) 0 0 rfl rfl (fun r_71p30 u_71p30 H locs hw hP hD hS => ?_)
          obtain g_71p30_0 := hw
          obtain rfl : r_71p30 = (-1) := g_71p30_0
          have hP : va_P (dC, dI) vwCl [((r 0), .inl (cI, 1800, .inl f0)), ((r 78), .inl (cI, 20, .inl f78)), ((r 79), .inl (cI, 20, .inl f79)), (h, .inr (7, oM r (upd i 1 0) j)), ((r 48), .inl (cI, 6, .inl (u_71p30.2.2.1 0)))] H := hP
          have hD : va_D A [((r 0), .inl (cI, 1800, .inl f0)), ((r 78), .inl (cI, 20, .inl f78)), ((r 79), .inl (cI, 20, .inl f79)), (h, .inr (7, oM r (upd i 1 0) j)), ((r 48), .inl (cI, 6, .inl (u_71p30.2.2.1 0)))] := hD
          exact k_ri B hP hD hS dX7_falls_74 ((fun k9 => match k9 with | 0 => (i 77) | _ => 0), (fun _ => 0), (fun k9 => match k9 with | 0 => (u_71p30.2.2.1 0) | 1 => f78 | 2 => f79 | _ => (fun _ => 0)), (fun _ => (fun _ => 0)), (fun _ => 0)) [3, 0, 4, 1, 2] rfl rfl rfl (Nat.le_of_ble_eq_true rfl) (Nat.le_of_ble_eq_true rfl) ⟨(iR_c (n := (-1)) (a := (-1)) (b := 20) (by decide +kernel) (by decide +kernel)), (hI 77)⟩
        refine lv_icmp_ge (tgt := 65) hx hb dX7_falls_36 (by decide) (fun c_36p30 => ?_) (fun c_36p30 => ?_)
        · have c_36p30 : (i 1) ≤ 2 := c_36p30
          have f_65p30_1 : iR (i 1) 0 2 := iR_leL c_36p30 f_1_1 (iR_c (n := 2) (a := 2) (b := 2) (by decide +kernel) (by decide +kernel)) (by decide +kernel)
          exact J_65p30   H locs ls hP hD hS (lv_sub hl [0, 1, 2] rfl)
        · have c_36p30 : 2 < (i 1) := i_nle c_36p30
          have f_39p30_1 : iR (i 1) 3 1600 := iR_ltR c_36p30 (iR_c (n := 2) (a := 2) (b := 2) (by decide +kernel) (by decide +kernel)) f_1_1 (by decide +kernel)
          refine lv_iload_n hx hb dX7_falls_39 rfl (lv_at hl 2 rfl) ?_
          refine lv_if_eq (tgt := 65) hx hb dX7_falls_40 (by decide) (fun _ => ?_) (fun q9 => absurd q9 (by decide +kernel))
          exact J_65p30   H locs ls hP hD hS (lv_sub hl [0, 1, 2] rfl)
    refine lv_istore_n (lv' := [(3, .int 2), (2, .int 0), (0, .ref h), (1, .int (i 1))]) hx hb dX7_falls_33 rfl hl (by decide) rfl (fun ls hl => ?_)
    exact J_34p30 _   (Nat.lt_succ_self _) H locs ls hP hD hS (lv_sub hl [2, 3, 1, 0] rfl)
  refine lv_if_le (tgt := 30) hx hb dX7_falls_11 (by decide) (fun c_11 => ?_) (fun c_11 => ?_)
  · have c_11 : (i 1) ≤ 0 := c_11
    have f_30_2 : iR (i 1) 0 0 := iR_leL c_11 f_1_1 (iR_c (n := 0) (a := 0) (b := 0) (by decide +kernel) (by decide +kernel)) (by decide +kernel)
    exact J_30   H locs ls hP hD hS (lv_sub hl [1, 0] rfl)
  · have c_11 : 0 < (i 1) := i_nle c_11
    have f_14_2 : iR (i 1) 1 1600 := iR_ltR c_11 (iR_c (n := 0) (a := 0) (b := 0) (by decide +kernel) (by decide +kernel)) f_1_1 (by decide +kernel)
    refine lv_iload_n hx hb dX7_falls_14 rfl (lv_at hl 0 rfl) ?_
    refine lv_iconst (v := 3) hx hb dX7_falls_15 (by decide +kernel) ?_
    refine lv_irem hx hb dX7_falls_16 (i_nz (iR_c (n := 3) (a := 3) (b := 3) (by decide +kernel) (by decide +kernel)) (by decide +kernel)) ?_
    refine lv_topi (fun y_16 ey_16 => ?_)
    have f_16_3 : iR y_16 0 2 := iR_rem ey_16 f_14_2 (iR_c (n := 3) (a := 3) (b := 3) (by decide +kernel) (by decide +kernel)) (by decide +kernel)
    refine lv_if_ne (tgt := 30) hx hb dX7_falls_17 (by decide) (fun c_17 => ?_) (fun c_17 => ?_)
    · have c_17 : ¬ y_16 = 0 := c_17
      have f_30_4 : iR y_16 1 2 := iR_neL c_17 f_16_3 (iR_c (n := 0) (a := 0) (b := 0) (by decide +kernel) (by decide +kernel)) (by decide +kernel)
      exact J_30   H locs ls hP hD hS (lv_sub hl [1, 0] rfl)
    · have c_17 : y_16 = 0 := c_17
      have f_20_4 : iR y_16 0 0 := iR_eqL c_17 f_16_3 (iR_c (n := 0) (a := 0) (b := 0) (by decide +kernel) (by decide +kernel)) (by decide +kernel)
      refine lv_iload_n hx hb dX7_falls_20 rfl (lv_at hl 0 rfl) ?_
      refine lv_bipush (v := 60) hx hb dX7_falls_21 (by decide +kernel) ?_
      refine lv_icmp_gt (tgt := 30) hx hb dX7_falls_23 (by decide) (fun c_23 => ?_) (fun c_23 => ?_)
      · have c_23 : 60 < (i 1) := c_23
        have f_30_5 : iR (i 1) 61 1600 := iR_ltR c_23 (iR_c (n := 60) (a := 60) (b := 60) (by decide +kernel) (by decide +kernel)) f_14_2 (by decide +kernel)
        exact J_30   H locs ls hP hD hS (lv_sub hl [1, 0] rfl)
      · have c_23 : (i 1) ≤ 60 := i_nlt c_23
        have f_26_5 : iR (i 1) 1 60 := iR_leL c_23 f_14_2 (iR_c (n := 60) (a := 60) (b := 60) (by decide +kernel) (by decide +kernel)) (by decide +kernel)
        refine lv_iconst (v := 1) hx hb dX7_falls_26 (by decide +kernel) ?_
        refine lv_goto (tgt := 31) hx hb dX7_falls_27 (by decide) ?_
        refine lv_istore_n (lv' := [(2, .int 1), (1, .int (i 1)), (0, .ref h)]) hx hb dX7_falls_31 rfl hl (by decide) rfl (fun ls hl => ?_)
        refine lv_iconst (v := 2) hx hb dX7_falls_32 (by decide +kernel) ?_
        have J_34p27 : ∀ (n_34p27 : Nat) (j34p27_L2 : Int32) (j34p27_L3 : Int32) (hj34p27_L2 : iR j34p27_L2 0 1) (hj34p27_L3 : iR j34p27_L3 2 80) (hm_34p27 : (80 - j34p27_L3.toInt).toNat < n_34p27) (H : Heap) (locs : List Loc) (ls : Array Slot), va_P (dC, dI) vwCl [(h, .inr (7, oM r (upd i 1 0) j)), ((r 0), .inl (cI, 1800, .inl f0)), ((r 48), .inl (cI, 6, .inl f48)), ((r 78), .inl (cI, 20, .inl f78)), ((r 79), .inl (cI, 20, .inl f79))] H → va_D A [(h, .inr (7, oM r (upd i 1 0) j)), ((r 0), .inl (cI, 1800, .inl f0)), ((r 48), .inl (cI, 6, .inl f48)), ((r 78), .inl (cI, 20, .inl f78)), ((r 79), .inl (cI, 20, .inl f79))] → va_S A s.heap H locs → lv_has ls 4 [(0, .ref h), (1, .int (i 1)), (2, .int j34p27_L2), (3, .int j34p27_L3)] → W p l e ({ frames := 2, cells := 0, slots := 0, locals := 61 }) s m args below meth c H locs 0 0 (MQ below (va_Qi (fun (r9 : Int32) (u9 : SU) => (iR r9 (-1) 20) ∧ (iR (u9.1 0) 0 20)) (fun u => k_B (dC, dI) vwCl (tyy cI cJ cZ cM) A ((fun (u9 : SU) => [(h, .inr (7, oM r (upd (upd i 1 0) 77 (u9.1 0)) j)), ((r 0), .inl (cI, 1800, .inl f0)), ((r 48), .inl (cI, 6, .inl (u9.2.2.1 0))), ((r 78), .inl (cI, 20, .inl (u9.2.2.1 1))), ((r 79), .inl (cI, 20, .inl (u9.2.2.1 2)))]) u)) A) args s 0 0 A) (F0 m 34 ls []) := by
          intro n_34p27
          induction n_34p27 with
          | zero => intro j34p27_L2 j34p27_L3 hj34p27_L2 hj34p27_L3 hm_34p27; exact absurd hm_34p27 (Nat.not_lt_zero _)
          | succ n_34p27 ih_34p27 =>
            intro j34p27_L2 j34p27_L3 hj34p27_L2 hj34p27_L3 hm_34p27 H locs ls hP hD hS hl
            refine lv_iload_n hx hb dX7_falls_34 rfl (lv_at hl 3 rfl) ?_
            refine lv_iload_n hx hb dX7_falls_35 rfl (lv_at hl 1 rfl) ?_
            have J_65p27 : ∀   (H : Heap) (locs : List Loc) (ls : Array Slot), va_P (dC, dI) vwCl [(h, .inr (7, oM r (upd i 1 0) j)), ((r 0), .inl (cI, 1800, .inl f0)), ((r 48), .inl (cI, 6, .inl f48)), ((r 78), .inl (cI, 20, .inl f78)), ((r 79), .inl (cI, 20, .inl f79))] H → va_D A [(h, .inr (7, oM r (upd i 1 0) j)), ((r 0), .inl (cI, 1800, .inl f0)), ((r 48), .inl (cI, 6, .inl f48)), ((r 78), .inl (cI, 20, .inl f78)), ((r 79), .inl (cI, 20, .inl f79))] → va_S A s.heap H locs → lv_has ls 4 [(0, .ref h), (1, .int (i 1)), (2, .int j34p27_L2)] → W p l e ({ frames := 2, cells := 0, slots := 0, locals := 61 }) s m args below meth c H locs 0 0 (MQ below (va_Qi (fun (r9 : Int32) (u9 : SU) => (iR r9 (-1) 20) ∧ (iR (u9.1 0) 0 20)) (fun u => k_B (dC, dI) vwCl (tyy cI cJ cZ cM) A ((fun (u9 : SU) => [(h, .inr (7, oM r (upd (upd i 1 0) 77 (u9.1 0)) j)), ((r 0), .inl (cI, 1800, .inl f0)), ((r 48), .inl (cI, 6, .inl (u9.2.2.1 0))), ((r 78), .inl (cI, 20, .inl (u9.2.2.1 1))), ((r 79), .inl (cI, 20, .inl (u9.2.2.1 2)))]) u)) A) args s 0 0 A) (F0 m 65 ls []) := by
              intro   H locs ls hP hD hS hl
              refine lv_iload_n hx hb dX7_falls_65 rfl (lv_at hl 2 rfl) ?_
              refine lv_if_ne (tgt := 75) hx hb dX7_falls_66 (by decide) (fun c_66p27 => ?_) (fun c_66p27 => ?_)
              · have c_66p27 : ¬ j34p27_L2 = 0 := c_66p27
                have f_75p27_1 : iR j34p27_L2 1 1 := iR_neL c_66p27 hj34p27_L2 (iR_c (n := 0) (a := 0) (b := 0) (by decide +kernel) (by decide +kernel)) (by decide +kernel)
                refine lv_aload_n hx hb dX7_falls_75 rfl (lv_at hl 0 rfl) ?_
                refine lv_iload_n hx hb dX7_falls_76 rfl (lv_at hl 1 rfl) ?_
                refine lv_iconst (v := 3) hx hb dX7_falls_77 (by decide +kernel) ?_
                refine lv_idiv hx hb dX7_falls_78 (i_nz (iR_c (n := 3) (a := 3) (b := 3) (by decide +kernel) (by decide +kernel)) (by decide +kernel)) ?_
                refine lv_topi (fun y_78p27 ey_78p27 => ?_)
                have f_78p27_2 : iR y_78p27 0 20 := iR_div ey_78p27 f_26_5 (iR_c (n := 3) (a := 3) (b := 3) (by decide +kernel) (by decide +kernel)) (by decide +kernel)
                refine k_put (D := (dC, dI)) (ci := 7) (v := .int y_78p27) (C := RX7) (T := TX7) (N := 92) (ws' := [(h, .inr (7, oM r (upd (upd i 1 0) 77 y_78p27) j)), ((r 0), .inl (cI, 1800, .inl f0)), ((r 48), .inl (cI, 6, .inl f48)), ((r 78), .inl (cI, 20, .inl f78)), ((r 79), .inl (cI, 20, .inl f79))]) hx hb hts hinX7 tyX7 tyX7_ok nmX7 hown hK hP hD hS 0 rfl rfl 77 (by decide) w_1 rfl rfl rfl rfl (Nat.le_of_ble_eq_true rfl) rfl dX7_falls_79 (fun H locs hP hD hS => ?_)
                refine lv_iconst (v := 0) hx hb dX7_falls_82 (by decide +kernel) ?_
                have J_84p27 : ∀ (n_84p27 : Nat) (j84p27_A3 : Nat → Int32) (j84p27_A4 : Nat → Int32) (j84p27_L3 : Int32) (hj84p27_L3 : iR j84p27_L3 0 20) (hm_84p27 : (20 - j84p27_L3.toInt).toNat < n_84p27) (H : Heap) (locs : List Loc) (ls : Array Slot), va_P (dC, dI) vwCl [(h, .inr (7, oM r (upd (upd i 1 0) 77 y_78p27) j)), ((r 0), .inl (cI, 1800, .inl f0)), ((r 48), .inl (cI, 6, .inl f48)), ((r 78), .inl (cI, 20, .inl j84p27_A3)), ((r 79), .inl (cI, 20, .inl j84p27_A4))] H → va_D A [(h, .inr (7, oM r (upd (upd i 1 0) 77 y_78p27) j)), ((r 0), .inl (cI, 1800, .inl f0)), ((r 48), .inl (cI, 6, .inl f48)), ((r 78), .inl (cI, 20, .inl j84p27_A3)), ((r 79), .inl (cI, 20, .inl j84p27_A4))] → va_S A s.heap H locs → lv_has ls 4 [(0, .ref h), (3, .int j84p27_L3)] → W p l e ({ frames := 2, cells := 0, slots := 0, locals := 61 }) s m args below meth c H locs 0 0 (MQ below (va_Qi (fun (r9 : Int32) (u9 : SU) => (iR r9 (-1) 20) ∧ (iR (u9.1 0) 0 20)) (fun u => k_B (dC, dI) vwCl (tyy cI cJ cZ cM) A ((fun (u9 : SU) => [(h, .inr (7, oM r (upd (upd i 1 0) 77 (u9.1 0)) j)), ((r 0), .inl (cI, 1800, .inl f0)), ((r 48), .inl (cI, 6, .inl (u9.2.2.1 0))), ((r 78), .inl (cI, 20, .inl (u9.2.2.1 1))), ((r 79), .inl (cI, 20, .inl (u9.2.2.1 2)))]) u)) A) args s 0 0 A) (F0 m 84 ls []) := by
                  intro n_84p27
                  induction n_84p27 with
                  | zero => intro j84p27_A3 j84p27_A4 j84p27_L3 hj84p27_L3 hm_84p27; exact absurd hm_84p27 (Nat.not_lt_zero _)
                  | succ n_84p27 ih_84p27 =>
                    intro j84p27_A3 j84p27_A4 j84p27_L3 hj84p27_L3 hm_84p27 H locs ls hP hD hS hl
                    refine lv_iload_n hx hb dX7_falls_84 rfl (lv_at hl 1 rfl) ?_
                    refine lv_aload_n hx hb dX7_falls_85 rfl (lv_at hl 0 rfl) ?_
                    refine k_get (D := (dC, dI)) (ci := 7) (v := .int y_78p27) (C := RX7) (T := TX7) (N := 92) hx hb hts hinX7 hown hK hP 0 rfl rfl 77 (by decide) w_1 rfl rfl dX7_falls_86 ?_
                    refine lv_icmp_ge (tgt := 142) hx hb dX7_falls_89 (by decide) (fun c_89p27 => ?_) (fun c_89p27 => ?_)
                    · have c_89p27 : y_78p27 ≤ j84p27_L3 := c_89p27
                      refine lv_aload_n hx hb dX7_falls_142 rfl (lv_at hl 0 rfl) ?_
                      refine k_get (D := (dC, dI)) (ci := 7) (v := .int y_78p27) (C := RX7) (T := TX7) (N := 92) hx hb hts hinX7 hown hK hP 0 rfl rfl 77 (by decide) w_1 rfl rfl dX7_falls_143 ?_
                      exact k_ri B hP hD hS dX7_falls_146 ((fun k9 => match k9 with | 0 => y_78p27 | _ => 0), (fun _ => 0), (fun k9 => match k9 with | 0 => f48 | 1 => j84p27_A3 | 2 => j84p27_A4 | _ => (fun _ => 0)), (fun _ => (fun _ => 0)), (fun _ => 0)) [0, 1, 2, 3, 4] rfl rfl rfl (Nat.le_of_ble_eq_true rfl) (Nat.le_of_ble_eq_true rfl) ⟨(iR_w f_78p27_2 (by decide +kernel)), f_78p27_2⟩
                    · have c_89p27 : j84p27_L3 < y_78p27 := i_nle c_89p27
                      have f_92p27_1 : iR j84p27_L3 0 19 := iR_ltL c_89p27 hj84p27_L3 f_78p27_2 (by decide +kernel)
                      have f_92p27_2 : iR y_78p27 1 20 := iR_ltR c_89p27 hj84p27_L3 f_78p27_2 (by decide +kernel)
                      refine lv_aload_n hx hb dX7_falls_92 rfl (lv_at hl 0 rfl) ?_
                      refine k_get (D := (dC, dI)) (ci := 7) (v := .ref (r 78)) (C := RX7) (T := TX7) (N := 92) hx hb hts hinX7 hown hK hP 0 rfl rfl 78 (by decide) w_2 rfl rfl dX7_falls_93 ?_
                      refine lv_iload_n hx hb dX7_falls_96 rfl (lv_at hl 1 rfl) ?_
                      refine lv_aload_n hx hb dX7_falls_97 rfl (lv_at hl 0 rfl) ?_
                      refine k_get (D := (dC, dI)) (ci := 7) (v := .ref (r 0)) (C := RX7) (T := TX7) (N := 92) hx hb hts hinX7 hown hK hP 0 rfl rfl 0 (by decide) w_3 rfl rfl dX7_falls_98 ?_
                      refine lv_iconst (v := 3) hx hb dX7_falls_101 (by decide +kernel) ?_
                      refine lv_iload_n hx hb dX7_falls_102 rfl (lv_at hl 1 rfl) ?_
                      refine lv_imul hx hb dX7_falls_103 ?_
                      refine lv_topi (fun y_103p27 ey_103p27 => ?_)
                      have f_103p27_3 : iR y_103p27 0 57 := iR_mul ey_103p27 (iR_c (n := 3) (a := 3) (b := 3) (by decide +kernel) (by decide +kernel)) f_92p27_1 (by decide +kernel)
                      refine va_iald hx hb hK hP 1 0 rfl rfl (iR_vp f_103p27_3 (by decide +kernel)) dX7_falls_104 ?_
                      have f_104p27_4 : iR (f0 y_103p27.toNatClampNeg) 0 255 := hf0 _
                      refine lv_bipush (v := 8) hx hb dX7_falls_105 (by decide +kernel) ?_
                      refine lv_ishl hx hb dX7_falls_107 ?_
                      refine lv_topi (fun y_107p27 ey_107p27 => ?_)
                      have f_107p27_5 : iR y_107p27 0 65280 := iR_shl 8 ey_107p27 f_104p27_4 (iR_c (n := 8) (a := 8) (b := 8) (by decide +kernel) (by decide +kernel)) (by decide +kernel)
                      refine lv_aload_n hx hb dX7_falls_108 rfl (lv_at hl 0 rfl) ?_
                      refine k_get (D := (dC, dI)) (ci := 7) (v := .ref (r 0)) (C := RX7) (T := TX7) (N := 92) hx hb hts hinX7 hown hK hP 0 rfl rfl 0 (by decide) w_3 rfl rfl dX7_falls_109 ?_
                      refine lv_iconst (v := 3) hx hb dX7_falls_112 (by decide +kernel) ?_
                      refine lv_iload_n hx hb dX7_falls_113 rfl (lv_at hl 1 rfl) ?_
                      refine lv_imul hx hb dX7_falls_114 ?_
                      refine lv_topi (fun y_114p27 ey_114p27 => ?_)
                      have f_114p27_6 : iR y_114p27 0 57 := iR_mul ey_114p27 (iR_c (n := 3) (a := 3) (b := 3) (by decide +kernel) (by decide +kernel)) f_92p27_1 (by decide +kernel)
                      refine lv_iconst (v := 1) hx hb dX7_falls_115 (by decide +kernel) ?_
                      refine lv_iadd hx hb dX7_falls_116 ?_
                      refine lv_topi (fun y_116p27 ey_116p27 => ?_)
                      have f_116p27_7 : iR y_116p27 1 58 := iR_add ey_116p27 f_114p27_6 (iR_c (n := 1) (a := 1) (b := 1) (by decide +kernel) (by decide +kernel)) (by decide +kernel)
                      refine va_iald hx hb hK hP 1 0 rfl rfl (iR_vp f_116p27_7 (by decide +kernel)) dX7_falls_117 ?_
                      have f_117p27_8 : iR (f0 y_116p27.toNatClampNeg) 0 255 := hf0 _
                      refine lv_ior hx hb dX7_falls_118 ?_
                      refine lv_topi (fun y_118p27 ey_118p27 => ?_)
                      have f_118p27_9 : iR y_118p27 0 65535 := iR_or 16 ey_118p27 f_107p27_5 f_117p27_8 (by decide +kernel)
                      refine s_iast (g := (upd j84p27_A3 j84p27_L3.toNatClampNeg y_118p27)) (ws' := [(h, .inr (7, oM r (upd (upd i 1 0) 77 y_78p27) j)), ((r 0), .inl (cI, 1800, .inl f0)), ((r 48), .inl (cI, 6, .inl f48)), ((r 78), .inl (cI, 20, .inl (upd j84p27_A3 j84p27_L3.toNatClampNeg y_118p27))), ((r 79), .inl (cI, 20, .inl j84p27_A4))]) hx hb hK hP hD hS 3 0 rfl rfl (iR_vp f_92p27_1 (by decide +kernel)) rfl rfl dX7_falls_119 (fun H locs hP hD hS => ?_)
                      refine lv_aload_n hx hb dX7_falls_120 rfl (lv_at hl 0 rfl) ?_
                      refine k_get (D := (dC, dI)) (ci := 7) (v := .ref (r 79)) (C := RX7) (T := TX7) (N := 92) hx hb hts hinX7 hown hK hP 0 rfl rfl 79 (by decide) w_4 rfl rfl dX7_falls_121 ?_
                      refine lv_iload_n hx hb dX7_falls_124 rfl (lv_at hl 1 rfl) ?_
                      refine lv_aload_n hx hb dX7_falls_125 rfl (lv_at hl 0 rfl) ?_
                      refine k_get (D := (dC, dI)) (ci := 7) (v := .ref (r 0)) (C := RX7) (T := TX7) (N := 92) hx hb hts hinX7 hown hK hP 0 rfl rfl 0 (by decide) w_3 rfl rfl dX7_falls_126 ?_
                      refine lv_iconst (v := 3) hx hb dX7_falls_129 (by decide +kernel) ?_
                      refine lv_iload_n hx hb dX7_falls_130 rfl (lv_at hl 1 rfl) ?_
                      refine lv_imul hx hb dX7_falls_131 ?_
                      refine lv_topi (fun y_131p27 ey_131p27 => ?_)
                      have f_131p27_10 : iR y_131p27 0 57 := iR_mul ey_131p27 (iR_c (n := 3) (a := 3) (b := 3) (by decide +kernel) (by decide +kernel)) f_92p27_1 (by decide +kernel)
                      refine lv_iconst (v := 2) hx hb dX7_falls_132 (by decide +kernel) ?_
                      refine lv_iadd hx hb dX7_falls_133 ?_
                      refine lv_topi (fun y_133p27 ey_133p27 => ?_)
                      have f_133p27_11 : iR y_133p27 2 59 := iR_add ey_133p27 f_131p27_10 (iR_c (n := 2) (a := 2) (b := 2) (by decide +kernel) (by decide +kernel)) (by decide +kernel)
                      refine va_iald hx hb hK hP 1 0 rfl rfl (iR_vp f_133p27_11 (by decide +kernel)) dX7_falls_134 ?_
                      have f_134p27_12 : iR (f0 y_133p27.toNatClampNeg) 0 255 := hf0 _
                      refine s_iast (g := (upd j84p27_A4 j84p27_L3.toNatClampNeg (f0 y_133p27.toNatClampNeg))) (ws' := [(h, .inr (7, oM r (upd (upd i 1 0) 77 y_78p27) j)), ((r 0), .inl (cI, 1800, .inl f0)), ((r 48), .inl (cI, 6, .inl f48)), ((r 78), .inl (cI, 20, .inl (upd j84p27_A3 j84p27_L3.toNatClampNeg y_118p27))), ((r 79), .inl (cI, 20, .inl (upd j84p27_A4 j84p27_L3.toNatClampNeg (f0 y_133p27.toNatClampNeg))))]) hx hb hK hP hD hS 4 0 rfl rfl (iR_vp f_92p27_1 (by decide +kernel)) rfl rfl dX7_falls_135 (fun H locs hP hD hS => ?_)
                      obtain ⟨y_136p27, ey_136p27⟩ : ∃ y : Int32, y = j84p27_L3 + 1 := ⟨_, rfl⟩
                      refine lv_iinc (v := y_136p27) (lv' := [(3, .int y_136p27), (0, .ref h)]) hx hb dX7_falls_136 hl (k := 1) rfl ey_136p27.symm (by decide) rfl (fun ls hl => ?_)
                      have f_136p27_13 : iR y_136p27 1 20 := iR_add ey_136p27 f_92p27_1 (iR_c (n := 1) (a := 1) (b := 1) (by decide +kernel) (by decide +kernel)) (by decide +kernel)
                      refine lv_goto (tgt := 84) hx hb dX7_falls_139 (by decide) ?_
                      exact ih_84p27 (upd j84p27_A3 j84p27_L3.toNatClampNeg y_118p27) (upd j84p27_A4 j84p27_L3.toNatClampNeg (f0 y_133p27.toNatClampNeg)) y_136p27 (iR_w f_136p27_13 (by decide +kernel)) (m_up (B := 20) hm_84p27 ey_136p27 f_92p27_1 (by decide +kernel)) H locs ls hP hD hS (lv_sub hl [1, 0] rfl)
                refine lv_istore_n (lv' := [(3, .int 0), (0, .ref h), (1, .int (i 1)), (2, .int j34p27_L2)]) hx hb dX7_falls_83 rfl hl (by decide) rfl (fun ls hl => ?_)
                exact J_84p27 _ f78 f79 0 (iR_c (n := 0) (a := 0) (b := 20) (by decide +kernel) (by decide +kernel)) (Nat.lt_succ_self _) H locs ls hP hD hS (lv_sub hl [1, 0] rfl)
              · have c_66p27 : j34p27_L2 = 0 := c_66p27
                have f_69p27_1 : iR j34p27_L2 0 0 := iR_eqL c_66p27 hj34p27_L2 (iR_c (n := 0) (a := 0) (b := 0) (by decide +kernel) (by decide +kernel)) (by decide +kernel)
                refine lv_aload_n hx hb dX7_falls_69 rfl (lv_at hl 0 rfl) ?_
                refine lv_iconst (v := 5) hx hb dX7_falls_70 (by decide +kernel) ?_
                refine k_ci (wc := [(h, .inr (7, oM r (upd i 1 0) j)), ((r 48), .inl (cI, 6, .inl f48))]) (wr := [((r 0), .inl (cI, 1800, .inl f0)), ((r 78), .inl (cI, 20, .inl f78)), ((r 79), .inl (cI, 20, .inl f79))]) (fun hPc hDc hFc => va_runV (As := [.int 5]) (rest := []) ⟨hx, hb, hml, hown, hts⟩ (s_X7_refuses_v6 l dC dI cI cJ cZ cM h r (upd i 1 0) j 5 f48 (iR_c (n := 5) (a := 0) (b := 5) (by decide +kernel) (by decide +kernel)) (mR_upd 1 hI (show iR _ (loI 1) (hiI 1) from (iR_c (n := 0) (a := 0) (b := 1600) (by decide +kernel) (by decide +kernel)))) H.size) (cwV 1 hts gX7_falls_X7_refuses rfl rfl rfl (by decide +kernel) ⟨(Nat.le_of_ble_eq_true rfl), (Nat.le_of_ble_eq_true rfl)⟩) (k_pV hPc hDc hK hN hC hS hFc hP (q0 := 0) (ci := 7) rfl rfl) rfl rfl hl.1 rfl (lv_room (Nat.le_of_ble_eq_true rfl)) dX7_falls_71 ⟨(Nat.le_of_ble_eq_true rfl), (Nat.le_of_ble_eq_true rfl)⟩) hP hD hS hA [0, 2] [1, 3, 4] rfl rfl rfl rfl (by decide) (fun _ => rfl) 0 0 rfl rfl (fun r_71p27 u_71p27 H locs hw hP hD hS => ?_)
                obtain g_71p27_0 := hw
                obtain rfl : r_71p27 = (-1) := g_71p27_0
                have hP : va_P (dC, dI) vwCl [((r 0), .inl (cI, 1800, .inl f0)), ((r 78), .inl (cI, 20, .inl f78)), ((r 79), .inl (cI, 20, .inl f79)), (h, .inr (7, oM r (upd i 1 0) j)), ((r 48), .inl (cI, 6, .inl (u_71p27.2.2.1 0)))] H := hP
                have hD : va_D A [((r 0), .inl (cI, 1800, .inl f0)), ((r 78), .inl (cI, 20, .inl f78)), ((r 79), .inl (cI, 20, .inl f79)), (h, .inr (7, oM r (upd i 1 0) j)), ((r 48), .inl (cI, 6, .inl (u_71p27.2.2.1 0)))] := hD
                exact k_ri B hP hD hS dX7_falls_74 ((fun k9 => match k9 with | 0 => (i 77) | _ => 0), (fun _ => 0), (fun k9 => match k9 with | 0 => (u_71p27.2.2.1 0) | 1 => f78 | 2 => f79 | _ => (fun _ => 0)), (fun _ => (fun _ => 0)), (fun _ => 0)) [3, 0, 4, 1, 2] rfl rfl rfl (Nat.le_of_ble_eq_true rfl) (Nat.le_of_ble_eq_true rfl) ⟨(iR_c (n := (-1)) (a := (-1)) (b := 20) (by decide +kernel) (by decide +kernel)), (hI 77)⟩
            refine lv_icmp_ge (tgt := 65) hx hb dX7_falls_36 (by decide) (fun c_36p27 => ?_) (fun c_36p27 => ?_)
            · have c_36p27 : (i 1) ≤ j34p27_L3 := c_36p27
              exact J_65p27   H locs ls hP hD hS (lv_sub hl [0, 1, 2] rfl)
            · have c_36p27 : j34p27_L3 < (i 1) := i_nle c_36p27
              have f_39p27_1 : iR j34p27_L3 2 59 := iR_ltL c_36p27 hj34p27_L3 f_26_5 (by decide +kernel)
              have f_39p27_2 : iR (i 1) 3 60 := iR_ltR c_36p27 hj34p27_L3 f_26_5 (by decide +kernel)
              refine lv_iload_n hx hb dX7_falls_39 rfl (lv_at hl 2 rfl) ?_
              refine lv_if_eq (tgt := 65) hx hb dX7_falls_40 (by decide) (fun c_40p27 => ?_) (fun c_40p27 => ?_)
              · have c_40p27 : j34p27_L2 = 0 := c_40p27
                have f_65p27_3 : iR j34p27_L2 0 0 := iR_eqL c_40p27 hj34p27_L2 (iR_c (n := 0) (a := 0) (b := 0) (by decide +kernel) (by decide +kernel)) (by decide +kernel)
                exact J_65p27   H locs ls hP hD hS (lv_sub hl [0, 1, 2] rfl)
              · have c_40p27 : ¬ j34p27_L2 = 0 := c_40p27
                have f_43p27_3 : iR j34p27_L2 1 1 := iR_neL c_40p27 hj34p27_L2 (iR_c (n := 0) (a := 0) (b := 0) (by decide +kernel) (by decide +kernel)) (by decide +kernel)
                refine lv_aload_n hx hb dX7_falls_43 rfl (lv_at hl 0 rfl) ?_
                refine k_get (D := (dC, dI)) (ci := 7) (v := .ref (r 0)) (C := RX7) (T := TX7) (N := 92) hx hb hts hinX7 hown hK hP 0 rfl rfl 0 (by decide) w_3 rfl rfl dX7_falls_44 ?_
                refine lv_iload_n hx hb dX7_falls_47 rfl (lv_at hl 3 rfl) ?_
                refine va_iald hx hb hK hP 1 0 rfl rfl (iR_vp f_39p27_1 (by decide +kernel)) dX7_falls_48 ?_
                have f_48p27_4 : iR (f0 j34p27_L3.toNatClampNeg) 0 255 := hf0 _
                refine lv_iconst (v := 2) hx hb dX7_falls_49 (by decide +kernel) ?_
                have J_58p27 : ∀ (j58p27_S0 : Int32) (hj58p27_S0 : iR j58p27_S0 0 1) (H : Heap) (locs : List Loc) (ls : Array Slot), va_P (dC, dI) vwCl [(h, .inr (7, oM r (upd i 1 0) j)), ((r 0), .inl (cI, 1800, .inl f0)), ((r 48), .inl (cI, 6, .inl f48)), ((r 78), .inl (cI, 20, .inl f78)), ((r 79), .inl (cI, 20, .inl f79))] H → va_D A [(h, .inr (7, oM r (upd i 1 0) j)), ((r 0), .inl (cI, 1800, .inl f0)), ((r 48), .inl (cI, 6, .inl f48)), ((r 78), .inl (cI, 20, .inl f78)), ((r 79), .inl (cI, 20, .inl f79))] → va_S A s.heap H locs → lv_has ls 4 [(0, .ref h), (1, .int (i 1)), (3, .int j34p27_L3)] → W p l e ({ frames := 2, cells := 0, slots := 0, locals := 61 }) s m args below meth c H locs 0 0 (MQ below (va_Qi (fun (r9 : Int32) (u9 : SU) => (iR r9 (-1) 20) ∧ (iR (u9.1 0) 0 20)) (fun u => k_B (dC, dI) vwCl (tyy cI cJ cZ cM) A ((fun (u9 : SU) => [(h, .inr (7, oM r (upd (upd i 1 0) 77 (u9.1 0)) j)), ((r 0), .inl (cI, 1800, .inl f0)), ((r 48), .inl (cI, 6, .inl (u9.2.2.1 0))), ((r 78), .inl (cI, 20, .inl (u9.2.2.1 1))), ((r 79), .inl (cI, 20, .inl (u9.2.2.1 2)))]) u)) A) args s 0 0 A) (F0 m 58 ls [.int j58p27_S0]) := by
                  intro j58p27_S0 hj58p27_S0 H locs ls hP hD hS hl
                  refine lv_istore_n (lv' := [(2, .int j58p27_S0), (0, .ref h), (1, .int (i 1)), (3, .int j34p27_L3)]) hx hb dX7_falls_58 rfl hl (by decide) rfl (fun ls hl => ?_)
                  obtain ⟨y_59p27, ey_59p27⟩ : ∃ y : Int32, y = j34p27_L3 + 3 := ⟨_, rfl⟩
                  refine lv_iinc (v := y_59p27) (lv' := [(3, .int y_59p27), (2, .int j58p27_S0), (0, .ref h), (1, .int (i 1))]) hx hb dX7_falls_59 hl (k := 3) rfl ey_59p27.symm (by decide) rfl (fun ls hl => ?_)
                  have f_59p27_1 : iR y_59p27 5 62 := iR_add ey_59p27 f_39p27_1 (iR_c (n := 3) (a := 3) (b := 3) (by decide +kernel) (by decide +kernel)) (by decide +kernel)
                  refine lv_goto (tgt := 34) hx hb dX7_falls_62 (by decide) ?_
                  exact ih_34p27 j58p27_S0 y_59p27 hj58p27_S0 (iR_w f_59p27_1 (by decide +kernel)) (m_upk (B := 80) hm_34p27 ey_59p27 f_39p27_1 (iR_c (n := 3) (a := 3) (b := 3) (by decide +kernel) (by decide +kernel)) (by decide +kernel)) H locs ls hP hD hS (lv_sub hl [2, 3, 1, 0] rfl)
                refine lv_icmp_ge (tgt := 57) hx hb dX7_falls_50 (by decide) (fun c_50p27 => ?_) (fun c_50p27 => ?_)
                · have c_50p27 : 2 ≤ (f0 j34p27_L3.toNatClampNeg) := c_50p27
                  have f_57p27_5 : iR (f0 j34p27_L3.toNatClampNeg) 2 255 := iR_leR c_50p27 (iR_c (n := 2) (a := 2) (b := 2) (by decide +kernel) (by decide +kernel)) f_48p27_4 (by decide +kernel)
                  refine lv_iconst (v := 0) hx hb dX7_falls_57 (by decide +kernel) ?_
                  exact J_58p27 0 (iR_c (n := 0) (a := 0) (b := 1) (by decide +kernel) (by decide +kernel)) H locs ls hP hD hS (lv_sub hl [0, 1, 3] rfl)
                · have c_50p27 : (f0 j34p27_L3.toNatClampNeg) < 2 := i_nle c_50p27
                  have f_53p27_5 : iR (f0 j34p27_L3.toNatClampNeg) 0 1 := iR_ltL c_50p27 f_48p27_4 (iR_c (n := 2) (a := 2) (b := 2) (by decide +kernel) (by decide +kernel)) (by decide +kernel)
                  refine lv_iconst (v := 1) hx hb dX7_falls_53 (by decide +kernel) ?_
                  refine lv_goto (tgt := 58) hx hb dX7_falls_54 (by decide) ?_
                  exact J_58p27 1 (iR_c (n := 1) (a := 0) (b := 1) (by decide +kernel) (by decide +kernel)) H locs ls hP hD hS (lv_sub hl [0, 1, 3] rfl)
        refine lv_istore_n (lv' := [(3, .int 2), (2, .int 1), (1, .int (i 1)), (0, .ref h)]) hx hb dX7_falls_33 rfl hl (by decide) rfl (fun ls hl => ?_)
        exact J_34p27 _ 1 2 (iR_c (n := 1) (a := 0) (b := 1) (by decide +kernel) (by decide +kernel)) (iR_c (n := 2) (a := 2) (b := 80) (by decide +kernel) (by decide +kernel)) (Nat.lt_succ_self _) H locs ls hP hD hS (lv_sub hl [3, 2, 1, 0] rfl)
set_option maxHeartbeats 8000000 in
set_option maxRecDepth 100000 in
theorem s_X7_areWishes_v2 (l : Launch) (dC : Nat → ClassId) (dI : Nat → Nat → Nat) (cI cJ cZ cM : ClassId) (h : Nat) (r : Nat → Nat) (i : Nat → Int32) (j : Nat → Int64) (x1 : Int32) (f0 : Nat → Int32) (f18 : Nat → Int32) (hx1 : iR x1 0 1600) (hI : mR i) (hf0 : aR f0 0 255) (hf18 : aR f18 0 12) : k_Mi l yX7_areWishes wsX7_areWishes ({ frames := 2, cells := 0, slots := 0, locals := 61 }) (dC, dI) vwCl (tyy cI cJ cZ cM) [(h, .inr (7, oM r i j)), ((r 0), .inl (cI, 1800, .inl f0)), ((r 18), .inl (cI, 2, .inl f18))] [.ref h, .int x1, .int 0] 0 0 (fun (u9 : Unit) => [(h, .inr (7, oM r i j)), ((r 0), .inl (cI, 1800, .inl f0)), ((r 18), .inl (cI, 2, .inl f18))]) (fun (r9 : Int32) (u9 : Unit) => (iR r9 0 1) ∧ ((r9 = 0) ∨ ((AW f0 (f18 (i 13).toNatClampNeg) x1 0)))) := by
  refine fun sz => k_enter (cc := cX7_areWishes) (maxL := 4) (ret := some (.boolean)) (Qc := fun A => va_Qi (fun (r9 : Int32) (u9 : Unit) => (iR r9 0 1) ∧ ((r9 = 0) ∨ ((AW f0 (f18 (i 13).toNatClampNeg) x1 0)))) (fun u => k_B (dC, dI) vwCl (tyy cI cJ cZ cM) A ((fun (u9 : Unit) => [(h, .inr (7, oM r i j)), ((r 0), .inl (cI, 1800, .inl f0)), ((r 18), .inl (cI, 2, .inl f18))]) u)) A) sz (by decide +kernel) rfl (Nat.le_of_ble_eq_true rfl) (fun p e s m args below meth c A ls H locs B hP hD hS hl => ?_)
  obtain ⟨hx, hb, hml, hown, hts, hr, hlk, hnm, hK, hA, hN, hC⟩ := id B
  have hown : s.vm.findClass RX7 = some m.cls := hown
  have hl : lv_has ls 4 [(0, .ref h), (1, .int x1), (2, .int 0)] := hl
  have w_0 : (Cond.fieldLink RX7 7 "WishSeaModel" "tape" "[I").before args s = true := hts _ (List.mem_of_getElem? (i := 1) rfl)
  have hinX7 : ∀ w ∈ u_ws RX7 TX7 92, w ∈ wsX7_areWishes := fun _ h => List.mem_cons_of_mem _ (List.mem_append_right _ h)
  refine lv_iconst (v := 0) hx hb dX7_areWishes_0 (by decide +kernel) ?_
  have J_2 : ∀ (n_2 : Nat) (j2_L3 : Int32) (hj2_L3 : iR j2_L3 0 1600) (p2_0 : AW f0 (f18 (i 13).toNatClampNeg) j2_L3 0) (hm_2 : (1600 - j2_L3.toInt).toNat < n_2) (H : Heap) (locs : List Loc) (ls : Array Slot), va_P (dC, dI) vwCl [(h, .inr (7, oM r i j)), ((r 0), .inl (cI, 1800, .inl f0)), ((r 18), .inl (cI, 2, .inl f18))] H → va_D A [(h, .inr (7, oM r i j)), ((r 0), .inl (cI, 1800, .inl f0)), ((r 18), .inl (cI, 2, .inl f18))] → va_S A s.heap H locs → lv_has ls 4 [(0, .ref h), (1, .int x1), (2, .int 0), (3, .int j2_L3)] → W p l e ({ frames := 2, cells := 0, slots := 0, locals := 61 }) s m args below meth c H locs 0 0 (MQ below (va_Qi (fun (r9 : Int32) (u9 : Unit) => (iR r9 0 1) ∧ ((r9 = 0) ∨ ((AW f0 (f18 (i 13).toNatClampNeg) x1 0)))) (fun u => k_B (dC, dI) vwCl (tyy cI cJ cZ cM) A ((fun (u9 : Unit) => [(h, .inr (7, oM r i j)), ((r 0), .inl (cI, 1800, .inl f0)), ((r 18), .inl (cI, 2, .inl f18))]) u)) A) args s 0 0 A) (F0 m 2 ls []) := by
    intro n_2
    induction n_2 with
    | zero => intro j2_L3 hj2_L3 p2_0 hm_2; exact absurd hm_2 (Nat.not_lt_zero _)
    | succ n_2 ih_2 =>
      intro j2_L3 hj2_L3 p2_0 hm_2 H locs ls hP hD hS hl
      refine lv_iload_n hx hb dX7_areWishes_2 rfl (lv_at hl 3 rfl) ?_
      refine lv_iload_n hx hb dX7_areWishes_3 rfl (lv_at hl 1 rfl) ?_
      refine lv_icmp_ge (tgt := 44) hx hb dX7_areWishes_4 (by decide) (fun c_4 => ?_) (fun c_4 => ?_)
      · have c_4 : x1 ≤ j2_L3 := c_4
        refine lv_iconst (v := 1) hx hb dX7_areWishes_44 (by decide +kernel) ?_
        exact k_ri B hP hD hS dX7_areWishes_45 () [0, 1, 2] rfl rfl rfl (Nat.le_of_ble_eq_true rfl) (Nat.le_of_ble_eq_true rfl) ⟨(iR_c (n := 1) (a := 0) (b := 1) (by decide +kernel) (by decide +kernel)), (Or.inr (AW_le p2_0 c_4))⟩
      · have c_4 : j2_L3 < x1 := i_nle c_4
        have f_7_1 : iR j2_L3 0 1599 := iR_ltL c_4 hj2_L3 hx1 (by decide +kernel)
        have f_7_2 : iR x1 1 1600 := iR_ltR c_4 hj2_L3 hx1 (by decide +kernel)
        refine lv_aload_n hx hb dX7_areWishes_7 rfl (lv_at hl 0 rfl) ?_
        refine lv_aload_n hx hb dX7_areWishes_8 rfl (lv_at hl 0 rfl) ?_
        refine k_get (D := (dC, dI)) (ci := 7) (v := .ref (r 0)) (C := RX7) (T := TX7) (N := 92) hx hb hts hinX7 hown hK hP 0 rfl rfl 0 (by decide) w_0 rfl rfl dX7_areWishes_9 ?_
        refine lv_iload_n hx hb dX7_areWishes_12 rfl (lv_at hl 3 rfl) ?_
        refine va_iald hx hb hK hP 1 0 rfl rfl (iR_vp f_7_1 (by decide +kernel)) dX7_areWishes_13 ?_
        have f_13_3 : iR (f0 j2_L3.toNatClampNeg) 0 255 := hf0 _
        refine k_ci (wc := [(h, .inr (7, oM r i j)), ((r 18), .inl (cI, 2, .inl f18))]) (wr := [((r 0), .inl (cI, 1800, .inl f0))]) (fun hPc hDc hFc => va_runV (As := [.int (f0 j2_L3.toNatClampNeg)]) (rest := []) ⟨hx, hb, hml, hown, hts⟩ (s_X7_isWish_v1 l dC dI cI cJ cZ cM h r i j (f0 j2_L3.toNatClampNeg) f18 hI hf18 H.size) (cwV 1 hts gX7_areWishes_X7_isWish rfl rfl rfl (by decide +kernel) ⟨(Nat.le_of_ble_eq_true rfl), (Nat.le_of_ble_eq_true rfl)⟩) (k_pV hPc hDc hK hN hC hS hFc hP (q0 := 0) (ci := 7) rfl rfl) rfl rfl hl.1 rfl (lv_room (Nat.le_of_ble_eq_true rfl)) dX7_areWishes_14 ⟨(Nat.le_of_ble_eq_true rfl), (Nat.le_of_ble_eq_true rfl)⟩) hP hD hS hA [0, 2] [1] rfl rfl rfl rfl (by decide) (fun _ => rfl) 0 0 rfl rfl (fun r_14 u_14 H locs hw hP hD hS => ?_)
        obtain ⟨g_14_0, g_14_1⟩ := hw
        have hP : va_P (dC, dI) vwCl [((r 0), .inl (cI, 1800, .inl f0)), (h, .inr (7, oM r i j)), ((r 18), .inl (cI, 2, .inl f18))] H := hP
        have hD : va_D A [((r 0), .inl (cI, 1800, .inl f0)), (h, .inr (7, oM r i j)), ((r 18), .inl (cI, 2, .inl f18))] := hD
        refine lv_if_ne (tgt := 38) hx hb dX7_areWishes_17 (by decide) (fun c_17 => ?_) (fun c_17 => ?_)
        · have c_17 : ¬ r_14 = 0 := c_17
          have f_38_4 : iR r_14 1 1 := iR_neL c_17 g_14_0 (iR_c (n := 0) (a := 0) (b := 0) (by decide +kernel) (by decide +kernel)) (by decide +kernel)
          obtain ⟨d_17_1_0, d_17_1_1⟩ := g_14_1.resolve_left c_17
          have f_38_5 : iR (f0 j2_L3.toNatClampNeg) 0 11 := iR_ltL d_17_1_1 f_13_3 (show iR (f18 (i 13).toNatClampNeg) 0 12 from hf18 _) (by decide +kernel)
          have f_38_6 : iR (f18 (i 13).toNatClampNeg) 1 12 := iR_ltR d_17_1_1 f_13_3 (show iR (f18 (i 13).toNatClampNeg) 0 12 from hf18 _) (by decide +kernel)
          obtain ⟨y_38p17, ey_38p17⟩ : ∃ y : Int32, y = j2_L3 + 1 := ⟨_, rfl⟩
          refine lv_iinc (v := y_38p17) (lv' := [(3, .int y_38p17), (0, .ref h), (1, .int x1), (2, .int 0)]) hx hb dX7_areWishes_38 hl (k := 3) rfl ey_38p17.symm (by decide) rfl (fun ls hl => ?_)
          have f_38p17_7 : iR y_38p17 1 1600 := iR_add ey_38p17 f_7_1 (iR_c (n := 1) (a := 1) (b := 1) (by decide +kernel) (by decide +kernel)) (by decide +kernel)
          refine lv_goto (tgt := 2) hx hb dX7_areWishes_41 (by decide) ?_
          exact ih_2 y_38p17 (iR_w f_38p17_7 (by decide +kernel)) (AW_step p2_0 ey_38p17 f_7_1 (by decide +kernel) (Or.inl ⟨d_17_1_0, d_17_1_1⟩)) (m_up (B := 1600) hm_2 ey_38p17 f_7_1 (by decide +kernel)) H locs ls (hP.sub [1, 0, 2] rfl) (hD.sub [1, 0, 2] (by decide +kernel) rfl) hS (lv_sub hl [1, 2, 3, 0] rfl)
        · have c_17 : r_14 = 0 := c_17
          have f_20_4 : iR r_14 0 0 := iR_eqL c_17 g_14_0 (iR_c (n := 0) (a := 0) (b := 0) (by decide +kernel) (by decide +kernel)) (by decide +kernel)
          refine lv_iload_n hx hb dX7_areWishes_20 rfl (lv_at hl 2 rfl) ?_
          have J_36 : ∀   (H : Heap) (locs : List Loc) (ls : Array Slot), va_P (dC, dI) vwCl [(h, .inr (7, oM r i j)), ((r 0), .inl (cI, 1800, .inl f0)), ((r 18), .inl (cI, 2, .inl f18))] H → va_D A [(h, .inr (7, oM r i j)), ((r 0), .inl (cI, 1800, .inl f0)), ((r 18), .inl (cI, 2, .inl f18))] → va_S A s.heap H locs → lv_has ls 4 [] → W p l e ({ frames := 2, cells := 0, slots := 0, locals := 61 }) s m args below meth c H locs 0 0 (MQ below (va_Qi (fun (r9 : Int32) (u9 : Unit) => (iR r9 0 1) ∧ ((r9 = 0) ∨ ((AW f0 (f18 (i 13).toNatClampNeg) x1 0)))) (fun u => k_B (dC, dI) vwCl (tyy cI cJ cZ cM) A ((fun (u9 : Unit) => [(h, .inr (7, oM r i j)), ((r 0), .inl (cI, 1800, .inl f0)), ((r 18), .inl (cI, 2, .inl f18))]) u)) A) args s 0 0 A) (F0 m 36 ls []) := by
            intro   H locs ls hP hD hS hl
            refine lv_iconst (v := 0) hx hb dX7_areWishes_36 (by decide +kernel) ?_
            exact k_ri B hP hD hS dX7_areWishes_37 () [0, 1, 2] rfl rfl rfl (Nat.le_of_ble_eq_true rfl) (Nat.le_of_ble_eq_true rfl) ⟨(iR_c (n := 0) (a := 0) (b := 1) (by decide +kernel) (by decide +kernel)), (Or.inl rfl)⟩
          refine lv_if_eq (tgt := 36) hx hb dX7_areWishes_21 (by decide) (fun _ => ?_) (fun q9 => absurd q9 (by decide +kernel))
          exact J_36   H locs ls (hP.sub [1, 0, 2] rfl) (hD.sub [1, 0, 2] (by decide +kernel) rfl) hS (lv_sub hl [] rfl)
  refine lv_istore_n (lv' := [(3, .int 0), (0, .ref h), (1, .int x1), (2, .int 0)]) hx hb dX7_areWishes_1 rfl hl (by decide) rfl (fun ls hl => ?_)
  exact J_2 _ 0 (iR_c (n := 0) (a := 0) (b := 1600) (by decide +kernel) (by decide +kernel)) AW_0 (Nat.lt_succ_self _) H locs ls hP hD hS (lv_sub hl [1, 2, 3, 0] rfl)
set_option maxHeartbeats 8000000 in
set_option maxRecDepth 100000 in
theorem s_X7_writesDown_v0 (l : Launch) (dC : Nat → ClassId) (dI : Nat → Nat → Nat) (cI cJ cZ cM : ClassId) (h : Nat) (r : Nat → Nat) (i : Nat → Int32) (j : Nat → Int64) (x1 : Int32) (x2 : Int32) (f50 : Nat → Int32) (f52 : Nat → Int32) (f53 : Nat → Int32) (f54 : Nat → Int32) (f55 : Nat → Int32) (f56 : Nat → Int32) (f57 : Nat → Int32) (hx1 : iR x1 0 11) (hx2 : iR x2 0 1) (hI : mR i) (hf50 : aR f50 0 999) (hf53 : aR f53 0 50) : k_Mv l yX7_writesDown wsX7_writesDown ({ frames := 1, cells := 0, slots := 0, locals := 40 }) (dC, dI) vwCl (tyy cI cJ cZ cM) [(h, .inr (7, oM r i j)), ((r 50), .inl (cI, 22, .inl f50)), ((r 52), .inl (cI, 22, .inl f52)), ((r 53), .inl (cI, 22, .inl f53)), ((r 54), .inl (cI, 1100, .inl f54)), ((r 55), .inl (cI, 1100, .inl f55)), ((r 56), .inl (cI, 1100, .inl f56)), ((r 57), .inl (cI, 1100, .inl f57))] [.ref h, .int x1, .int x2] 0 0 (fun (u9 : SU) => [(h, .inr (7, oM r i j)), ((r 50), .inl (cI, 22, .inl f50)), ((r 52), .inl (cI, 22, .inl f52)), ((r 53), .inl (cI, 22, .inl (u9.2.2.1 0))), ((r 54), .inl (cI, 1100, .inl (u9.2.2.1 1))), ((r 55), .inl (cI, 1100, .inl (u9.2.2.1 2))), ((r 56), .inl (cI, 1100, .inl (u9.2.2.1 3))), ((r 57), .inl (cI, 1100, .inl (u9.2.2.1 4)))]) (fun (u9 : SU) => (aR (u9.2.2.1 0) 0 50)) := by
  refine fun sz => k_enter (cc := cX7_writesDown) (maxL := 4) (ret := none) (Qc := fun A => va_Qv (fun (u9 : SU) => (aR (u9.2.2.1 0) 0 50)) (fun u => k_B (dC, dI) vwCl (tyy cI cJ cZ cM) A ((fun (u9 : SU) => [(h, .inr (7, oM r i j)), ((r 50), .inl (cI, 22, .inl f50)), ((r 52), .inl (cI, 22, .inl f52)), ((r 53), .inl (cI, 22, .inl (u9.2.2.1 0))), ((r 54), .inl (cI, 1100, .inl (u9.2.2.1 1))), ((r 55), .inl (cI, 1100, .inl (u9.2.2.1 2))), ((r 56), .inl (cI, 1100, .inl (u9.2.2.1 3))), ((r 57), .inl (cI, 1100, .inl (u9.2.2.1 4)))]) u)) A) sz (by decide +kernel) rfl (Nat.le_of_ble_eq_true rfl) (fun p e s m args below meth c A ls H locs B hP hD hS hl => ?_)
  obtain ⟨hx, hb, hml, hown, hts, hr, hlk, hnm, hK, hA, hN, hC⟩ := id B
  have hown : s.vm.findClass RX7 = some m.cls := hown
  have hl : lv_has ls 4 [(0, .ref h), (1, .int x1), (2, .int x2)] := hl
  have w_0 : (Cond.fieldLink RX7 174 "WishSeaModel" "keptMany" "[I").before args s = true := hts _ (List.mem_of_getElem? (i := 1) rfl)
  have w_1 : (Cond.fieldLink RX7 177 "WishSeaModel" "keptDay" "[I").before args s = true := hts _ (List.mem_of_getElem? (i := 2) rfl)
  have w_2 : (Cond.fieldLink RX7 171 "WishSeaModel" "dayOf" "[I").before args s = true := hts _ (List.mem_of_getElem? (i := 6) rfl)
  have w_3 : (Cond.fieldLink RX7 180 "WishSeaModel" "keptWish" "[I").before args s = true := hts _ (List.mem_of_getElem? (i := 3) rfl)
  have w_4 : (Cond.fieldLink RX7 183 "WishSeaModel" "keptSea" "[I").before args s = true := hts _ (List.mem_of_getElem? (i := 4) rfl)
  have w_5 : (Cond.fieldLink RX7 165 "WishSeaModel" "seaOf" "[I").before args s = true := hts _ (List.mem_of_getElem? (i := 7) rfl)
  have w_6 : (Cond.fieldLink RX7 186 "WishSeaModel" "keptFell" "[I").before args s = true := hts _ (List.mem_of_getElem? (i := 5) rfl)
  have hinX7 : ∀ w ∈ u_ws RX7 TX7 92, w ∈ wsX7_writesDown := fun _ h => List.mem_cons_of_mem _ (List.mem_append_right _ h)
  refine lv_aload_n hx hb dX7_writesDown_0 rfl (lv_at hl 0 rfl) ?_
  refine k_get (D := (dC, dI)) (ci := 7) (v := .ref (r 53)) (C := RX7) (T := TX7) (N := 92) hx hb hts hinX7 hown hK hP 0 rfl rfl 53 (by decide) w_0 rfl rfl dX7_writesDown_1 ?_
  refine lv_iconst (v := 0) hx hb dX7_writesDown_4 (by decide +kernel) ?_
  refine k_iald (v := (f53 0)) hx hb hK hP 3 0 0 rfl rfl rfl (Nat.le_of_ble_eq_true rfl) (Nat.le_of_ble_eq_true rfl) rfl dX7_writesDown_5 ?_
  have f_5_1 : iR (f53 0) 0 50 := hf53 _
  refine lv_bipush (v := 50) hx hb dX7_writesDown_6 (by decide +kernel) ?_
  refine lv_icmp_ne (tgt := 91) hx hb dX7_writesDown_8 (by decide) (fun c_8 => ?_) (fun c_8 => ?_)
  · have c_8 : ¬ (f53 0) = 50 := c_8
    have f_91_2 : iR (f53 0) 0 49 := iR_neL c_8 f_5_1 (iR_c (n := 50) (a := 50) (b := 50) (by decide +kernel) (by decide +kernel)) (by decide +kernel)
    refine lv_aload_n hx hb dX7_writesDown_91 rfl (lv_at hl 0 rfl) ?_
    refine k_get (D := (dC, dI)) (ci := 7) (v := .ref (r 53)) (C := RX7) (T := TX7) (N := 92) hx hb hts hinX7 hown hK hP 0 rfl rfl 53 (by decide) w_0 rfl rfl dX7_writesDown_92 ?_
    refine lv_iconst (v := 0) hx hb dX7_writesDown_95 (by decide +kernel) ?_
    refine k_iald (v := (f53 0)) hx hb hK hP 3 0 0 rfl rfl rfl (Nat.le_of_ble_eq_true rfl) (Nat.le_of_ble_eq_true rfl) rfl dX7_writesDown_96 ?_
    refine lv_istore_n (lv' := [(3, .int (f53 0)), (0, .ref h), (1, .int x1), (2, .int x2)]) hx hb dX7_writesDown_97 rfl hl (by decide) rfl (fun ls hl => ?_)
    refine lv_aload_n hx hb dX7_writesDown_98 rfl (lv_at hl 1 rfl) ?_
    refine k_get (D := (dC, dI)) (ci := 7) (v := .ref (r 54)) (C := RX7) (T := TX7) (N := 92) hx hb hts hinX7 hown hK hP 0 rfl rfl 54 (by decide) w_1 rfl rfl dX7_writesDown_99 ?_
    refine lv_iload_n hx hb dX7_writesDown_102 rfl (lv_at hl 0 rfl) ?_
    refine lv_aload_n hx hb dX7_writesDown_103 rfl (lv_at hl 1 rfl) ?_
    refine k_get (D := (dC, dI)) (ci := 7) (v := .ref (r 52)) (C := RX7) (T := TX7) (N := 92) hx hb hts hinX7 hown hK hP 0 rfl rfl 52 (by decide) w_2 rfl rfl dX7_writesDown_104 ?_
    refine lv_iconst (v := 0) hx hb dX7_writesDown_107 (by decide +kernel) ?_
    refine k_iald (v := (f52 0)) hx hb hK hP 2 0 0 rfl rfl rfl (Nat.le_of_ble_eq_true rfl) (Nat.le_of_ble_eq_true rfl) rfl dX7_writesDown_108 ?_
    refine s_iast (g := (upd f54 (f53 0).toNatClampNeg (f52 0))) (ws' := [(h, .inr (7, oM r i j)), ((r 50), .inl (cI, 22, .inl f50)), ((r 52), .inl (cI, 22, .inl f52)), ((r 53), .inl (cI, 22, .inl f53)), ((r 54), .inl (cI, 1100, .inl (upd f54 (f53 0).toNatClampNeg (f52 0)))), ((r 55), .inl (cI, 1100, .inl f55)), ((r 56), .inl (cI, 1100, .inl f56)), ((r 57), .inl (cI, 1100, .inl f57))]) hx hb hK hP hD hS 4 0 rfl rfl (iR_vp f_91_2 (by decide +kernel)) rfl rfl dX7_writesDown_109 (fun H locs hP hD hS => ?_)
    refine lv_aload_n hx hb dX7_writesDown_110 rfl (lv_at hl 1 rfl) ?_
    refine k_get (D := (dC, dI)) (ci := 7) (v := .ref (r 55)) (C := RX7) (T := TX7) (N := 92) hx hb hts hinX7 hown hK hP 0 rfl rfl 55 (by decide) w_3 rfl rfl dX7_writesDown_111 ?_
    refine lv_iload_n hx hb dX7_writesDown_114 rfl (lv_at hl 0 rfl) ?_
    refine lv_iload_n hx hb dX7_writesDown_115 rfl (lv_at hl 2 rfl) ?_
    refine s_iast (g := (upd f55 (f53 0).toNatClampNeg x1)) (ws' := [(h, .inr (7, oM r i j)), ((r 50), .inl (cI, 22, .inl f50)), ((r 52), .inl (cI, 22, .inl f52)), ((r 53), .inl (cI, 22, .inl f53)), ((r 54), .inl (cI, 1100, .inl (upd f54 (f53 0).toNatClampNeg (f52 0)))), ((r 55), .inl (cI, 1100, .inl (upd f55 (f53 0).toNatClampNeg x1))), ((r 56), .inl (cI, 1100, .inl f56)), ((r 57), .inl (cI, 1100, .inl f57))]) hx hb hK hP hD hS 5 0 rfl rfl (iR_vp f_91_2 (by decide +kernel)) rfl rfl dX7_writesDown_116 (fun H locs hP hD hS => ?_)
    refine lv_aload_n hx hb dX7_writesDown_117 rfl (lv_at hl 1 rfl) ?_
    refine k_get (D := (dC, dI)) (ci := 7) (v := .ref (r 56)) (C := RX7) (T := TX7) (N := 92) hx hb hts hinX7 hown hK hP 0 rfl rfl 56 (by decide) w_4 rfl rfl dX7_writesDown_118 ?_
    refine lv_iload_n hx hb dX7_writesDown_121 rfl (lv_at hl 0 rfl) ?_
    refine lv_aload_n hx hb dX7_writesDown_122 rfl (lv_at hl 1 rfl) ?_
    refine k_get (D := (dC, dI)) (ci := 7) (v := .ref (r 50)) (C := RX7) (T := TX7) (N := 92) hx hb hts hinX7 hown hK hP 0 rfl rfl 50 (by decide) w_5 rfl rfl dX7_writesDown_123 ?_
    refine lv_iconst (v := 0) hx hb dX7_writesDown_126 (by decide +kernel) ?_
    refine k_iald (v := (f50 0)) hx hb hK hP 1 0 0 rfl rfl rfl (Nat.le_of_ble_eq_true rfl) (Nat.le_of_ble_eq_true rfl) rfl dX7_writesDown_127 ?_
    have f_127p8_3 : iR (f50 0) 0 999 := hf50 _
    refine s_iast (g := (upd f56 (f53 0).toNatClampNeg (f50 0))) (ws' := [(h, .inr (7, oM r i j)), ((r 50), .inl (cI, 22, .inl f50)), ((r 52), .inl (cI, 22, .inl f52)), ((r 53), .inl (cI, 22, .inl f53)), ((r 54), .inl (cI, 1100, .inl (upd f54 (f53 0).toNatClampNeg (f52 0)))), ((r 55), .inl (cI, 1100, .inl (upd f55 (f53 0).toNatClampNeg x1))), ((r 56), .inl (cI, 1100, .inl (upd f56 (f53 0).toNatClampNeg (f50 0)))), ((r 57), .inl (cI, 1100, .inl f57))]) hx hb hK hP hD hS 6 0 rfl rfl (iR_vp f_91_2 (by decide +kernel)) rfl rfl dX7_writesDown_128 (fun H locs hP hD hS => ?_)
    refine lv_aload_n hx hb dX7_writesDown_129 rfl (lv_at hl 1 rfl) ?_
    refine k_get (D := (dC, dI)) (ci := 7) (v := .ref (r 57)) (C := RX7) (T := TX7) (N := 92) hx hb hts hinX7 hown hK hP 0 rfl rfl 57 (by decide) w_6 rfl rfl dX7_writesDown_130 ?_
    refine lv_iload_n hx hb dX7_writesDown_133 rfl (lv_at hl 0 rfl) ?_
    refine lv_iload_n hx hb dX7_writesDown_134 rfl (lv_at hl 3 rfl) ?_
    have J_143p8 : ∀ (j143p8_S0 : Int32) (hj143p8_S0 : iR j143p8_S0 0 1) (H : Heap) (locs : List Loc) (ls : Array Slot), va_P (dC, dI) vwCl [(h, .inr (7, oM r i j)), ((r 50), .inl (cI, 22, .inl f50)), ((r 52), .inl (cI, 22, .inl f52)), ((r 53), .inl (cI, 22, .inl f53)), ((r 54), .inl (cI, 1100, .inl (upd f54 (f53 0).toNatClampNeg (f52 0)))), ((r 55), .inl (cI, 1100, .inl (upd f55 (f53 0).toNatClampNeg x1))), ((r 56), .inl (cI, 1100, .inl (upd f56 (f53 0).toNatClampNeg (f50 0)))), ((r 57), .inl (cI, 1100, .inl f57))] H → va_D A [(h, .inr (7, oM r i j)), ((r 50), .inl (cI, 22, .inl f50)), ((r 52), .inl (cI, 22, .inl f52)), ((r 53), .inl (cI, 22, .inl f53)), ((r 54), .inl (cI, 1100, .inl (upd f54 (f53 0).toNatClampNeg (f52 0)))), ((r 55), .inl (cI, 1100, .inl (upd f55 (f53 0).toNatClampNeg x1))), ((r 56), .inl (cI, 1100, .inl (upd f56 (f53 0).toNatClampNeg (f50 0)))), ((r 57), .inl (cI, 1100, .inl f57))] → va_S A s.heap H locs → lv_has ls 4 [(0, .ref h)] → W p l e ({ frames := 1, cells := 0, slots := 0, locals := 40 }) s m args below meth c H locs 0 0 (MQ below (va_Qv (fun (u9 : SU) => (aR (u9.2.2.1 0) 0 50)) (fun u => k_B (dC, dI) vwCl (tyy cI cJ cZ cM) A ((fun (u9 : SU) => [(h, .inr (7, oM r i j)), ((r 50), .inl (cI, 22, .inl f50)), ((r 52), .inl (cI, 22, .inl f52)), ((r 53), .inl (cI, 22, .inl (u9.2.2.1 0))), ((r 54), .inl (cI, 1100, .inl (u9.2.2.1 1))), ((r 55), .inl (cI, 1100, .inl (u9.2.2.1 2))), ((r 56), .inl (cI, 1100, .inl (u9.2.2.1 3))), ((r 57), .inl (cI, 1100, .inl (u9.2.2.1 4)))]) u)) A) args s 0 0 A) (F0 m 143 ls [.int j143p8_S0, .int (f53 0), .ref (r 57)]) := by
      intro j143p8_S0 hj143p8_S0 H locs ls hP hD hS hl
      refine s_iast (g := (upd f57 (f53 0).toNatClampNeg j143p8_S0)) (ws' := [(h, .inr (7, oM r i j)), ((r 50), .inl (cI, 22, .inl f50)), ((r 52), .inl (cI, 22, .inl f52)), ((r 53), .inl (cI, 22, .inl f53)), ((r 54), .inl (cI, 1100, .inl (upd f54 (f53 0).toNatClampNeg (f52 0)))), ((r 55), .inl (cI, 1100, .inl (upd f55 (f53 0).toNatClampNeg x1))), ((r 56), .inl (cI, 1100, .inl (upd f56 (f53 0).toNatClampNeg (f50 0)))), ((r 57), .inl (cI, 1100, .inl (upd f57 (f53 0).toNatClampNeg j143p8_S0)))]) hx hb hK hP hD hS 7 0 rfl rfl (iR_vp f_91_2 (by decide +kernel)) rfl rfl dX7_writesDown_143 (fun H locs hP hD hS => ?_)
      refine lv_aload_n hx hb dX7_writesDown_144 rfl (lv_at hl 0 rfl) ?_
      refine k_get (D := (dC, dI)) (ci := 7) (v := .ref (r 53)) (C := RX7) (T := TX7) (N := 92) hx hb hts hinX7 hown hK hP 0 rfl rfl 53 (by decide) w_0 rfl rfl dX7_writesDown_145 ?_
      refine lv_iconst (v := 0) hx hb dX7_writesDown_148 (by decide +kernel) ?_
      refine lv_dup2_11 hx hb dX7_writesDown_149 rfl rfl ?_
      refine k_iald (v := (f53 0)) hx hb hK hP 3 0 0 rfl rfl rfl (Nat.le_of_ble_eq_true rfl) (Nat.le_of_ble_eq_true rfl) rfl dX7_writesDown_150 ?_
      refine lv_iconst (v := 1) hx hb dX7_writesDown_151 (by decide +kernel) ?_
      refine lv_iadd hx hb dX7_writesDown_152 ?_
      refine lv_topi (fun y_152p8 ey_152p8 => ?_)
      have f_152p8_1 : iR y_152p8 1 50 := iR_add ey_152p8 f_91_2 (iR_c (n := 1) (a := 1) (b := 1) (by decide +kernel) (by decide +kernel)) (by decide +kernel)
      refine k_iast (g := (upd f53 0 y_152p8)) (ws' := [(h, .inr (7, oM r i j)), ((r 50), .inl (cI, 22, .inl f50)), ((r 52), .inl (cI, 22, .inl f52)), ((r 53), .inl (cI, 22, .inl (upd f53 0 y_152p8))), ((r 54), .inl (cI, 1100, .inl (upd f54 (f53 0).toNatClampNeg (f52 0)))), ((r 55), .inl (cI, 1100, .inl (upd f55 (f53 0).toNatClampNeg x1))), ((r 56), .inl (cI, 1100, .inl (upd f56 (f53 0).toNatClampNeg (f50 0)))), ((r 57), .inl (cI, 1100, .inl (upd f57 (f53 0).toNatClampNeg j143p8_S0)))]) hx hb hK hP hD hS 3 0 0 rfl rfl rfl (Nat.le_of_ble_eq_true rfl) (Nat.le_of_ble_eq_true rfl) rfl rfl dX7_writesDown_153 (fun H locs hP hD hS => ?_)
      exact k_rv B hP hD hS dX7_writesDown_154 ((fun _ => 0), (fun _ => 0), (fun k9 => match k9 with | 0 => (upd f53 0 y_152p8) | 1 => (upd f54 (f53 0).toNatClampNeg (f52 0)) | 2 => (upd f55 (f53 0).toNatClampNeg x1) | 3 => (upd f56 (f53 0).toNatClampNeg (f50 0)) | 4 => (upd f57 (f53 0).toNatClampNeg j143p8_S0) | _ => (fun _ => 0)), (fun _ => (fun _ => 0)), (fun _ => 0)) [0, 1, 2, 3, 4, 5, 6, 7] rfl rfl (Nat.le_of_ble_eq_true rfl) (Nat.le_of_ble_eq_true rfl) (aR_upd _ hf53 (iR_w f_152p8_1 (by decide +kernel)))
    refine lv_if_eq (tgt := 142) hx hb dX7_writesDown_135 (by decide) (fun c_135p8 => ?_) (fun c_135p8 => ?_)
    · have c_135p8 : x2 = 0 := c_135p8
      have f_142p8_4 : iR x2 0 0 := iR_eqL c_135p8 hx2 (iR_c (n := 0) (a := 0) (b := 0) (by decide +kernel) (by decide +kernel)) (by decide +kernel)
      refine lv_iconst (v := 0) hx hb dX7_writesDown_142 (by decide +kernel) ?_
      exact J_143p8 0 (iR_c (n := 0) (a := 0) (b := 1) (by decide +kernel) (by decide +kernel)) H locs ls hP hD hS (lv_sub hl [1] rfl)
    · have c_135p8 : ¬ x2 = 0 := c_135p8
      have f_138p8_4 : iR x2 1 1 := iR_neL c_135p8 hx2 (iR_c (n := 0) (a := 0) (b := 0) (by decide +kernel) (by decide +kernel)) (by decide +kernel)
      refine lv_iconst (v := 1) hx hb dX7_writesDown_138 (by decide +kernel) ?_
      refine lv_goto (tgt := 143) hx hb dX7_writesDown_139 (by decide) ?_
      exact J_143p8 1 (iR_c (n := 1) (a := 0) (b := 1) (by decide +kernel) (by decide +kernel)) H locs ls hP hD hS (lv_sub hl [1] rfl)
  · have c_8 : (f53 0) = 50 := c_8
    have f_11_2 : iR (f53 0) 50 50 := iR_eqL c_8 f_5_1 (iR_c (n := 50) (a := 50) (b := 50) (by decide +kernel) (by decide +kernel)) (by decide +kernel)
    refine lv_iconst (v := 0) hx hb dX7_writesDown_11 (by decide +kernel) ?_
    have J_13 : ∀ (n_13 : Nat) (j13_A4 : Nat → Int32) (j13_A5 : Nat → Int32) (j13_A6 : Nat → Int32) (j13_A7 : Nat → Int32) (j13_L3 : Int32) (hj13_L3 : iR j13_L3 0 49) (hm_13 : (49 - j13_L3.toInt).toNat < n_13) (H : Heap) (locs : List Loc) (ls : Array Slot), va_P (dC, dI) vwCl [(h, .inr (7, oM r i j)), ((r 50), .inl (cI, 22, .inl f50)), ((r 52), .inl (cI, 22, .inl f52)), ((r 53), .inl (cI, 22, .inl f53)), ((r 54), .inl (cI, 1100, .inl j13_A4)), ((r 55), .inl (cI, 1100, .inl j13_A5)), ((r 56), .inl (cI, 1100, .inl j13_A6)), ((r 57), .inl (cI, 1100, .inl j13_A7))] H → va_D A [(h, .inr (7, oM r i j)), ((r 50), .inl (cI, 22, .inl f50)), ((r 52), .inl (cI, 22, .inl f52)), ((r 53), .inl (cI, 22, .inl f53)), ((r 54), .inl (cI, 1100, .inl j13_A4)), ((r 55), .inl (cI, 1100, .inl j13_A5)), ((r 56), .inl (cI, 1100, .inl j13_A6)), ((r 57), .inl (cI, 1100, .inl j13_A7))] → va_S A s.heap H locs → lv_has ls 4 [(0, .ref h), (1, .int x1), (2, .int x2), (3, .int j13_L3)] → W p l e ({ frames := 1, cells := 0, slots := 0, locals := 40 }) s m args below meth c H locs 0 0 (MQ below (va_Qv (fun (u9 : SU) => (aR (u9.2.2.1 0) 0 50)) (fun u => k_B (dC, dI) vwCl (tyy cI cJ cZ cM) A ((fun (u9 : SU) => [(h, .inr (7, oM r i j)), ((r 50), .inl (cI, 22, .inl f50)), ((r 52), .inl (cI, 22, .inl f52)), ((r 53), .inl (cI, 22, .inl (u9.2.2.1 0))), ((r 54), .inl (cI, 1100, .inl (u9.2.2.1 1))), ((r 55), .inl (cI, 1100, .inl (u9.2.2.1 2))), ((r 56), .inl (cI, 1100, .inl (u9.2.2.1 3))), ((r 57), .inl (cI, 1100, .inl (u9.2.2.1 4)))]) u)) A) args s 0 0 A) (F0 m 13 ls []) := by
      intro n_13
      induction n_13 with
      | zero => intro j13_A4 j13_A5 j13_A6 j13_A7 j13_L3 hj13_L3 hm_13; exact absurd hm_13 (Nat.not_lt_zero _)
      | succ n_13 ih_13 =>
        intro j13_A4 j13_A5 j13_A6 j13_A7 j13_L3 hj13_L3 hm_13 H locs ls hP hD hS hl
        refine lv_iload_n hx hb dX7_writesDown_13 rfl (lv_at hl 3 rfl) ?_
        refine lv_bipush (v := 49) hx hb dX7_writesDown_14 (by decide +kernel) ?_
        refine lv_icmp_ge (tgt := 81) hx hb dX7_writesDown_16 (by decide) (fun c_16 => ?_) (fun c_16 => ?_)
        · have c_16 : 49 ≤ j13_L3 := c_16
          have f_81_1 : iR j13_L3 49 49 := iR_leR c_16 (iR_c (n := 49) (a := 49) (b := 49) (by decide +kernel) (by decide +kernel)) hj13_L3 (by decide +kernel)
          refine lv_aload_n hx hb dX7_writesDown_81 rfl (lv_at hl 0 rfl) ?_
          refine k_get (D := (dC, dI)) (ci := 7) (v := .ref (r 53)) (C := RX7) (T := TX7) (N := 92) hx hb hts hinX7 hown hK hP 0 rfl rfl 53 (by decide) w_0 rfl rfl dX7_writesDown_82 ?_
          refine lv_iconst (v := 0) hx hb dX7_writesDown_85 (by decide +kernel) ?_
          refine lv_dup2_11 hx hb dX7_writesDown_86 rfl rfl ?_
          refine k_iald (v := (f53 0)) hx hb hK hP 3 0 0 rfl rfl rfl (Nat.le_of_ble_eq_true rfl) (Nat.le_of_ble_eq_true rfl) rfl dX7_writesDown_87 ?_
          refine lv_iconst (v := 1) hx hb dX7_writesDown_88 (by decide +kernel) ?_
          refine lv_isub hx hb dX7_writesDown_89 ?_
          refine lv_topi (fun y_89 ey_89 => ?_)
          have f_89_2 : iR y_89 49 49 := iR_sub ey_89 f_11_2 (iR_c (n := 1) (a := 1) (b := 1) (by decide +kernel) (by decide +kernel)) (by decide +kernel)
          refine k_iast (g := (upd f53 0 y_89)) (ws' := [(h, .inr (7, oM r i j)), ((r 50), .inl (cI, 22, .inl f50)), ((r 52), .inl (cI, 22, .inl f52)), ((r 53), .inl (cI, 22, .inl (upd f53 0 y_89))), ((r 54), .inl (cI, 1100, .inl j13_A4)), ((r 55), .inl (cI, 1100, .inl j13_A5)), ((r 56), .inl (cI, 1100, .inl j13_A6)), ((r 57), .inl (cI, 1100, .inl j13_A7))]) hx hb hK hP hD hS 3 0 0 rfl rfl rfl (Nat.le_of_ble_eq_true rfl) (Nat.le_of_ble_eq_true rfl) rfl rfl dX7_writesDown_90 (fun H locs hP hD hS => ?_)
          refine lv_aload_n hx hb dX7_writesDown_91 rfl (lv_at hl 0 rfl) ?_
          refine k_get (D := (dC, dI)) (ci := 7) (v := .ref (r 53)) (C := RX7) (T := TX7) (N := 92) hx hb hts hinX7 hown hK hP 0 rfl rfl 53 (by decide) w_0 rfl rfl dX7_writesDown_92 ?_
          refine lv_iconst (v := 0) hx hb dX7_writesDown_95 (by decide +kernel) ?_
          refine k_iald (v := ((upd f53 0 y_89) 0)) hx hb hK hP 3 0 0 rfl rfl rfl (Nat.le_of_ble_eq_true rfl) (Nat.le_of_ble_eq_true rfl) rfl dX7_writesDown_96 ?_
          refine k_int (v := y_89) rfl ?_
          refine lv_istore_n (lv' := [(3, .int y_89), (0, .ref h), (1, .int x1), (2, .int x2)]) hx hb dX7_writesDown_97 rfl hl (by decide) rfl (fun ls hl => ?_)
          refine lv_aload_n hx hb dX7_writesDown_98 rfl (lv_at hl 1 rfl) ?_
          refine k_get (D := (dC, dI)) (ci := 7) (v := .ref (r 54)) (C := RX7) (T := TX7) (N := 92) hx hb hts hinX7 hown hK hP 0 rfl rfl 54 (by decide) w_1 rfl rfl dX7_writesDown_99 ?_
          refine lv_iload_n hx hb dX7_writesDown_102 rfl (lv_at hl 0 rfl) ?_
          refine lv_aload_n hx hb dX7_writesDown_103 rfl (lv_at hl 1 rfl) ?_
          refine k_get (D := (dC, dI)) (ci := 7) (v := .ref (r 52)) (C := RX7) (T := TX7) (N := 92) hx hb hts hinX7 hown hK hP 0 rfl rfl 52 (by decide) w_2 rfl rfl dX7_writesDown_104 ?_
          refine lv_iconst (v := 0) hx hb dX7_writesDown_107 (by decide +kernel) ?_
          refine k_iald (v := (f52 0)) hx hb hK hP 2 0 0 rfl rfl rfl (Nat.le_of_ble_eq_true rfl) (Nat.le_of_ble_eq_true rfl) rfl dX7_writesDown_108 ?_
          refine s_iast (g := (upd j13_A4 y_89.toNatClampNeg (f52 0))) (ws' := [(h, .inr (7, oM r i j)), ((r 50), .inl (cI, 22, .inl f50)), ((r 52), .inl (cI, 22, .inl f52)), ((r 53), .inl (cI, 22, .inl (upd f53 0 y_89))), ((r 54), .inl (cI, 1100, .inl (upd j13_A4 y_89.toNatClampNeg (f52 0)))), ((r 55), .inl (cI, 1100, .inl j13_A5)), ((r 56), .inl (cI, 1100, .inl j13_A6)), ((r 57), .inl (cI, 1100, .inl j13_A7))]) hx hb hK hP hD hS 4 0 rfl rfl (iR_vp f_89_2 (by decide +kernel)) rfl rfl dX7_writesDown_109 (fun H locs hP hD hS => ?_)
          refine lv_aload_n hx hb dX7_writesDown_110 rfl (lv_at hl 1 rfl) ?_
          refine k_get (D := (dC, dI)) (ci := 7) (v := .ref (r 55)) (C := RX7) (T := TX7) (N := 92) hx hb hts hinX7 hown hK hP 0 rfl rfl 55 (by decide) w_3 rfl rfl dX7_writesDown_111 ?_
          refine lv_iload_n hx hb dX7_writesDown_114 rfl (lv_at hl 0 rfl) ?_
          refine lv_iload_n hx hb dX7_writesDown_115 rfl (lv_at hl 2 rfl) ?_
          refine s_iast (g := (upd j13_A5 y_89.toNatClampNeg x1)) (ws' := [(h, .inr (7, oM r i j)), ((r 50), .inl (cI, 22, .inl f50)), ((r 52), .inl (cI, 22, .inl f52)), ((r 53), .inl (cI, 22, .inl (upd f53 0 y_89))), ((r 54), .inl (cI, 1100, .inl (upd j13_A4 y_89.toNatClampNeg (f52 0)))), ((r 55), .inl (cI, 1100, .inl (upd j13_A5 y_89.toNatClampNeg x1))), ((r 56), .inl (cI, 1100, .inl j13_A6)), ((r 57), .inl (cI, 1100, .inl j13_A7))]) hx hb hK hP hD hS 5 0 rfl rfl (iR_vp f_89_2 (by decide +kernel)) rfl rfl dX7_writesDown_116 (fun H locs hP hD hS => ?_)
          refine lv_aload_n hx hb dX7_writesDown_117 rfl (lv_at hl 1 rfl) ?_
          refine k_get (D := (dC, dI)) (ci := 7) (v := .ref (r 56)) (C := RX7) (T := TX7) (N := 92) hx hb hts hinX7 hown hK hP 0 rfl rfl 56 (by decide) w_4 rfl rfl dX7_writesDown_118 ?_
          refine lv_iload_n hx hb dX7_writesDown_121 rfl (lv_at hl 0 rfl) ?_
          refine lv_aload_n hx hb dX7_writesDown_122 rfl (lv_at hl 1 rfl) ?_
          refine k_get (D := (dC, dI)) (ci := 7) (v := .ref (r 50)) (C := RX7) (T := TX7) (N := 92) hx hb hts hinX7 hown hK hP 0 rfl rfl 50 (by decide) w_5 rfl rfl dX7_writesDown_123 ?_
          refine lv_iconst (v := 0) hx hb dX7_writesDown_126 (by decide +kernel) ?_
          refine k_iald (v := (f50 0)) hx hb hK hP 1 0 0 rfl rfl rfl (Nat.le_of_ble_eq_true rfl) (Nat.le_of_ble_eq_true rfl) rfl dX7_writesDown_127 ?_
          have f_127p90_3 : iR (f50 0) 0 999 := hf50 _
          refine s_iast (g := (upd j13_A6 y_89.toNatClampNeg (f50 0))) (ws' := [(h, .inr (7, oM r i j)), ((r 50), .inl (cI, 22, .inl f50)), ((r 52), .inl (cI, 22, .inl f52)), ((r 53), .inl (cI, 22, .inl (upd f53 0 y_89))), ((r 54), .inl (cI, 1100, .inl (upd j13_A4 y_89.toNatClampNeg (f52 0)))), ((r 55), .inl (cI, 1100, .inl (upd j13_A5 y_89.toNatClampNeg x1))), ((r 56), .inl (cI, 1100, .inl (upd j13_A6 y_89.toNatClampNeg (f50 0)))), ((r 57), .inl (cI, 1100, .inl j13_A7))]) hx hb hK hP hD hS 6 0 rfl rfl (iR_vp f_89_2 (by decide +kernel)) rfl rfl dX7_writesDown_128 (fun H locs hP hD hS => ?_)
          refine lv_aload_n hx hb dX7_writesDown_129 rfl (lv_at hl 1 rfl) ?_
          refine k_get (D := (dC, dI)) (ci := 7) (v := .ref (r 57)) (C := RX7) (T := TX7) (N := 92) hx hb hts hinX7 hown hK hP 0 rfl rfl 57 (by decide) w_6 rfl rfl dX7_writesDown_130 ?_
          refine lv_iload_n hx hb dX7_writesDown_133 rfl (lv_at hl 0 rfl) ?_
          refine lv_iload_n hx hb dX7_writesDown_134 rfl (lv_at hl 3 rfl) ?_
          have J_143p90 : ∀ (j143p90_S0 : Int32) (hj143p90_S0 : iR j143p90_S0 0 1) (H : Heap) (locs : List Loc) (ls : Array Slot), va_P (dC, dI) vwCl [(h, .inr (7, oM r i j)), ((r 50), .inl (cI, 22, .inl f50)), ((r 52), .inl (cI, 22, .inl f52)), ((r 53), .inl (cI, 22, .inl (upd f53 0 y_89))), ((r 54), .inl (cI, 1100, .inl (upd j13_A4 y_89.toNatClampNeg (f52 0)))), ((r 55), .inl (cI, 1100, .inl (upd j13_A5 y_89.toNatClampNeg x1))), ((r 56), .inl (cI, 1100, .inl (upd j13_A6 y_89.toNatClampNeg (f50 0)))), ((r 57), .inl (cI, 1100, .inl j13_A7))] H → va_D A [(h, .inr (7, oM r i j)), ((r 50), .inl (cI, 22, .inl f50)), ((r 52), .inl (cI, 22, .inl f52)), ((r 53), .inl (cI, 22, .inl (upd f53 0 y_89))), ((r 54), .inl (cI, 1100, .inl (upd j13_A4 y_89.toNatClampNeg (f52 0)))), ((r 55), .inl (cI, 1100, .inl (upd j13_A5 y_89.toNatClampNeg x1))), ((r 56), .inl (cI, 1100, .inl (upd j13_A6 y_89.toNatClampNeg (f50 0)))), ((r 57), .inl (cI, 1100, .inl j13_A7))] → va_S A s.heap H locs → lv_has ls 4 [(0, .ref h)] → W p l e ({ frames := 1, cells := 0, slots := 0, locals := 40 }) s m args below meth c H locs 0 0 (MQ below (va_Qv (fun (u9 : SU) => (aR (u9.2.2.1 0) 0 50)) (fun u => k_B (dC, dI) vwCl (tyy cI cJ cZ cM) A ((fun (u9 : SU) => [(h, .inr (7, oM r i j)), ((r 50), .inl (cI, 22, .inl f50)), ((r 52), .inl (cI, 22, .inl f52)), ((r 53), .inl (cI, 22, .inl (u9.2.2.1 0))), ((r 54), .inl (cI, 1100, .inl (u9.2.2.1 1))), ((r 55), .inl (cI, 1100, .inl (u9.2.2.1 2))), ((r 56), .inl (cI, 1100, .inl (u9.2.2.1 3))), ((r 57), .inl (cI, 1100, .inl (u9.2.2.1 4)))]) u)) A) args s 0 0 A) (F0 m 143 ls [.int j143p90_S0, .int y_89, .ref (r 57)]) := by
            intro j143p90_S0 hj143p90_S0 H locs ls hP hD hS hl
            refine s_iast (g := (upd j13_A7 y_89.toNatClampNeg j143p90_S0)) (ws' := [(h, .inr (7, oM r i j)), ((r 50), .inl (cI, 22, .inl f50)), ((r 52), .inl (cI, 22, .inl f52)), ((r 53), .inl (cI, 22, .inl (upd f53 0 y_89))), ((r 54), .inl (cI, 1100, .inl (upd j13_A4 y_89.toNatClampNeg (f52 0)))), ((r 55), .inl (cI, 1100, .inl (upd j13_A5 y_89.toNatClampNeg x1))), ((r 56), .inl (cI, 1100, .inl (upd j13_A6 y_89.toNatClampNeg (f50 0)))), ((r 57), .inl (cI, 1100, .inl (upd j13_A7 y_89.toNatClampNeg j143p90_S0)))]) hx hb hK hP hD hS 7 0 rfl rfl (iR_vp f_89_2 (by decide +kernel)) rfl rfl dX7_writesDown_143 (fun H locs hP hD hS => ?_)
            refine lv_aload_n hx hb dX7_writesDown_144 rfl (lv_at hl 0 rfl) ?_
            refine k_get (D := (dC, dI)) (ci := 7) (v := .ref (r 53)) (C := RX7) (T := TX7) (N := 92) hx hb hts hinX7 hown hK hP 0 rfl rfl 53 (by decide) w_0 rfl rfl dX7_writesDown_145 ?_
            refine lv_iconst (v := 0) hx hb dX7_writesDown_148 (by decide +kernel) ?_
            refine lv_dup2_11 hx hb dX7_writesDown_149 rfl rfl ?_
            refine k_iald (v := ((upd f53 0 y_89) 0)) hx hb hK hP 3 0 0 rfl rfl rfl (Nat.le_of_ble_eq_true rfl) (Nat.le_of_ble_eq_true rfl) rfl dX7_writesDown_150 ?_
            refine k_int (v := y_89) rfl ?_
            refine lv_iconst (v := 1) hx hb dX7_writesDown_151 (by decide +kernel) ?_
            refine lv_iadd hx hb dX7_writesDown_152 ?_
            refine lv_topi (fun y_152p90 ey_152p90 => ?_)
            have f_152p90_1 : iR y_152p90 50 50 := iR_add ey_152p90 f_89_2 (iR_c (n := 1) (a := 1) (b := 1) (by decide +kernel) (by decide +kernel)) (by decide +kernel)
            refine k_iast (g := (upd (upd f53 0 y_89) 0 y_152p90)) (ws' := [(h, .inr (7, oM r i j)), ((r 50), .inl (cI, 22, .inl f50)), ((r 52), .inl (cI, 22, .inl f52)), ((r 53), .inl (cI, 22, .inl (upd (upd f53 0 y_89) 0 y_152p90))), ((r 54), .inl (cI, 1100, .inl (upd j13_A4 y_89.toNatClampNeg (f52 0)))), ((r 55), .inl (cI, 1100, .inl (upd j13_A5 y_89.toNatClampNeg x1))), ((r 56), .inl (cI, 1100, .inl (upd j13_A6 y_89.toNatClampNeg (f50 0)))), ((r 57), .inl (cI, 1100, .inl (upd j13_A7 y_89.toNatClampNeg j143p90_S0)))]) hx hb hK hP hD hS 3 0 0 rfl rfl rfl (Nat.le_of_ble_eq_true rfl) (Nat.le_of_ble_eq_true rfl) rfl rfl dX7_writesDown_153 (fun H locs hP hD hS => ?_)
            exact k_rv B hP hD hS dX7_writesDown_154 ((fun _ => 0), (fun _ => 0), (fun k9 => match k9 with | 0 => (upd (upd f53 0 y_89) 0 y_152p90) | 1 => (upd j13_A4 y_89.toNatClampNeg (f52 0)) | 2 => (upd j13_A5 y_89.toNatClampNeg x1) | 3 => (upd j13_A6 y_89.toNatClampNeg (f50 0)) | 4 => (upd j13_A7 y_89.toNatClampNeg j143p90_S0) | _ => (fun _ => 0)), (fun _ => (fun _ => 0)), (fun _ => 0)) [0, 1, 2, 3, 4, 5, 6, 7] rfl rfl (Nat.le_of_ble_eq_true rfl) (Nat.le_of_ble_eq_true rfl) (aR_upd _ (aR_upd _ hf53 (iR_w f_89_2 (by decide +kernel))) (iR_w f_152p90_1 (by decide +kernel)))
          refine lv_if_eq (tgt := 142) hx hb dX7_writesDown_135 (by decide) (fun c_135p90 => ?_) (fun c_135p90 => ?_)
          · have c_135p90 : x2 = 0 := c_135p90
            have f_142p90_4 : iR x2 0 0 := iR_eqL c_135p90 hx2 (iR_c (n := 0) (a := 0) (b := 0) (by decide +kernel) (by decide +kernel)) (by decide +kernel)
            refine lv_iconst (v := 0) hx hb dX7_writesDown_142 (by decide +kernel) ?_
            exact J_143p90 0 (iR_c (n := 0) (a := 0) (b := 1) (by decide +kernel) (by decide +kernel)) H locs ls hP hD hS (lv_sub hl [1] rfl)
          · have c_135p90 : ¬ x2 = 0 := c_135p90
            have f_138p90_4 : iR x2 1 1 := iR_neL c_135p90 hx2 (iR_c (n := 0) (a := 0) (b := 0) (by decide +kernel) (by decide +kernel)) (by decide +kernel)
            refine lv_iconst (v := 1) hx hb dX7_writesDown_138 (by decide +kernel) ?_
            refine lv_goto (tgt := 143) hx hb dX7_writesDown_139 (by decide) ?_
            exact J_143p90 1 (iR_c (n := 1) (a := 0) (b := 1) (by decide +kernel) (by decide +kernel)) H locs ls hP hD hS (lv_sub hl [1] rfl)
        · have c_16 : j13_L3 < 49 := i_nle c_16
          have f_19_1 : iR j13_L3 0 48 := iR_ltL c_16 hj13_L3 (iR_c (n := 49) (a := 49) (b := 49) (by decide +kernel) (by decide +kernel)) (by decide +kernel)
          refine lv_aload_n hx hb dX7_writesDown_19 rfl (lv_at hl 0 rfl) ?_
          refine k_get (D := (dC, dI)) (ci := 7) (v := .ref (r 54)) (C := RX7) (T := TX7) (N := 92) hx hb hts hinX7 hown hK hP 0 rfl rfl 54 (by decide) w_1 rfl rfl dX7_writesDown_20 ?_
          refine lv_iload_n hx hb dX7_writesDown_23 rfl (lv_at hl 3 rfl) ?_
          refine lv_aload_n hx hb dX7_writesDown_24 rfl (lv_at hl 0 rfl) ?_
          refine k_get (D := (dC, dI)) (ci := 7) (v := .ref (r 54)) (C := RX7) (T := TX7) (N := 92) hx hb hts hinX7 hown hK hP 0 rfl rfl 54 (by decide) w_1 rfl rfl dX7_writesDown_25 ?_
          refine lv_iload_n hx hb dX7_writesDown_28 rfl (lv_at hl 3 rfl) ?_
          refine lv_iconst (v := 1) hx hb dX7_writesDown_29 (by decide +kernel) ?_
          refine lv_iadd hx hb dX7_writesDown_30 ?_
          refine lv_topi (fun y_30 ey_30 => ?_)
          have f_30_2 : iR y_30 1 49 := iR_add ey_30 f_19_1 (iR_c (n := 1) (a := 1) (b := 1) (by decide +kernel) (by decide +kernel)) (by decide +kernel)
          refine va_iald hx hb hK hP 4 0 rfl rfl (iR_vp f_30_2 (by decide +kernel)) dX7_writesDown_31 ?_
          refine s_iast (g := (upd j13_A4 j13_L3.toNatClampNeg (j13_A4 y_30.toNatClampNeg))) (ws' := [(h, .inr (7, oM r i j)), ((r 50), .inl (cI, 22, .inl f50)), ((r 52), .inl (cI, 22, .inl f52)), ((r 53), .inl (cI, 22, .inl f53)), ((r 54), .inl (cI, 1100, .inl (upd j13_A4 j13_L3.toNatClampNeg (j13_A4 y_30.toNatClampNeg)))), ((r 55), .inl (cI, 1100, .inl j13_A5)), ((r 56), .inl (cI, 1100, .inl j13_A6)), ((r 57), .inl (cI, 1100, .inl j13_A7))]) hx hb hK hP hD hS 4 0 rfl rfl (iR_vp f_19_1 (by decide +kernel)) rfl rfl dX7_writesDown_32 (fun H locs hP hD hS => ?_)
          refine lv_aload_n hx hb dX7_writesDown_33 rfl (lv_at hl 0 rfl) ?_
          refine k_get (D := (dC, dI)) (ci := 7) (v := .ref (r 55)) (C := RX7) (T := TX7) (N := 92) hx hb hts hinX7 hown hK hP 0 rfl rfl 55 (by decide) w_3 rfl rfl dX7_writesDown_34 ?_
          refine lv_iload_n hx hb dX7_writesDown_37 rfl (lv_at hl 3 rfl) ?_
          refine lv_aload_n hx hb dX7_writesDown_38 rfl (lv_at hl 0 rfl) ?_
          refine k_get (D := (dC, dI)) (ci := 7) (v := .ref (r 55)) (C := RX7) (T := TX7) (N := 92) hx hb hts hinX7 hown hK hP 0 rfl rfl 55 (by decide) w_3 rfl rfl dX7_writesDown_39 ?_
          refine lv_iload_n hx hb dX7_writesDown_42 rfl (lv_at hl 3 rfl) ?_
          refine lv_iconst (v := 1) hx hb dX7_writesDown_43 (by decide +kernel) ?_
          refine lv_iadd hx hb dX7_writesDown_44 ?_
          refine lv_topi (fun y_44 ey_44 => ?_)
          have f_44_3 : iR y_44 1 49 := iR_add ey_44 f_19_1 (iR_c (n := 1) (a := 1) (b := 1) (by decide +kernel) (by decide +kernel)) (by decide +kernel)
          refine va_iald hx hb hK hP 5 0 rfl rfl (iR_vp f_44_3 (by decide +kernel)) dX7_writesDown_45 ?_
          refine s_iast (g := (upd j13_A5 j13_L3.toNatClampNeg (j13_A5 y_44.toNatClampNeg))) (ws' := [(h, .inr (7, oM r i j)), ((r 50), .inl (cI, 22, .inl f50)), ((r 52), .inl (cI, 22, .inl f52)), ((r 53), .inl (cI, 22, .inl f53)), ((r 54), .inl (cI, 1100, .inl (upd j13_A4 j13_L3.toNatClampNeg (j13_A4 y_30.toNatClampNeg)))), ((r 55), .inl (cI, 1100, .inl (upd j13_A5 j13_L3.toNatClampNeg (j13_A5 y_44.toNatClampNeg)))), ((r 56), .inl (cI, 1100, .inl j13_A6)), ((r 57), .inl (cI, 1100, .inl j13_A7))]) hx hb hK hP hD hS 5 0 rfl rfl (iR_vp f_19_1 (by decide +kernel)) rfl rfl dX7_writesDown_46 (fun H locs hP hD hS => ?_)
          refine lv_aload_n hx hb dX7_writesDown_47 rfl (lv_at hl 0 rfl) ?_
          refine k_get (D := (dC, dI)) (ci := 7) (v := .ref (r 56)) (C := RX7) (T := TX7) (N := 92) hx hb hts hinX7 hown hK hP 0 rfl rfl 56 (by decide) w_4 rfl rfl dX7_writesDown_48 ?_
          refine lv_iload_n hx hb dX7_writesDown_51 rfl (lv_at hl 3 rfl) ?_
          refine lv_aload_n hx hb dX7_writesDown_52 rfl (lv_at hl 0 rfl) ?_
          refine k_get (D := (dC, dI)) (ci := 7) (v := .ref (r 56)) (C := RX7) (T := TX7) (N := 92) hx hb hts hinX7 hown hK hP 0 rfl rfl 56 (by decide) w_4 rfl rfl dX7_writesDown_53 ?_
          refine lv_iload_n hx hb dX7_writesDown_56 rfl (lv_at hl 3 rfl) ?_
          refine lv_iconst (v := 1) hx hb dX7_writesDown_57 (by decide +kernel) ?_
          refine lv_iadd hx hb dX7_writesDown_58 ?_
          refine lv_topi (fun y_58 ey_58 => ?_)
          have f_58_4 : iR y_58 1 49 := iR_add ey_58 f_19_1 (iR_c (n := 1) (a := 1) (b := 1) (by decide +kernel) (by decide +kernel)) (by decide +kernel)
          refine va_iald hx hb hK hP 6 0 rfl rfl (iR_vp f_58_4 (by decide +kernel)) dX7_writesDown_59 ?_
          refine s_iast (g := (upd j13_A6 j13_L3.toNatClampNeg (j13_A6 y_58.toNatClampNeg))) (ws' := [(h, .inr (7, oM r i j)), ((r 50), .inl (cI, 22, .inl f50)), ((r 52), .inl (cI, 22, .inl f52)), ((r 53), .inl (cI, 22, .inl f53)), ((r 54), .inl (cI, 1100, .inl (upd j13_A4 j13_L3.toNatClampNeg (j13_A4 y_30.toNatClampNeg)))), ((r 55), .inl (cI, 1100, .inl (upd j13_A5 j13_L3.toNatClampNeg (j13_A5 y_44.toNatClampNeg)))), ((r 56), .inl (cI, 1100, .inl (upd j13_A6 j13_L3.toNatClampNeg (j13_A6 y_58.toNatClampNeg)))), ((r 57), .inl (cI, 1100, .inl j13_A7))]) hx hb hK hP hD hS 6 0 rfl rfl (iR_vp f_19_1 (by decide +kernel)) rfl rfl dX7_writesDown_60 (fun H locs hP hD hS => ?_)
          refine lv_aload_n hx hb dX7_writesDown_61 rfl (lv_at hl 0 rfl) ?_
          refine k_get (D := (dC, dI)) (ci := 7) (v := .ref (r 57)) (C := RX7) (T := TX7) (N := 92) hx hb hts hinX7 hown hK hP 0 rfl rfl 57 (by decide) w_6 rfl rfl dX7_writesDown_62 ?_
          refine lv_iload_n hx hb dX7_writesDown_65 rfl (lv_at hl 3 rfl) ?_
          refine lv_aload_n hx hb dX7_writesDown_66 rfl (lv_at hl 0 rfl) ?_
          refine k_get (D := (dC, dI)) (ci := 7) (v := .ref (r 57)) (C := RX7) (T := TX7) (N := 92) hx hb hts hinX7 hown hK hP 0 rfl rfl 57 (by decide) w_6 rfl rfl dX7_writesDown_67 ?_
          refine lv_iload_n hx hb dX7_writesDown_70 rfl (lv_at hl 3 rfl) ?_
          refine lv_iconst (v := 1) hx hb dX7_writesDown_71 (by decide +kernel) ?_
          refine lv_iadd hx hb dX7_writesDown_72 ?_
          refine lv_topi (fun y_72 ey_72 => ?_)
          have f_72_5 : iR y_72 1 49 := iR_add ey_72 f_19_1 (iR_c (n := 1) (a := 1) (b := 1) (by decide +kernel) (by decide +kernel)) (by decide +kernel)
          refine va_iald hx hb hK hP 7 0 rfl rfl (iR_vp f_72_5 (by decide +kernel)) dX7_writesDown_73 ?_
          refine s_iast (g := (upd j13_A7 j13_L3.toNatClampNeg (j13_A7 y_72.toNatClampNeg))) (ws' := [(h, .inr (7, oM r i j)), ((r 50), .inl (cI, 22, .inl f50)), ((r 52), .inl (cI, 22, .inl f52)), ((r 53), .inl (cI, 22, .inl f53)), ((r 54), .inl (cI, 1100, .inl (upd j13_A4 j13_L3.toNatClampNeg (j13_A4 y_30.toNatClampNeg)))), ((r 55), .inl (cI, 1100, .inl (upd j13_A5 j13_L3.toNatClampNeg (j13_A5 y_44.toNatClampNeg)))), ((r 56), .inl (cI, 1100, .inl (upd j13_A6 j13_L3.toNatClampNeg (j13_A6 y_58.toNatClampNeg)))), ((r 57), .inl (cI, 1100, .inl (upd j13_A7 j13_L3.toNatClampNeg (j13_A7 y_72.toNatClampNeg))))]) hx hb hK hP hD hS 7 0 rfl rfl (iR_vp f_19_1 (by decide +kernel)) rfl rfl dX7_writesDown_74 (fun H locs hP hD hS => ?_)
          obtain ⟨y_75, ey_75⟩ : ∃ y : Int32, y = j13_L3 + 1 := ⟨_, rfl⟩
          refine lv_iinc (v := y_75) (lv' := [(3, .int y_75), (0, .ref h), (1, .int x1), (2, .int x2)]) hx hb dX7_writesDown_75 hl (k := 3) rfl ey_75.symm (by decide) rfl (fun ls hl => ?_)
          have f_75_6 : iR y_75 1 49 := iR_add ey_75 f_19_1 (iR_c (n := 1) (a := 1) (b := 1) (by decide +kernel) (by decide +kernel)) (by decide +kernel)
          refine lv_goto (tgt := 13) hx hb dX7_writesDown_78 (by decide) ?_
          exact ih_13 (upd j13_A4 j13_L3.toNatClampNeg (j13_A4 y_30.toNatClampNeg)) (upd j13_A5 j13_L3.toNatClampNeg (j13_A5 y_44.toNatClampNeg)) (upd j13_A6 j13_L3.toNatClampNeg (j13_A6 y_58.toNatClampNeg)) (upd j13_A7 j13_L3.toNatClampNeg (j13_A7 y_72.toNatClampNeg)) y_75 (iR_w f_75_6 (by decide +kernel)) (m_up (B := 49) hm_13 ey_75 f_19_1 (by decide +kernel)) H locs ls hP hD hS (lv_sub hl [1, 2, 3, 0] rfl)
    refine lv_istore_n (lv' := [(3, .int 0), (0, .ref h), (1, .int x1), (2, .int x2)]) hx hb dX7_writesDown_12 rfl hl (by decide) rfl (fun ls hl => ?_)
    exact J_13 _ f54 f55 f56 f57 0 (iR_c (n := 0) (a := 0) (b := 49) (by decide +kernel) (by decide +kernel)) (Nat.lt_succ_self _) H locs ls hP hD hS (lv_sub hl [1, 2, 3, 0] rfl)
set_option maxHeartbeats 8000000 in
set_option maxRecDepth 100000 in
theorem s_X7_isOwn_v8 (l : Launch) (dC : Nat → ClassId) (dI : Nat → Nat → Nat) (cI cJ cZ cM : ClassId) (h : Nat) (x1 : Int64)  : k_Mi l yX7_isOwn wsX7_isOwn ({ frames := 1, cells := 0, slots := 0, locals := 40 }) (dC, dI) vwCl (tyy cI cJ cZ cM) [] [.ref h, .long x1] 0 0 (fun (u9 : Unit) => []) (fun (r9 : Int32) (u9 : Unit) => (iR r9 0 1)) := by
  refine fun sz => k_enter (cc := cX7_isOwn) (maxL := 3) (ret := some (.boolean)) (Qc := fun A => va_Qi (fun (r9 : Int32) (u9 : Unit) => (iR r9 0 1)) (fun u => k_B (dC, dI) vwCl (tyy cI cJ cZ cM) A ((fun (u9 : Unit) => []) u)) A) sz (by decide +kernel) rfl (Nat.le_of_ble_eq_true rfl) (fun p e s m args below meth c A ls H locs B hP hD hS hl => ?_)
  obtain ⟨hx, hb, hml, hown, hts, hr, hlk, hnm, hK, hA, hN, hC⟩ := id B
  have hown : s.vm.findClass RX7 = some m.cls := hown
  have hl : lv_has ls 3 [(0, .ref h), (1, .long x1)] := hl
  have w_0 : (Cond.constantLong RX7 323 (499967946343)).before args s = true := hts _ (List.mem_of_getElem? (i := 1) rfl)
  have w_1 : (Cond.constantLong RX7 325 (512970880104)).before args s = true := hts _ (List.mem_of_getElem? (i := 2) rfl)
  have w_2 : (Cond.constantLong RX7 327 (125793039377779)).before args s = true := hts _ (List.mem_of_getElem? (i := 3) rfl)
  have w_3 : (Cond.constantLong RX7 329 (422826304870)).before args s = true := hts _ (List.mem_of_getElem? (i := 4) rfl)
  have w_4 : (Cond.constantLong RX7 331 (2003399528)).before args s = true := hts _ (List.mem_of_getElem? (i := 5) rfl)
  have w_5 : (Cond.constantLong RX7 333 (512970876019)).before args s = true := hts _ (List.mem_of_getElem? (i := 6) rfl)
  have w_6 : (Cond.constantLong RX7 335 (444150998387)).before args s = true := hts _ (List.mem_of_getElem? (i := 7) rfl)
  have w_7 : (Cond.constantLong RX7 337 (474147546227)).before args s = true := hts _ (List.mem_of_getElem? (i := 8) rfl)
  have w_8 : (Cond.constantLong RX7 339 (1970496883)).before args s = true := hts _ (List.mem_of_getElem? (i := 9) rfl)
  have w_9 : (Cond.constantLong RX7 341 (439855772532)).before args s = true := hts _ (List.mem_of_getElem? (i := 10) rfl)
  have w_10 : (Cond.constantLong RX7 343 (1684107883)).before args s = true := hts _ (List.mem_of_getElem? (i := 11) rfl)
  have w_11 : (Cond.constantLong RX7 345 (1919905645)).before args s = true := hts _ (List.mem_of_getElem? (i := 12) rfl)
  have w_12 : (Cond.constantLong RX7 347 (27988542884245108)).before args s = true := hts _ (List.mem_of_getElem? (i := 13) rfl)
  have w_13 : (Cond.constantLong RX7 349 (422607680115)).before args s = true := hts _ (List.mem_of_getElem? (i := 14) rfl)
  have w_14 : (Cond.constantLong RX7 351 (1667329133)).before args s = true := hts _ (List.mem_of_getElem? (i := 15) rfl)
  have w_15 : (Cond.constantLong RX7 353 (6840676)).before args s = true := hts _ (List.mem_of_getElem? (i := 16) rfl)
  have w_16 : (Cond.constantLong RX7 355 (7562593)).before args s = true := hts _ (List.mem_of_getElem? (i := 17) rfl)
  have w_17 : (Cond.constantLong RX7 357 (1935763812)).before args s = true := hts _ (List.mem_of_getElem? (i := 18) rfl)
  have w_18 : (Cond.constantLong RX7 359 (6578553)).before args s = true := hts _ (List.mem_of_getElem? (i := 19) rfl)
  have w_19 : (Cond.constantLong RX7 361 (28530)).before args s = true := hts _ (List.mem_of_getElem? (i := 20) rfl)
  have w_20 : (Cond.constantLong RX7 363 (6385252)).before args s = true := hts _ (List.mem_of_getElem? (i := 21) rfl)
  have w_21 : (Cond.constantLong RX7 365 (7237492)).before args s = true := hts _ (List.mem_of_getElem? (i := 22) rfl)
  have w_22 : (Cond.constantLong RX7 367 (6384748)).before args s = true := hts _ (List.mem_of_getElem? (i := 23) rfl)
  have w_23 : (Cond.constantLong RX7 369 (7170414)).before args s = true := hts _ (List.mem_of_getElem? (i := 24) rfl)
  have w_24 : (Cond.constantLong RX7 371 (7168376)).before args s = true := hts _ (List.mem_of_getElem? (i := 25) rfl)
  refine lv_lload_n hx hb dX7_isOwn_0 rfl (lv_at hl 1 rfl) ?_
  refine lv_ldc2 (v := 499967946343) hx hb hown w_0 dX7_isOwn_1 ?_
  refine W.lcmp hx hb dX7_isOwn_4 ?_
  refine lv_topi (fun y_4 ey_4 => ?_)
  have J_40 : ∀   (H : Heap) (locs : List Loc) (ls : Array Slot), va_P (dC, dI) vwCl [] H → va_D A [] → va_S A s.heap H locs → lv_has ls 3 [] → W p l e ({ frames := 1, cells := 0, slots := 0, locals := 40 }) s m args below meth c H locs 0 0 (MQ below (va_Qi (fun (r9 : Int32) (u9 : Unit) => (iR r9 0 1)) (fun u => k_B (dC, dI) vwCl (tyy cI cJ cZ cM) A ((fun (u9 : Unit) => []) u)) A) args s 0 0 A) (F0 m 40 ls []) := by
    intro   H locs ls hP hD hS hl
    refine lv_iconst (v := 1) hx hb dX7_isOwn_40 (by decide +kernel) ?_
    exact k_ri B hP hD hS dX7_isOwn_41 () [] rfl rfl rfl (Nat.le_of_ble_eq_true rfl) (Nat.le_of_ble_eq_true rfl) (iR_c (n := 1) (a := 0) (b := 1) (by decide +kernel) (by decide +kernel))
  refine lv_if_eq (tgt := 40) hx hb dX7_isOwn_5 (by decide) (fun c_5 => ?_) (fun c_5 => ?_)
  · have c_5 : y_4 = 0 := c_5
    have f_40_1 : iR y_4 0 0 := iR_eqL c_5 (iR_top _) (iR_c (n := 0) (a := 0) (b := 0) (by decide +kernel) (by decide +kernel)) (by decide +kernel)
    have lc_5 : x1 = 499967946343 := l_cmpe ey_4 c_5
    exact J_40   H locs ls hP hD hS (lv_sub hl [] rfl)
  · have c_5 : ¬ y_4 = 0 := c_5
    have lc_5 : ¬ x1 = 499967946343 := l_cmpne ey_4 c_5
    refine lv_lload_n hx hb dX7_isOwn_8 rfl (lv_at hl 1 rfl) ?_
    refine lv_ldc2 (v := 512970880104) hx hb hown w_1 dX7_isOwn_9 ?_
    refine W.lcmp hx hb dX7_isOwn_12 ?_
    refine lv_topi (fun y_12 ey_12 => ?_)
    refine lv_if_eq (tgt := 40) hx hb dX7_isOwn_13 (by decide) (fun c_13 => ?_) (fun c_13 => ?_)
    · have c_13 : y_12 = 0 := c_13
      have f_40_1 : iR y_12 0 0 := iR_eqL c_13 (iR_top _) (iR_c (n := 0) (a := 0) (b := 0) (by decide +kernel) (by decide +kernel)) (by decide +kernel)
      have lc_13 : x1 = 512970880104 := l_cmpe ey_12 c_13
      exact J_40   H locs ls hP hD hS (lv_sub hl [] rfl)
    · have c_13 : ¬ y_12 = 0 := c_13
      have lc_13 : ¬ x1 = 512970880104 := l_cmpne ey_12 c_13
      refine lv_lload_n hx hb dX7_isOwn_16 rfl (lv_at hl 1 rfl) ?_
      refine lv_ldc2 (v := 125793039377779) hx hb hown w_2 dX7_isOwn_17 ?_
      refine W.lcmp hx hb dX7_isOwn_20 ?_
      refine lv_topi (fun y_20 ey_20 => ?_)
      refine lv_if_eq (tgt := 40) hx hb dX7_isOwn_21 (by decide) (fun c_21 => ?_) (fun c_21 => ?_)
      · have c_21 : y_20 = 0 := c_21
        have f_40_1 : iR y_20 0 0 := iR_eqL c_21 (iR_top _) (iR_c (n := 0) (a := 0) (b := 0) (by decide +kernel) (by decide +kernel)) (by decide +kernel)
        have lc_21 : x1 = 125793039377779 := l_cmpe ey_20 c_21
        exact J_40   H locs ls hP hD hS (lv_sub hl [] rfl)
      · have c_21 : ¬ y_20 = 0 := c_21
        have lc_21 : ¬ x1 = 125793039377779 := l_cmpne ey_20 c_21
        refine lv_lload_n hx hb dX7_isOwn_24 rfl (lv_at hl 1 rfl) ?_
        refine lv_ldc2 (v := 422826304870) hx hb hown w_3 dX7_isOwn_25 ?_
        refine W.lcmp hx hb dX7_isOwn_28 ?_
        refine lv_topi (fun y_28 ey_28 => ?_)
        refine lv_if_eq (tgt := 40) hx hb dX7_isOwn_29 (by decide) (fun c_29 => ?_) (fun c_29 => ?_)
        · have c_29 : y_28 = 0 := c_29
          have f_40_1 : iR y_28 0 0 := iR_eqL c_29 (iR_top _) (iR_c (n := 0) (a := 0) (b := 0) (by decide +kernel) (by decide +kernel)) (by decide +kernel)
          have lc_29 : x1 = 422826304870 := l_cmpe ey_28 c_29
          exact J_40   H locs ls hP hD hS (lv_sub hl [] rfl)
        · have c_29 : ¬ y_28 = 0 := c_29
          have lc_29 : ¬ x1 = 422826304870 := l_cmpne ey_28 c_29
          refine lv_lload_n hx hb dX7_isOwn_32 rfl (lv_at hl 1 rfl) ?_
          refine lv_ldc2 (v := 2003399528) hx hb hown w_4 dX7_isOwn_33 ?_
          refine W.lcmp hx hb dX7_isOwn_36 ?_
          refine lv_topi (fun y_36 ey_36 => ?_)
          refine lv_if_ne (tgt := 42) hx hb dX7_isOwn_37 (by decide) (fun c_37 => ?_) (fun c_37 => ?_)
          · have c_37 : ¬ y_36 = 0 := c_37
            have lc_37 : ¬ x1 = 2003399528 := l_cmpne ey_36 c_37
            refine lv_lload_n hx hb dX7_isOwn_42 rfl (lv_at hl 1 rfl) ?_
            refine lv_ldc2 (v := 512970876019) hx hb hown w_5 dX7_isOwn_43 ?_
            refine W.lcmp hx hb dX7_isOwn_46 ?_
            refine lv_topi (fun y_46 ey_46 => ?_)
            have J_82 : ∀   (H : Heap) (locs : List Loc) (ls : Array Slot), va_P (dC, dI) vwCl [] H → va_D A [] → va_S A s.heap H locs → lv_has ls 3 [] → W p l e ({ frames := 1, cells := 0, slots := 0, locals := 40 }) s m args below meth c H locs 0 0 (MQ below (va_Qi (fun (r9 : Int32) (u9 : Unit) => (iR r9 0 1)) (fun u => k_B (dC, dI) vwCl (tyy cI cJ cZ cM) A ((fun (u9 : Unit) => []) u)) A) args s 0 0 A) (F0 m 82 ls []) := by
              intro   H locs ls hP hD hS hl
              refine lv_iconst (v := 1) hx hb dX7_isOwn_82 (by decide +kernel) ?_
              exact k_ri B hP hD hS dX7_isOwn_83 () [] rfl rfl rfl (Nat.le_of_ble_eq_true rfl) (Nat.le_of_ble_eq_true rfl) (iR_c (n := 1) (a := 0) (b := 1) (by decide +kernel) (by decide +kernel))
            refine lv_if_eq (tgt := 82) hx hb dX7_isOwn_47 (by decide) (fun c_47 => ?_) (fun c_47 => ?_)
            · have c_47 : y_46 = 0 := c_47
              have f_82_1 : iR y_46 0 0 := iR_eqL c_47 (iR_top _) (iR_c (n := 0) (a := 0) (b := 0) (by decide +kernel) (by decide +kernel)) (by decide +kernel)
              have lc_47 : x1 = 512970876019 := l_cmpe ey_46 c_47
              exact J_82   H locs ls hP hD hS (lv_sub hl [] rfl)
            · have c_47 : ¬ y_46 = 0 := c_47
              have lc_47 : ¬ x1 = 512970876019 := l_cmpne ey_46 c_47
              refine lv_lload_n hx hb dX7_isOwn_50 rfl (lv_at hl 1 rfl) ?_
              refine lv_ldc2 (v := 444150998387) hx hb hown w_6 dX7_isOwn_51 ?_
              refine W.lcmp hx hb dX7_isOwn_54 ?_
              refine lv_topi (fun y_54 ey_54 => ?_)
              refine lv_if_eq (tgt := 82) hx hb dX7_isOwn_55 (by decide) (fun c_55 => ?_) (fun c_55 => ?_)
              · have c_55 : y_54 = 0 := c_55
                have f_82_1 : iR y_54 0 0 := iR_eqL c_55 (iR_top _) (iR_c (n := 0) (a := 0) (b := 0) (by decide +kernel) (by decide +kernel)) (by decide +kernel)
                have lc_55 : x1 = 444150998387 := l_cmpe ey_54 c_55
                exact J_82   H locs ls hP hD hS (lv_sub hl [] rfl)
              · have c_55 : ¬ y_54 = 0 := c_55
                have lc_55 : ¬ x1 = 444150998387 := l_cmpne ey_54 c_55
                refine lv_lload_n hx hb dX7_isOwn_58 rfl (lv_at hl 1 rfl) ?_
                refine lv_ldc2 (v := 474147546227) hx hb hown w_7 dX7_isOwn_59 ?_
                refine W.lcmp hx hb dX7_isOwn_62 ?_
                refine lv_topi (fun y_62 ey_62 => ?_)
                refine lv_if_eq (tgt := 82) hx hb dX7_isOwn_63 (by decide) (fun c_63 => ?_) (fun c_63 => ?_)
                · have c_63 : y_62 = 0 := c_63
                  have f_82_1 : iR y_62 0 0 := iR_eqL c_63 (iR_top _) (iR_c (n := 0) (a := 0) (b := 0) (by decide +kernel) (by decide +kernel)) (by decide +kernel)
                  have lc_63 : x1 = 474147546227 := l_cmpe ey_62 c_63
                  exact J_82   H locs ls hP hD hS (lv_sub hl [] rfl)
                · have c_63 : ¬ y_62 = 0 := c_63
                  have lc_63 : ¬ x1 = 474147546227 := l_cmpne ey_62 c_63
                  refine lv_lload_n hx hb dX7_isOwn_66 rfl (lv_at hl 1 rfl) ?_
                  refine lv_ldc2 (v := 1970496883) hx hb hown w_8 dX7_isOwn_67 ?_
                  refine W.lcmp hx hb dX7_isOwn_70 ?_
                  refine lv_topi (fun y_70 ey_70 => ?_)
                  refine lv_if_eq (tgt := 82) hx hb dX7_isOwn_71 (by decide) (fun c_71 => ?_) (fun c_71 => ?_)
                  · have c_71 : y_70 = 0 := c_71
                    have f_82_1 : iR y_70 0 0 := iR_eqL c_71 (iR_top _) (iR_c (n := 0) (a := 0) (b := 0) (by decide +kernel) (by decide +kernel)) (by decide +kernel)
                    have lc_71 : x1 = 1970496883 := l_cmpe ey_70 c_71
                    exact J_82   H locs ls hP hD hS (lv_sub hl [] rfl)
                  · have c_71 : ¬ y_70 = 0 := c_71
                    have lc_71 : ¬ x1 = 1970496883 := l_cmpne ey_70 c_71
                    refine lv_lload_n hx hb dX7_isOwn_74 rfl (lv_at hl 1 rfl) ?_
                    refine lv_ldc2 (v := 439855772532) hx hb hown w_9 dX7_isOwn_75 ?_
                    refine W.lcmp hx hb dX7_isOwn_78 ?_
                    refine lv_topi (fun y_78 ey_78 => ?_)
                    refine lv_if_ne (tgt := 84) hx hb dX7_isOwn_79 (by decide) (fun c_79 => ?_) (fun c_79 => ?_)
                    · have c_79 : ¬ y_78 = 0 := c_79
                      have lc_79 : ¬ x1 = 439855772532 := l_cmpne ey_78 c_79
                      refine lv_lload_n hx hb dX7_isOwn_84 rfl (lv_at hl 1 rfl) ?_
                      refine lv_ldc2 (v := 1684107883) hx hb hown w_10 dX7_isOwn_85 ?_
                      refine W.lcmp hx hb dX7_isOwn_88 ?_
                      refine lv_topi (fun y_88 ey_88 => ?_)
                      have J_124 : ∀   (H : Heap) (locs : List Loc) (ls : Array Slot), va_P (dC, dI) vwCl [] H → va_D A [] → va_S A s.heap H locs → lv_has ls 3 [] → W p l e ({ frames := 1, cells := 0, slots := 0, locals := 40 }) s m args below meth c H locs 0 0 (MQ below (va_Qi (fun (r9 : Int32) (u9 : Unit) => (iR r9 0 1)) (fun u => k_B (dC, dI) vwCl (tyy cI cJ cZ cM) A ((fun (u9 : Unit) => []) u)) A) args s 0 0 A) (F0 m 124 ls []) := by
                        intro   H locs ls hP hD hS hl
                        refine lv_iconst (v := 1) hx hb dX7_isOwn_124 (by decide +kernel) ?_
                        exact k_ri B hP hD hS dX7_isOwn_125 () [] rfl rfl rfl (Nat.le_of_ble_eq_true rfl) (Nat.le_of_ble_eq_true rfl) (iR_c (n := 1) (a := 0) (b := 1) (by decide +kernel) (by decide +kernel))
                      refine lv_if_eq (tgt := 124) hx hb dX7_isOwn_89 (by decide) (fun c_89 => ?_) (fun c_89 => ?_)
                      · have c_89 : y_88 = 0 := c_89
                        have f_124_1 : iR y_88 0 0 := iR_eqL c_89 (iR_top _) (iR_c (n := 0) (a := 0) (b := 0) (by decide +kernel) (by decide +kernel)) (by decide +kernel)
                        have lc_89 : x1 = 1684107883 := l_cmpe ey_88 c_89
                        exact J_124   H locs ls hP hD hS (lv_sub hl [] rfl)
                      · have c_89 : ¬ y_88 = 0 := c_89
                        have lc_89 : ¬ x1 = 1684107883 := l_cmpne ey_88 c_89
                        refine lv_lload_n hx hb dX7_isOwn_92 rfl (lv_at hl 1 rfl) ?_
                        refine lv_ldc2 (v := 1919905645) hx hb hown w_11 dX7_isOwn_93 ?_
                        refine W.lcmp hx hb dX7_isOwn_96 ?_
                        refine lv_topi (fun y_96 ey_96 => ?_)
                        refine lv_if_eq (tgt := 124) hx hb dX7_isOwn_97 (by decide) (fun c_97 => ?_) (fun c_97 => ?_)
                        · have c_97 : y_96 = 0 := c_97
                          have f_124_1 : iR y_96 0 0 := iR_eqL c_97 (iR_top _) (iR_c (n := 0) (a := 0) (b := 0) (by decide +kernel) (by decide +kernel)) (by decide +kernel)
                          have lc_97 : x1 = 1919905645 := l_cmpe ey_96 c_97
                          exact J_124   H locs ls hP hD hS (lv_sub hl [] rfl)
                        · have c_97 : ¬ y_96 = 0 := c_97
                          have lc_97 : ¬ x1 = 1919905645 := l_cmpne ey_96 c_97
                          refine lv_lload_n hx hb dX7_isOwn_100 rfl (lv_at hl 1 rfl) ?_
                          refine lv_ldc2 (v := 27988542884245108) hx hb hown w_12 dX7_isOwn_101 ?_
                          refine W.lcmp hx hb dX7_isOwn_104 ?_
                          refine lv_topi (fun y_104 ey_104 => ?_)
                          refine lv_if_eq (tgt := 124) hx hb dX7_isOwn_105 (by decide) (fun c_105 => ?_) (fun c_105 => ?_)
                          · have c_105 : y_104 = 0 := c_105
                            have f_124_1 : iR y_104 0 0 := iR_eqL c_105 (iR_top _) (iR_c (n := 0) (a := 0) (b := 0) (by decide +kernel) (by decide +kernel)) (by decide +kernel)
                            have lc_105 : x1 = 27988542884245108 := l_cmpe ey_104 c_105
                            exact J_124   H locs ls hP hD hS (lv_sub hl [] rfl)
                          · have c_105 : ¬ y_104 = 0 := c_105
                            have lc_105 : ¬ x1 = 27988542884245108 := l_cmpne ey_104 c_105
                            refine lv_lload_n hx hb dX7_isOwn_108 rfl (lv_at hl 1 rfl) ?_
                            refine lv_ldc2 (v := 422607680115) hx hb hown w_13 dX7_isOwn_109 ?_
                            refine W.lcmp hx hb dX7_isOwn_112 ?_
                            refine lv_topi (fun y_112 ey_112 => ?_)
                            refine lv_if_eq (tgt := 124) hx hb dX7_isOwn_113 (by decide) (fun c_113 => ?_) (fun c_113 => ?_)
                            · have c_113 : y_112 = 0 := c_113
                              have f_124_1 : iR y_112 0 0 := iR_eqL c_113 (iR_top _) (iR_c (n := 0) (a := 0) (b := 0) (by decide +kernel) (by decide +kernel)) (by decide +kernel)
                              have lc_113 : x1 = 422607680115 := l_cmpe ey_112 c_113
                              exact J_124   H locs ls hP hD hS (lv_sub hl [] rfl)
                            · have c_113 : ¬ y_112 = 0 := c_113
                              have lc_113 : ¬ x1 = 422607680115 := l_cmpne ey_112 c_113
                              refine lv_lload_n hx hb dX7_isOwn_116 rfl (lv_at hl 1 rfl) ?_
                              refine lv_ldc2 (v := 1667329133) hx hb hown w_14 dX7_isOwn_117 ?_
                              refine W.lcmp hx hb dX7_isOwn_120 ?_
                              refine lv_topi (fun y_120 ey_120 => ?_)
                              refine lv_if_ne (tgt := 126) hx hb dX7_isOwn_121 (by decide) (fun c_121 => ?_) (fun c_121 => ?_)
                              · have c_121 : ¬ y_120 = 0 := c_121
                                have lc_121 : ¬ x1 = 1667329133 := l_cmpne ey_120 c_121
                                refine lv_lload_n hx hb dX7_isOwn_126 rfl (lv_at hl 1 rfl) ?_
                                refine lv_ldc2 (v := 6840676) hx hb hown w_15 dX7_isOwn_127 ?_
                                refine W.lcmp hx hb dX7_isOwn_130 ?_
                                refine lv_topi (fun y_130 ey_130 => ?_)
                                have J_166 : ∀   (H : Heap) (locs : List Loc) (ls : Array Slot), va_P (dC, dI) vwCl [] H → va_D A [] → va_S A s.heap H locs → lv_has ls 3 [] → W p l e ({ frames := 1, cells := 0, slots := 0, locals := 40 }) s m args below meth c H locs 0 0 (MQ below (va_Qi (fun (r9 : Int32) (u9 : Unit) => (iR r9 0 1)) (fun u => k_B (dC, dI) vwCl (tyy cI cJ cZ cM) A ((fun (u9 : Unit) => []) u)) A) args s 0 0 A) (F0 m 166 ls []) := by
                                  intro   H locs ls hP hD hS hl
                                  refine lv_iconst (v := 1) hx hb dX7_isOwn_166 (by decide +kernel) ?_
                                  exact k_ri B hP hD hS dX7_isOwn_167 () [] rfl rfl rfl (Nat.le_of_ble_eq_true rfl) (Nat.le_of_ble_eq_true rfl) (iR_c (n := 1) (a := 0) (b := 1) (by decide +kernel) (by decide +kernel))
                                refine lv_if_eq (tgt := 166) hx hb dX7_isOwn_131 (by decide) (fun c_131 => ?_) (fun c_131 => ?_)
                                · have c_131 : y_130 = 0 := c_131
                                  have f_166_1 : iR y_130 0 0 := iR_eqL c_131 (iR_top _) (iR_c (n := 0) (a := 0) (b := 0) (by decide +kernel) (by decide +kernel)) (by decide +kernel)
                                  have lc_131 : x1 = 6840676 := l_cmpe ey_130 c_131
                                  exact J_166   H locs ls hP hD hS (lv_sub hl [] rfl)
                                · have c_131 : ¬ y_130 = 0 := c_131
                                  have lc_131 : ¬ x1 = 6840676 := l_cmpne ey_130 c_131
                                  refine lv_lload_n hx hb dX7_isOwn_134 rfl (lv_at hl 1 rfl) ?_
                                  refine lv_ldc2 (v := 7562593) hx hb hown w_16 dX7_isOwn_135 ?_
                                  refine W.lcmp hx hb dX7_isOwn_138 ?_
                                  refine lv_topi (fun y_138 ey_138 => ?_)
                                  refine lv_if_eq (tgt := 166) hx hb dX7_isOwn_139 (by decide) (fun c_139 => ?_) (fun c_139 => ?_)
                                  · have c_139 : y_138 = 0 := c_139
                                    have f_166_1 : iR y_138 0 0 := iR_eqL c_139 (iR_top _) (iR_c (n := 0) (a := 0) (b := 0) (by decide +kernel) (by decide +kernel)) (by decide +kernel)
                                    have lc_139 : x1 = 7562593 := l_cmpe ey_138 c_139
                                    exact J_166   H locs ls hP hD hS (lv_sub hl [] rfl)
                                  · have c_139 : ¬ y_138 = 0 := c_139
                                    have lc_139 : ¬ x1 = 7562593 := l_cmpne ey_138 c_139
                                    refine lv_lload_n hx hb dX7_isOwn_142 rfl (lv_at hl 1 rfl) ?_
                                    refine lv_ldc2 (v := 1935763812) hx hb hown w_17 dX7_isOwn_143 ?_
                                    refine W.lcmp hx hb dX7_isOwn_146 ?_
                                    refine lv_topi (fun y_146 ey_146 => ?_)
                                    refine lv_if_eq (tgt := 166) hx hb dX7_isOwn_147 (by decide) (fun c_147 => ?_) (fun c_147 => ?_)
                                    · have c_147 : y_146 = 0 := c_147
                                      have f_166_1 : iR y_146 0 0 := iR_eqL c_147 (iR_top _) (iR_c (n := 0) (a := 0) (b := 0) (by decide +kernel) (by decide +kernel)) (by decide +kernel)
                                      have lc_147 : x1 = 1935763812 := l_cmpe ey_146 c_147
                                      exact J_166   H locs ls hP hD hS (lv_sub hl [] rfl)
                                    · have c_147 : ¬ y_146 = 0 := c_147
                                      have lc_147 : ¬ x1 = 1935763812 := l_cmpne ey_146 c_147
                                      refine lv_lload_n hx hb dX7_isOwn_150 rfl (lv_at hl 1 rfl) ?_
                                      refine lv_ldc2 (v := 6578553) hx hb hown w_18 dX7_isOwn_151 ?_
                                      refine W.lcmp hx hb dX7_isOwn_154 ?_
                                      refine lv_topi (fun y_154 ey_154 => ?_)
                                      refine lv_if_eq (tgt := 166) hx hb dX7_isOwn_155 (by decide) (fun c_155 => ?_) (fun c_155 => ?_)
                                      · have c_155 : y_154 = 0 := c_155
                                        have f_166_1 : iR y_154 0 0 := iR_eqL c_155 (iR_top _) (iR_c (n := 0) (a := 0) (b := 0) (by decide +kernel) (by decide +kernel)) (by decide +kernel)
                                        have lc_155 : x1 = 6578553 := l_cmpe ey_154 c_155
                                        exact J_166   H locs ls hP hD hS (lv_sub hl [] rfl)
                                      · have c_155 : ¬ y_154 = 0 := c_155
                                        have lc_155 : ¬ x1 = 6578553 := l_cmpne ey_154 c_155
                                        refine lv_lload_n hx hb dX7_isOwn_158 rfl (lv_at hl 1 rfl) ?_
                                        refine lv_ldc2 (v := 28530) hx hb hown w_19 dX7_isOwn_159 ?_
                                        refine W.lcmp hx hb dX7_isOwn_162 ?_
                                        refine lv_topi (fun y_162 ey_162 => ?_)
                                        refine lv_if_ne (tgt := 168) hx hb dX7_isOwn_163 (by decide) (fun c_163 => ?_) (fun c_163 => ?_)
                                        · have c_163 : ¬ y_162 = 0 := c_163
                                          have lc_163 : ¬ x1 = 28530 := l_cmpne ey_162 c_163
                                          refine lv_lload_n hx hb dX7_isOwn_168 rfl (lv_at hl 1 rfl) ?_
                                          refine lv_ldc2 (v := 6385252) hx hb hown w_20 dX7_isOwn_169 ?_
                                          refine W.lcmp hx hb dX7_isOwn_172 ?_
                                          refine lv_topi (fun y_172 ey_172 => ?_)
                                          have J_208 : ∀   (H : Heap) (locs : List Loc) (ls : Array Slot), va_P (dC, dI) vwCl [] H → va_D A [] → va_S A s.heap H locs → lv_has ls 3 [] → W p l e ({ frames := 1, cells := 0, slots := 0, locals := 40 }) s m args below meth c H locs 0 0 (MQ below (va_Qi (fun (r9 : Int32) (u9 : Unit) => (iR r9 0 1)) (fun u => k_B (dC, dI) vwCl (tyy cI cJ cZ cM) A ((fun (u9 : Unit) => []) u)) A) args s 0 0 A) (F0 m 208 ls []) := by
                                            intro   H locs ls hP hD hS hl
                                            refine lv_iconst (v := 1) hx hb dX7_isOwn_208 (by decide +kernel) ?_
                                            exact k_ri B hP hD hS dX7_isOwn_209 () [] rfl rfl rfl (Nat.le_of_ble_eq_true rfl) (Nat.le_of_ble_eq_true rfl) (iR_c (n := 1) (a := 0) (b := 1) (by decide +kernel) (by decide +kernel))
                                          refine lv_if_eq (tgt := 208) hx hb dX7_isOwn_173 (by decide) (fun c_173 => ?_) (fun c_173 => ?_)
                                          · have c_173 : y_172 = 0 := c_173
                                            have f_208_1 : iR y_172 0 0 := iR_eqL c_173 (iR_top _) (iR_c (n := 0) (a := 0) (b := 0) (by decide +kernel) (by decide +kernel)) (by decide +kernel)
                                            have lc_173 : x1 = 6385252 := l_cmpe ey_172 c_173
                                            exact J_208   H locs ls hP hD hS (lv_sub hl [] rfl)
                                          · have c_173 : ¬ y_172 = 0 := c_173
                                            have lc_173 : ¬ x1 = 6385252 := l_cmpne ey_172 c_173
                                            refine lv_lload_n hx hb dX7_isOwn_176 rfl (lv_at hl 1 rfl) ?_
                                            refine lv_ldc2 (v := 7237492) hx hb hown w_21 dX7_isOwn_177 ?_
                                            refine W.lcmp hx hb dX7_isOwn_180 ?_
                                            refine lv_topi (fun y_180 ey_180 => ?_)
                                            refine lv_if_eq (tgt := 208) hx hb dX7_isOwn_181 (by decide) (fun c_181 => ?_) (fun c_181 => ?_)
                                            · have c_181 : y_180 = 0 := c_181
                                              have f_208_1 : iR y_180 0 0 := iR_eqL c_181 (iR_top _) (iR_c (n := 0) (a := 0) (b := 0) (by decide +kernel) (by decide +kernel)) (by decide +kernel)
                                              have lc_181 : x1 = 7237492 := l_cmpe ey_180 c_181
                                              exact J_208   H locs ls hP hD hS (lv_sub hl [] rfl)
                                            · have c_181 : ¬ y_180 = 0 := c_181
                                              have lc_181 : ¬ x1 = 7237492 := l_cmpne ey_180 c_181
                                              refine lv_lload_n hx hb dX7_isOwn_184 rfl (lv_at hl 1 rfl) ?_
                                              refine lv_ldc2 (v := 6384748) hx hb hown w_22 dX7_isOwn_185 ?_
                                              refine W.lcmp hx hb dX7_isOwn_188 ?_
                                              refine lv_topi (fun y_188 ey_188 => ?_)
                                              refine lv_if_eq (tgt := 208) hx hb dX7_isOwn_189 (by decide) (fun c_189 => ?_) (fun c_189 => ?_)
                                              · have c_189 : y_188 = 0 := c_189
                                                have f_208_1 : iR y_188 0 0 := iR_eqL c_189 (iR_top _) (iR_c (n := 0) (a := 0) (b := 0) (by decide +kernel) (by decide +kernel)) (by decide +kernel)
                                                have lc_189 : x1 = 6384748 := l_cmpe ey_188 c_189
                                                exact J_208   H locs ls hP hD hS (lv_sub hl [] rfl)
                                              · have c_189 : ¬ y_188 = 0 := c_189
                                                have lc_189 : ¬ x1 = 6384748 := l_cmpne ey_188 c_189
                                                refine lv_lload_n hx hb dX7_isOwn_192 rfl (lv_at hl 1 rfl) ?_
                                                refine lv_ldc2 (v := 7170414) hx hb hown w_23 dX7_isOwn_193 ?_
                                                refine W.lcmp hx hb dX7_isOwn_196 ?_
                                                refine lv_topi (fun y_196 ey_196 => ?_)
                                                refine lv_if_eq (tgt := 208) hx hb dX7_isOwn_197 (by decide) (fun c_197 => ?_) (fun c_197 => ?_)
                                                · have c_197 : y_196 = 0 := c_197
                                                  have f_208_1 : iR y_196 0 0 := iR_eqL c_197 (iR_top _) (iR_c (n := 0) (a := 0) (b := 0) (by decide +kernel) (by decide +kernel)) (by decide +kernel)
                                                  have lc_197 : x1 = 7170414 := l_cmpe ey_196 c_197
                                                  exact J_208   H locs ls hP hD hS (lv_sub hl [] rfl)
                                                · have c_197 : ¬ y_196 = 0 := c_197
                                                  have lc_197 : ¬ x1 = 7170414 := l_cmpne ey_196 c_197
                                                  refine lv_lload_n hx hb dX7_isOwn_200 rfl (lv_at hl 1 rfl) ?_
                                                  refine lv_ldc2 (v := 7168376) hx hb hown w_24 dX7_isOwn_201 ?_
                                                  refine W.lcmp hx hb dX7_isOwn_204 ?_
                                                  refine lv_topi (fun y_204 ey_204 => ?_)
                                                  refine lv_if_ne (tgt := 210) hx hb dX7_isOwn_205 (by decide) (fun c_205 => ?_) (fun c_205 => ?_)
                                                  · have c_205 : ¬ y_204 = 0 := c_205
                                                    have lc_205 : ¬ x1 = 7168376 := l_cmpne ey_204 c_205
                                                    refine lv_iconst (v := 0) hx hb dX7_isOwn_210 (by decide +kernel) ?_
                                                    exact k_ri B hP hD hS dX7_isOwn_211 () [] rfl rfl rfl (Nat.le_of_ble_eq_true rfl) (Nat.le_of_ble_eq_true rfl) (iR_c (n := 0) (a := 0) (b := 1) (by decide +kernel) (by decide +kernel))
                                                  · have c_205 : y_204 = 0 := c_205
                                                    have f_208_1 : iR y_204 0 0 := iR_eqL c_205 (iR_top _) (iR_c (n := 0) (a := 0) (b := 0) (by decide +kernel) (by decide +kernel)) (by decide +kernel)
                                                    have lc_205 : x1 = 7168376 := l_cmpe ey_204 c_205
                                                    exact J_208   H locs ls hP hD hS (lv_sub hl [] rfl)
                                        · have c_163 : y_162 = 0 := c_163
                                          have f_166_1 : iR y_162 0 0 := iR_eqL c_163 (iR_top _) (iR_c (n := 0) (a := 0) (b := 0) (by decide +kernel) (by decide +kernel)) (by decide +kernel)
                                          have lc_163 : x1 = 28530 := l_cmpe ey_162 c_163
                                          exact J_166   H locs ls hP hD hS (lv_sub hl [] rfl)
                              · have c_121 : y_120 = 0 := c_121
                                have f_124_1 : iR y_120 0 0 := iR_eqL c_121 (iR_top _) (iR_c (n := 0) (a := 0) (b := 0) (by decide +kernel) (by decide +kernel)) (by decide +kernel)
                                have lc_121 : x1 = 1667329133 := l_cmpe ey_120 c_121
                                exact J_124   H locs ls hP hD hS (lv_sub hl [] rfl)
                    · have c_79 : y_78 = 0 := c_79
                      have f_82_1 : iR y_78 0 0 := iR_eqL c_79 (iR_top _) (iR_c (n := 0) (a := 0) (b := 0) (by decide +kernel) (by decide +kernel)) (by decide +kernel)
                      have lc_79 : x1 = 439855772532 := l_cmpe ey_78 c_79
                      exact J_82   H locs ls hP hD hS (lv_sub hl [] rfl)
          · have c_37 : y_36 = 0 := c_37
            have f_40_1 : iR y_36 0 0 := iR_eqL c_37 (iR_top _) (iR_c (n := 0) (a := 0) (b := 0) (by decide +kernel) (by decide +kernel)) (by decide +kernel)
            have lc_37 : x1 = 2003399528 := l_cmpe ey_36 c_37
            exact J_40   H locs ls hP hD hS (lv_sub hl [] rfl)
