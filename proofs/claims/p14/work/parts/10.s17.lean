set_option maxHeartbeats 8000000 in
set_option maxRecDepth 100000 in
theorem s_X7_refuses_v6 (l : Launch) (dC : Nat → ClassId) (dI : Nat → Nat → Nat) (cI cJ cZ cM : ClassId) (h : Nat) (r : Nat → Nat) (i : Nat → Int32) (j : Nat → Int64) (x1 : Int32) (f48 : Nat → Int32) (hx1 : iR x1 0 5) (hI : mR i) : k_Mi l yX7_refuses wsX7_refuses ({ frames := 1, cells := 0, slots := 0, locals := 40 }) (dC, dI) vwCl (tyy cI cJ cZ cM) [(h, .inr (7, oM r i j)), ((r 48), .inl (cI, 6, .inl f48))] [.ref h, .int x1] 0 0 (fun (u9 : SU) => [(h, .inr (7, oM r i j)), ((r 48), .inl (cI, 6, .inl (u9.2.2.1 0)))]) (fun (r9 : Int32) (u9 : SU) => (r9 = (-1))) := by
  refine fun sz => k_enter (cc := cX7_refuses) (maxL := 2) (ret := some (.int)) (Qc := fun A => va_Qi (fun (r9 : Int32) (u9 : SU) => (r9 = (-1))) (fun u => k_B (dC, dI) vwCl (tyy cI cJ cZ cM) A ((fun (u9 : SU) => [(h, .inr (7, oM r i j)), ((r 48), .inl (cI, 6, .inl (u9.2.2.1 0)))]) u)) A) sz (by decide +kernel) rfl (Nat.le_of_ble_eq_true rfl) (fun p e s m args below meth c A ls H locs B hP hD hS hl => ?_)
  obtain ⟨hx, hb, hml, hown, hts, hr, hlk, hnm, hK, hA, hN, hC⟩ := id B
  have hown : s.vm.findClass RX7 = some m.cls := hown
  have hl : lv_has ls 2 [(0, .ref h), (1, .int x1)] := hl
  have w_0 : (Cond.fieldLink RX7 159 "WishSeaModel" "refused" "[I").before args s = true := hts _ (List.mem_of_getElem? (i := 1) rfl)
  have hinX7 : ∀ w ∈ u_ws RX7 TX7 92, w ∈ wsX7_refuses := fun _ h => List.mem_cons_of_mem _ (List.mem_append_right _ h)
  refine lv_aload_n hx hb dX7_refuses_0 rfl (lv_at hl 0 rfl) ?_
  refine k_get (D := (dC, dI)) (ci := 7) (v := .ref (r 48)) (C := RX7) (T := TX7) (N := 92) hx hb hts hinX7 hown hK hP 0 rfl rfl 48 (by decide) w_0 rfl rfl dX7_refuses_1 ?_
  refine lv_iload_n hx hb dX7_refuses_4 rfl (lv_at hl 1 rfl) ?_
  refine lv_dup2_11 hx hb dX7_refuses_5 rfl rfl ?_
  refine va_iald hx hb hK hP 1 0 rfl rfl (iR_vp hx1 (by decide +kernel)) dX7_refuses_6 ?_
  refine lv_iconst (v := 1) hx hb dX7_refuses_7 (by decide +kernel) ?_
  refine lv_iadd hx hb dX7_refuses_8 ?_
  refine lv_topi (fun y_8 ey_8 => ?_)
  refine s_iast (g := (upd f48 x1.toNatClampNeg y_8)) (ws' := [(h, .inr (7, oM r i j)), ((r 48), .inl (cI, 6, .inl (upd f48 x1.toNatClampNeg y_8)))]) hx hb hK hP hD hS 1 0 rfl rfl (iR_vp hx1 (by decide +kernel)) rfl rfl dX7_refuses_9 (fun H locs hP hD hS => ?_)
  refine lv_iconst (v := (-1)) hx hb dX7_refuses_10 (by decide +kernel) ?_
  exact k_ri B hP hD hS dX7_refuses_11 ((fun _ => 0), (fun _ => 0), (fun k9 => match k9 with | 0 => (upd f48 x1.toNatClampNeg y_8) | _ => (fun _ => 0)), (fun _ => (fun _ => 0)), (fun _ => 0)) [0, 1] rfl rfl rfl (Nat.le_of_ble_eq_true rfl) (Nat.le_of_ble_eq_true rfl) rfl
set_option maxHeartbeats 8000000 in
set_option maxRecDepth 100000 in
theorem s_X7_writesDown_v0 (l : Launch) (dC : Nat → ClassId) (dI : Nat → Nat → Nat) (cI cJ cZ cM : ClassId) (h : Nat) (r : Nat → Nat) (i : Nat → Int32) (j : Nat → Int64) (x1 : Int32) (x2 : Int32) (f50 : Nat → Int32) (f52 : Nat → Int32) (f53 : Nat → Int32) (f54 : Nat → Int32) (f55 : Nat → Int32) (f56 : Nat → Int32) (f57 : Nat → Int32) (hx1 : iR x1 0 11) (hx2 : iR x2 0 1) (hI : mR i) (hf50 : aR f50 0 999) (hf53 : aR f53 0 50) : k_Mv l yX7_writesDown wsX7_writesDown ({ frames := 1, cells := 0, slots := 0, locals := 40 }) (dC, dI) vwCl (tyy cI cJ cZ cM) [(h, .inr (7, oM r i j)), ((r 50), .inl (cI, 22, .inl f50)), ((r 52), .inl (cI, 22, .inl f52)), ((r 53), .inl (cI, 22, .inl f53)), ((r 54), .inl (cI, 1100, .inl f54)), ((r 55), .inl (cI, 1100, .inl f55)), ((r 56), .inl (cI, 1100, .inl f56)), ((r 57), .inl (cI, 1100, .inl f57))] [.ref h, .int x1, .int x2] 0 0 (fun (u9 : SU) => [(h, .inr (7, oM r i j)), ((r 50), .inl (cI, 22, .inl f50)), ((r 52), .inl (cI, 22, .inl f52)), ((r 53), .inl (cI, 22, .inl (u9.2.2.1 0))), ((r 54), .inl (cI, 1100, .inl (u9.2.2.1 1))), ((r 55), .inl (cI, 1100, .inl (u9.2.2.1 2))), ((r 56), .inl (cI, 1100, .inl (u9.2.2.1 3))), ((r 57), .inl (cI, 1100, .inl (u9.2.2.1 4)))]) (fun (u9 : SU) => (aR (u9.2.2.1 0) 0 50)) := by
  refine fun sz => k_enter (cc := cX7_writesDown) (maxL := 4) (ret := none) (Qc := fun A => va_Qv (fun (u9 : SU) => (aR (u9.2.2.1 0) 0 50)) (fun u => k_B (dC, dI) vwCl (tyy cI cJ cZ cM) A ((fun (u9 : SU) => [(h, .inr (7, oM r i j)), ((r 50), .inl (cI, 22, .inl f50)), ((r 52), .inl (cI, 22, .inl f52)), ((r 53), .inl (cI, 22, .inl (u9.2.2.1 0))), ((r 54), .inl (cI, 1100, .inl (u9.2.2.1 1))), ((r 55), .inl (cI, 1100, .inl (u9.2.2.1 2))), ((r 56), .inl (cI, 1100, .inl (u9.2.2.1 3))), ((r 57), .inl (cI, 1100, .inl (u9.2.2.1 4)))]) u)) A) sz (by decide +kernel) rfl (Nat.le_of_ble_eq_true rfl) (fun p e s m args below meth c A ls H locs B hP hD hS hl => ?_)
  obtain ⟨hx, hb, hml, hown, hts, hr, hlk, hnm, hK, hA, hN, hC⟩ := id B
  have hown : s.vm.findClass RX7 = some m.cls := hown
  have hl : lv_has ls 4 [(0, .ref h), (1, .int x1), (2, .int x2)] := hl
  have w_0 : (Cond.fieldLink RX7 174 "WishSeaModel" "keptMany" "[I").before args s = true := hts _ (List.mem_of_getElem? (i := 1) rfl)
  have w_1 : (Cond.fieldLink RX7 177 "WishSeaModel" "keptDay" "[I").before args s = true := hts _ (List.mem_of_getElem? (i := 2) rfl)
  have w_2 : (Cond.fieldLink RX7 171 "WishSeaModel" "dayOf" "[I").before args s = true := hts _ (List.mem_of_getElem? (i := 6) rfl)
  have w_3 : (Cond.fieldLink RX7 180 "WishSeaModel" "keptWish" "[I").before args s = true := hts _ (List.mem_of_getElem? (i := 3) rfl)
  have w_4 : (Cond.fieldLink RX7 183 "WishSeaModel" "keptSea" "[I").before args s = true := hts _ (List.mem_of_getElem? (i := 4) rfl)
  have w_5 : (Cond.fieldLink RX7 165 "WishSeaModel" "seaOf" "[I").before args s = true := hts _ (List.mem_of_getElem? (i := 7) rfl)
  have w_6 : (Cond.fieldLink RX7 186 "WishSeaModel" "keptFell" "[I").before args s = true := hts _ (List.mem_of_getElem? (i := 5) rfl)
  have hinX7 : ∀ w ∈ u_ws RX7 TX7 92, w ∈ wsX7_writesDown := fun _ h => List.mem_cons_of_mem _ (List.mem_append_right _ h)
  refine lv_aload_n hx hb dX7_writesDown_0 rfl (lv_at hl 0 rfl) ?_
  refine k_get (D := (dC, dI)) (ci := 7) (v := .ref (r 53)) (C := RX7) (T := TX7) (N := 92) hx hb hts hinX7 hown hK hP 0 rfl rfl 53 (by decide) w_0 rfl rfl dX7_writesDown_1 ?_
  refine lv_iconst (v := 0) hx hb dX7_writesDown_4 (by decide +kernel) ?_
  refine k_iald (v := (f53 0)) hx hb hK hP 3 0 0 rfl rfl rfl (Nat.le_of_ble_eq_true rfl) (Nat.le_of_ble_eq_true rfl) rfl dX7_writesDown_5 ?_
  have f_5_1 : iR (f53 0) 0 50 := hf53 _
  refine lv_bipush (v := 50) hx hb dX7_writesDown_6 (by decide +kernel) ?_
  refine lv_icmp_ne (tgt := 91) hx hb dX7_writesDown_8 (by decide) (fun c_8 => ?_) (fun c_8 => ?_)
  · have c_8 : ¬ (f53 0) = 50 := c_8
    have f_91_2 : iR (f53 0) 0 49 := iR_neL c_8 f_5_1 (iR_c (n := 50) (by decide +kernel) (by decide +kernel)) (by decide +kernel)
    refine lv_aload_n hx hb dX7_writesDown_91 rfl (lv_at hl 0 rfl) ?_
    refine k_get (D := (dC, dI)) (ci := 7) (v := .ref (r 53)) (C := RX7) (T := TX7) (N := 92) hx hb hts hinX7 hown hK hP 0 rfl rfl 53 (by decide) w_0 rfl rfl dX7_writesDown_92 ?_
    refine lv_iconst (v := 0) hx hb dX7_writesDown_95 (by decide +kernel) ?_
    refine k_iald (v := (f53 0)) hx hb hK hP 3 0 0 rfl rfl rfl (Nat.le_of_ble_eq_true rfl) (Nat.le_of_ble_eq_true rfl) rfl dX7_writesDown_96 ?_
    refine lv_istore_n (lv' := [(3, .int (f53 0)), (0, .ref h), (1, .int x1), (2, .int x2)]) hx hb dX7_writesDown_97 rfl hl (by decide) rfl (fun ls hl => ?_)
    refine lv_aload_n hx hb dX7_writesDown_98 rfl (lv_at hl 1 rfl) ?_
    refine k_get (D := (dC, dI)) (ci := 7) (v := .ref (r 54)) (C := RX7) (T := TX7) (N := 92) hx hb hts hinX7 hown hK hP 0 rfl rfl 54 (by decide) w_1 rfl rfl dX7_writesDown_99 ?_
    refine lv_iload_n hx hb dX7_writesDown_102 rfl (lv_at hl 0 rfl) ?_
    refine lv_aload_n hx hb dX7_writesDown_103 rfl (lv_at hl 1 rfl) ?_
    refine k_get (D := (dC, dI)) (ci := 7) (v := .ref (r 52)) (C := RX7) (T := TX7) (N := 92) hx hb hts hinX7 hown hK hP 0 rfl rfl 52 (by decide) w_2 rfl rfl dX7_writesDown_104 ?_
    refine lv_iconst (v := 0) hx hb dX7_writesDown_107 (by decide +kernel) ?_
    refine k_iald (v := (f52 0)) hx hb hK hP 2 0 0 rfl rfl rfl (Nat.le_of_ble_eq_true rfl) (Nat.le_of_ble_eq_true rfl) rfl dX7_writesDown_108 ?_
    refine s_iast (g := (upd f54 (f53 0).toNatClampNeg (f52 0))) (ws' := [(h, .inr (7, oM r i j)), ((r 50), .inl (cI, 22, .inl f50)), ((r 52), .inl (cI, 22, .inl f52)), ((r 53), .inl (cI, 22, .inl f53)), ((r 54), .inl (cI, 1100, .inl (upd f54 (f53 0).toNatClampNeg (f52 0)))), ((r 55), .inl (cI, 1100, .inl f55)), ((r 56), .inl (cI, 1100, .inl f56)), ((r 57), .inl (cI, 1100, .inl f57))]) hx hb hK hP hD hS 4 0 rfl rfl (iR_vp f_91_2 (by decide +kernel)) rfl rfl dX7_writesDown_109 (fun H locs hP hD hS => ?_)
    refine lv_aload_n hx hb dX7_writesDown_110 rfl (lv_at hl 1 rfl) ?_
    refine k_get (D := (dC, dI)) (ci := 7) (v := .ref (r 55)) (C := RX7) (T := TX7) (N := 92) hx hb hts hinX7 hown hK hP 0 rfl rfl 55 (by decide) w_3 rfl rfl dX7_writesDown_111 ?_
    refine lv_iload_n hx hb dX7_writesDown_114 rfl (lv_at hl 0 rfl) ?_
    refine lv_iload_n hx hb dX7_writesDown_115 rfl (lv_at hl 2 rfl) ?_
    refine s_iast (g := (upd f55 (f53 0).toNatClampNeg x1)) (ws' := [(h, .inr (7, oM r i j)), ((r 50), .inl (cI, 22, .inl f50)), ((r 52), .inl (cI, 22, .inl f52)), ((r 53), .inl (cI, 22, .inl f53)), ((r 54), .inl (cI, 1100, .inl (upd f54 (f53 0).toNatClampNeg (f52 0)))), ((r 55), .inl (cI, 1100, .inl (upd f55 (f53 0).toNatClampNeg x1))), ((r 56), .inl (cI, 1100, .inl f56)), ((r 57), .inl (cI, 1100, .inl f57))]) hx hb hK hP hD hS 5 0 rfl rfl (iR_vp f_91_2 (by decide +kernel)) rfl rfl dX7_writesDown_116 (fun H locs hP hD hS => ?_)
    refine lv_aload_n hx hb dX7_writesDown_117 rfl (lv_at hl 1 rfl) ?_
    refine k_get (D := (dC, dI)) (ci := 7) (v := .ref (r 56)) (C := RX7) (T := TX7) (N := 92) hx hb hts hinX7 hown hK hP 0 rfl rfl 56 (by decide) w_4 rfl rfl dX7_writesDown_118 ?_
    refine lv_iload_n hx hb dX7_writesDown_121 rfl (lv_at hl 0 rfl) ?_
    refine lv_aload_n hx hb dX7_writesDown_122 rfl (lv_at hl 1 rfl) ?_
    refine k_get (D := (dC, dI)) (ci := 7) (v := .ref (r 50)) (C := RX7) (T := TX7) (N := 92) hx hb hts hinX7 hown hK hP 0 rfl rfl 50 (by decide) w_5 rfl rfl dX7_writesDown_123 ?_
    refine lv_iconst (v := 0) hx hb dX7_writesDown_126 (by decide +kernel) ?_
    refine k_iald (v := (f50 0)) hx hb hK hP 1 0 0 rfl rfl rfl (Nat.le_of_ble_eq_true rfl) (Nat.le_of_ble_eq_true rfl) rfl dX7_writesDown_127 ?_
    have f_127p8_3 : iR (f50 0) 0 999 := hf50 _
    refine s_iast (g := (upd f56 (f53 0).toNatClampNeg (f50 0))) (ws' := [(h, .inr (7, oM r i j)), ((r 50), .inl (cI, 22, .inl f50)), ((r 52), .inl (cI, 22, .inl f52)), ((r 53), .inl (cI, 22, .inl f53)), ((r 54), .inl (cI, 1100, .inl (upd f54 (f53 0).toNatClampNeg (f52 0)))), ((r 55), .inl (cI, 1100, .inl (upd f55 (f53 0).toNatClampNeg x1))), ((r 56), .inl (cI, 1100, .inl (upd f56 (f53 0).toNatClampNeg (f50 0)))), ((r 57), .inl (cI, 1100, .inl f57))]) hx hb hK hP hD hS 6 0 rfl rfl (iR_vp f_91_2 (by decide +kernel)) rfl rfl dX7_writesDown_128 (fun H locs hP hD hS => ?_)
    refine lv_aload_n hx hb dX7_writesDown_129 rfl (lv_at hl 1 rfl) ?_
    refine k_get (D := (dC, dI)) (ci := 7) (v := .ref (r 57)) (C := RX7) (T := TX7) (N := 92) hx hb hts hinX7 hown hK hP 0 rfl rfl 57 (by decide) w_6 rfl rfl dX7_writesDown_130 ?_
    refine lv_iload_n hx hb dX7_writesDown_133 rfl (lv_at hl 0 rfl) ?_
    refine lv_iload_n hx hb dX7_writesDown_134 rfl (lv_at hl 3 rfl) ?_
    have J_143p8 : ∀ (j143p8_S0 : Int32) (hj143p8_S0 : iR j143p8_S0 0 1) (H : Heap) (locs : List Loc) (ls : Array Slot), va_P (dC, dI) vwCl [(h, .inr (7, oM r i j)), ((r 50), .inl (cI, 22, .inl f50)), ((r 52), .inl (cI, 22, .inl f52)), ((r 53), .inl (cI, 22, .inl f53)), ((r 54), .inl (cI, 1100, .inl (upd f54 (f53 0).toNatClampNeg (f52 0)))), ((r 55), .inl (cI, 1100, .inl (upd f55 (f53 0).toNatClampNeg x1))), ((r 56), .inl (cI, 1100, .inl (upd f56 (f53 0).toNatClampNeg (f50 0)))), ((r 57), .inl (cI, 1100, .inl f57))] H → va_D A [(h, .inr (7, oM r i j)), ((r 50), .inl (cI, 22, .inl f50)), ((r 52), .inl (cI, 22, .inl f52)), ((r 53), .inl (cI, 22, .inl f53)), ((r 54), .inl (cI, 1100, .inl (upd f54 (f53 0).toNatClampNeg (f52 0)))), ((r 55), .inl (cI, 1100, .inl (upd f55 (f53 0).toNatClampNeg x1))), ((r 56), .inl (cI, 1100, .inl (upd f56 (f53 0).toNatClampNeg (f50 0)))), ((r 57), .inl (cI, 1100, .inl f57))] → va_S A s.heap H locs → lv_has ls 4 [(0, .ref h)] → W p l e ({ frames := 1, cells := 0, slots := 0, locals := 40 }) s m args below meth c H locs 0 0 (MQ below (va_Qv (fun (u9 : SU) => (aR (u9.2.2.1 0) 0 50)) (fun u => k_B (dC, dI) vwCl (tyy cI cJ cZ cM) A ((fun (u9 : SU) => [(h, .inr (7, oM r i j)), ((r 50), .inl (cI, 22, .inl f50)), ((r 52), .inl (cI, 22, .inl f52)), ((r 53), .inl (cI, 22, .inl (u9.2.2.1 0))), ((r 54), .inl (cI, 1100, .inl (u9.2.2.1 1))), ((r 55), .inl (cI, 1100, .inl (u9.2.2.1 2))), ((r 56), .inl (cI, 1100, .inl (u9.2.2.1 3))), ((r 57), .inl (cI, 1100, .inl (u9.2.2.1 4)))]) u)) A) args s 0 0 A) (F0 m 143 ls [.int j143p8_S0, .int (f53 0), .ref (r 57)]) := by
      intro j143p8_S0 hj143p8_S0 H locs ls hP hD hS hl
      refine s_iast (g := (upd f57 (f53 0).toNatClampNeg j143p8_S0)) (ws' := [(h, .inr (7, oM r i j)), ((r 50), .inl (cI, 22, .inl f50)), ((r 52), .inl (cI, 22, .inl f52)), ((r 53), .inl (cI, 22, .inl f53)), ((r 54), .inl (cI, 1100, .inl (upd f54 (f53 0).toNatClampNeg (f52 0)))), ((r 55), .inl (cI, 1100, .inl (upd f55 (f53 0).toNatClampNeg x1))), ((r 56), .inl (cI, 1100, .inl (upd f56 (f53 0).toNatClampNeg (f50 0)))), ((r 57), .inl (cI, 1100, .inl (upd f57 (f53 0).toNatClampNeg j143p8_S0)))]) hx hb hK hP hD hS 7 0 rfl rfl (iR_vp f_91_2 (by decide +kernel)) rfl rfl dX7_writesDown_143 (fun H locs hP hD hS => ?_)
      refine lv_aload_n hx hb dX7_writesDown_144 rfl (lv_at hl 0 rfl) ?_
      refine k_get (D := (dC, dI)) (ci := 7) (v := .ref (r 53)) (C := RX7) (T := TX7) (N := 92) hx hb hts hinX7 hown hK hP 0 rfl rfl 53 (by decide) w_0 rfl rfl dX7_writesDown_145 ?_
      refine lv_iconst (v := 0) hx hb dX7_writesDown_148 (by decide +kernel) ?_
      refine lv_dup2_11 hx hb dX7_writesDown_149 rfl rfl ?_
      refine k_iald (v := (f53 0)) hx hb hK hP 3 0 0 rfl rfl rfl (Nat.le_of_ble_eq_true rfl) (Nat.le_of_ble_eq_true rfl) rfl dX7_writesDown_150 ?_
      refine lv_iconst (v := 1) hx hb dX7_writesDown_151 (by decide +kernel) ?_
      refine lv_iadd hx hb dX7_writesDown_152 ?_
      refine lv_topi (fun y_152p8 ey_152p8 => ?_)
      have f_152p8_1 : iR y_152p8 1 50 := iR_add ey_152p8 f_91_2 (iR_c (n := 1) (by decide +kernel) (by decide +kernel)) (by decide +kernel)
      refine k_iast (g := (upd f53 0 y_152p8)) (ws' := [(h, .inr (7, oM r i j)), ((r 50), .inl (cI, 22, .inl f50)), ((r 52), .inl (cI, 22, .inl f52)), ((r 53), .inl (cI, 22, .inl (upd f53 0 y_152p8))), ((r 54), .inl (cI, 1100, .inl (upd f54 (f53 0).toNatClampNeg (f52 0)))), ((r 55), .inl (cI, 1100, .inl (upd f55 (f53 0).toNatClampNeg x1))), ((r 56), .inl (cI, 1100, .inl (upd f56 (f53 0).toNatClampNeg (f50 0)))), ((r 57), .inl (cI, 1100, .inl (upd f57 (f53 0).toNatClampNeg j143p8_S0)))]) hx hb hK hP hD hS 3 0 0 rfl rfl rfl (Nat.le_of_ble_eq_true rfl) (Nat.le_of_ble_eq_true rfl) rfl rfl dX7_writesDown_153 (fun H locs hP hD hS => ?_)
      exact k_rv B hP hD hS dX7_writesDown_154 ((fun _ => 0), (fun _ => 0), (fun k9 => match k9 with | 0 => (upd f53 0 y_152p8) | 1 => (upd f54 (f53 0).toNatClampNeg (f52 0)) | 2 => (upd f55 (f53 0).toNatClampNeg x1) | 3 => (upd f56 (f53 0).toNatClampNeg (f50 0)) | 4 => (upd f57 (f53 0).toNatClampNeg j143p8_S0) | _ => (fun _ => 0)), (fun _ => (fun _ => 0)), (fun _ => 0)) [0, 1, 2, 3, 4, 5, 6, 7] rfl rfl (Nat.le_of_ble_eq_true rfl) (Nat.le_of_ble_eq_true rfl) (aR_upd _ hf53 (iR_w f_152p8_1 (by decide +kernel)))
    refine lv_if_eq (tgt := 142) hx hb dX7_writesDown_135 (by decide) (fun c_135p8 => ?_) (fun c_135p8 => ?_)
    · have c_135p8 : x2 = 0 := c_135p8
      have f_142p8_4 : iR x2 0 0 := iR_eqL c_135p8 hx2 (iR_c (n := 0) (by decide +kernel) (by decide +kernel)) (by decide +kernel)
      refine lv_iconst (v := 0) hx hb dX7_writesDown_142 (by decide +kernel) ?_
      exact J_143p8 0 (iR_c (n := 0) (by decide +kernel) (by decide +kernel)) H locs ls hP hD hS (lv_sub hl [1] rfl)
    · have c_135p8 : ¬ x2 = 0 := c_135p8
      have f_138p8_4 : iR x2 1 1 := iR_neL c_135p8 hx2 (iR_c (n := 0) (by decide +kernel) (by decide +kernel)) (by decide +kernel)
      refine lv_iconst (v := 1) hx hb dX7_writesDown_138 (by decide +kernel) ?_
      refine lv_goto (tgt := 143) hx hb dX7_writesDown_139 (by decide) ?_
      exact J_143p8 1 (iR_c (n := 1) (by decide +kernel) (by decide +kernel)) H locs ls hP hD hS (lv_sub hl [1] rfl)
  · have c_8 : (f53 0) = 50 := c_8
    have f_11_2 : iR (f53 0) 50 50 := iR_eqL c_8 f_5_1 (iR_c (n := 50) (by decide +kernel) (by decide +kernel)) (by decide +kernel)
    refine lv_iconst (v := 0) hx hb dX7_writesDown_11 (by decide +kernel) ?_
    have J_13 : ∀ (n_13 : Nat) (j13_A4 : Nat → Int32) (j13_A5 : Nat → Int32) (j13_A6 : Nat → Int32) (j13_A7 : Nat → Int32) (j13_L3 : Int32) (hj13_L3 : iR j13_L3 0 49) (hm_13 : (49 - j13_L3.toInt).toNat < n_13) (H : Heap) (locs : List Loc) (ls : Array Slot), va_P (dC, dI) vwCl [(h, .inr (7, oM r i j)), ((r 50), .inl (cI, 22, .inl f50)), ((r 52), .inl (cI, 22, .inl f52)), ((r 53), .inl (cI, 22, .inl f53)), ((r 54), .inl (cI, 1100, .inl j13_A4)), ((r 55), .inl (cI, 1100, .inl j13_A5)), ((r 56), .inl (cI, 1100, .inl j13_A6)), ((r 57), .inl (cI, 1100, .inl j13_A7))] H → va_D A [(h, .inr (7, oM r i j)), ((r 50), .inl (cI, 22, .inl f50)), ((r 52), .inl (cI, 22, .inl f52)), ((r 53), .inl (cI, 22, .inl f53)), ((r 54), .inl (cI, 1100, .inl j13_A4)), ((r 55), .inl (cI, 1100, .inl j13_A5)), ((r 56), .inl (cI, 1100, .inl j13_A6)), ((r 57), .inl (cI, 1100, .inl j13_A7))] → va_S A s.heap H locs → lv_has ls 4 [(0, .ref h), (1, .int x1), (2, .int x2), (3, .int j13_L3)] → W p l e ({ frames := 1, cells := 0, slots := 0, locals := 40 }) s m args below meth c H locs 0 0 (MQ below (va_Qv (fun (u9 : SU) => (aR (u9.2.2.1 0) 0 50)) (fun u => k_B (dC, dI) vwCl (tyy cI cJ cZ cM) A ((fun (u9 : SU) => [(h, .inr (7, oM r i j)), ((r 50), .inl (cI, 22, .inl f50)), ((r 52), .inl (cI, 22, .inl f52)), ((r 53), .inl (cI, 22, .inl (u9.2.2.1 0))), ((r 54), .inl (cI, 1100, .inl (u9.2.2.1 1))), ((r 55), .inl (cI, 1100, .inl (u9.2.2.1 2))), ((r 56), .inl (cI, 1100, .inl (u9.2.2.1 3))), ((r 57), .inl (cI, 1100, .inl (u9.2.2.1 4)))]) u)) A) args s 0 0 A) (F0 m 13 ls []) := by
      intro n_13
      induction n_13 with
      | zero => intro j13_A4 j13_A5 j13_A6 j13_A7 j13_L3 hj13_L3 hm_13; exact absurd hm_13 (Nat.not_lt_zero _)
      | succ n_13 ih_13 =>
        intro j13_A4 j13_A5 j13_A6 j13_A7 j13_L3 hj13_L3 hm_13 H locs ls hP hD hS hl
        refine lv_iload_n hx hb dX7_writesDown_13 rfl (lv_at hl 3 rfl) ?_
        refine lv_bipush (v := 49) hx hb dX7_writesDown_14 (by decide +kernel) ?_
        refine lv_icmp_ge (tgt := 81) hx hb dX7_writesDown_16 (by decide) (fun c_16 => ?_) (fun c_16 => ?_)
        · have c_16 : 49 ≤ j13_L3 := c_16
          have f_81_1 : iR j13_L3 49 49 := iR_leR c_16 (iR_c (n := 49) (by decide +kernel) (by decide +kernel)) hj13_L3 (by decide +kernel)
          refine lv_aload_n hx hb dX7_writesDown_81 rfl (lv_at hl 0 rfl) ?_
          refine k_get (D := (dC, dI)) (ci := 7) (v := .ref (r 53)) (C := RX7) (T := TX7) (N := 92) hx hb hts hinX7 hown hK hP 0 rfl rfl 53 (by decide) w_0 rfl rfl dX7_writesDown_82 ?_
          refine lv_iconst (v := 0) hx hb dX7_writesDown_85 (by decide +kernel) ?_
          refine lv_dup2_11 hx hb dX7_writesDown_86 rfl rfl ?_
          refine k_iald (v := (f53 0)) hx hb hK hP 3 0 0 rfl rfl rfl (Nat.le_of_ble_eq_true rfl) (Nat.le_of_ble_eq_true rfl) rfl dX7_writesDown_87 ?_
          refine lv_iconst (v := 1) hx hb dX7_writesDown_88 (by decide +kernel) ?_
          refine lv_isub hx hb dX7_writesDown_89 ?_
          refine lv_topi (fun y_89 ey_89 => ?_)
          have f_89_2 : iR y_89 49 49 := iR_sub ey_89 f_11_2 (iR_c (n := 1) (by decide +kernel) (by decide +kernel)) (by decide +kernel)
          refine k_iast (g := (upd f53 0 y_89)) (ws' := [(h, .inr (7, oM r i j)), ((r 50), .inl (cI, 22, .inl f50)), ((r 52), .inl (cI, 22, .inl f52)), ((r 53), .inl (cI, 22, .inl (upd f53 0 y_89))), ((r 54), .inl (cI, 1100, .inl j13_A4)), ((r 55), .inl (cI, 1100, .inl j13_A5)), ((r 56), .inl (cI, 1100, .inl j13_A6)), ((r 57), .inl (cI, 1100, .inl j13_A7))]) hx hb hK hP hD hS 3 0 0 rfl rfl rfl (Nat.le_of_ble_eq_true rfl) (Nat.le_of_ble_eq_true rfl) rfl rfl dX7_writesDown_90 (fun H locs hP hD hS => ?_)
          refine lv_aload_n hx hb dX7_writesDown_91 rfl (lv_at hl 0 rfl) ?_
          refine k_get (D := (dC, dI)) (ci := 7) (v := .ref (r 53)) (C := RX7) (T := TX7) (N := 92) hx hb hts hinX7 hown hK hP 0 rfl rfl 53 (by decide) w_0 rfl rfl dX7_writesDown_92 ?_
          refine lv_iconst (v := 0) hx hb dX7_writesDown_95 (by decide +kernel) ?_
          refine k_iald (v := ((upd f53 0 y_89) 0)) hx hb hK hP 3 0 0 rfl rfl rfl (Nat.le_of_ble_eq_true rfl) (Nat.le_of_ble_eq_true rfl) rfl dX7_writesDown_96 ?_
          refine k_int (v := y_89) rfl ?_
          refine lv_istore_n (lv' := [(3, .int y_89), (0, .ref h), (1, .int x1), (2, .int x2)]) hx hb dX7_writesDown_97 rfl hl (by decide) rfl (fun ls hl => ?_)
          refine lv_aload_n hx hb dX7_writesDown_98 rfl (lv_at hl 1 rfl) ?_
          refine k_get (D := (dC, dI)) (ci := 7) (v := .ref (r 54)) (C := RX7) (T := TX7) (N := 92) hx hb hts hinX7 hown hK hP 0 rfl rfl 54 (by decide) w_1 rfl rfl dX7_writesDown_99 ?_
          refine lv_iload_n hx hb dX7_writesDown_102 rfl (lv_at hl 0 rfl) ?_
          refine lv_aload_n hx hb dX7_writesDown_103 rfl (lv_at hl 1 rfl) ?_
          refine k_get (D := (dC, dI)) (ci := 7) (v := .ref (r 52)) (C := RX7) (T := TX7) (N := 92) hx hb hts hinX7 hown hK hP 0 rfl rfl 52 (by decide) w_2 rfl rfl dX7_writesDown_104 ?_
          refine lv_iconst (v := 0) hx hb dX7_writesDown_107 (by decide +kernel) ?_
          refine k_iald (v := (f52 0)) hx hb hK hP 2 0 0 rfl rfl rfl (Nat.le_of_ble_eq_true rfl) (Nat.le_of_ble_eq_true rfl) rfl dX7_writesDown_108 ?_
          refine s_iast (g := (upd j13_A4 y_89.toNatClampNeg (f52 0))) (ws' := [(h, .inr (7, oM r i j)), ((r 50), .inl (cI, 22, .inl f50)), ((r 52), .inl (cI, 22, .inl f52)), ((r 53), .inl (cI, 22, .inl (upd f53 0 y_89))), ((r 54), .inl (cI, 1100, .inl (upd j13_A4 y_89.toNatClampNeg (f52 0)))), ((r 55), .inl (cI, 1100, .inl j13_A5)), ((r 56), .inl (cI, 1100, .inl j13_A6)), ((r 57), .inl (cI, 1100, .inl j13_A7))]) hx hb hK hP hD hS 4 0 rfl rfl (iR_vp f_89_2 (by decide +kernel)) rfl rfl dX7_writesDown_109 (fun H locs hP hD hS => ?_)
          refine lv_aload_n hx hb dX7_writesDown_110 rfl (lv_at hl 1 rfl) ?_
          refine k_get (D := (dC, dI)) (ci := 7) (v := .ref (r 55)) (C := RX7) (T := TX7) (N := 92) hx hb hts hinX7 hown hK hP 0 rfl rfl 55 (by decide) w_3 rfl rfl dX7_writesDown_111 ?_
          refine lv_iload_n hx hb dX7_writesDown_114 rfl (lv_at hl 0 rfl) ?_
          refine lv_iload_n hx hb dX7_writesDown_115 rfl (lv_at hl 2 rfl) ?_
          refine s_iast (g := (upd j13_A5 y_89.toNatClampNeg x1)) (ws' := [(h, .inr (7, oM r i j)), ((r 50), .inl (cI, 22, .inl f50)), ((r 52), .inl (cI, 22, .inl f52)), ((r 53), .inl (cI, 22, .inl (upd f53 0 y_89))), ((r 54), .inl (cI, 1100, .inl (upd j13_A4 y_89.toNatClampNeg (f52 0)))), ((r 55), .inl (cI, 1100, .inl (upd j13_A5 y_89.toNatClampNeg x1))), ((r 56), .inl (cI, 1100, .inl j13_A6)), ((r 57), .inl (cI, 1100, .inl j13_A7))]) hx hb hK hP hD hS 5 0 rfl rfl (iR_vp f_89_2 (by decide +kernel)) rfl rfl dX7_writesDown_116 (fun H locs hP hD hS => ?_)
          refine lv_aload_n hx hb dX7_writesDown_117 rfl (lv_at hl 1 rfl) ?_
          refine k_get (D := (dC, dI)) (ci := 7) (v := .ref (r 56)) (C := RX7) (T := TX7) (N := 92) hx hb hts hinX7 hown hK hP 0 rfl rfl 56 (by decide) w_4 rfl rfl dX7_writesDown_118 ?_
          refine lv_iload_n hx hb dX7_writesDown_121 rfl (lv_at hl 0 rfl) ?_
          refine lv_aload_n hx hb dX7_writesDown_122 rfl (lv_at hl 1 rfl) ?_
          refine k_get (D := (dC, dI)) (ci := 7) (v := .ref (r 50)) (C := RX7) (T := TX7) (N := 92) hx hb hts hinX7 hown hK hP 0 rfl rfl 50 (by decide) w_5 rfl rfl dX7_writesDown_123 ?_
          refine lv_iconst (v := 0) hx hb dX7_writesDown_126 (by decide +kernel) ?_
          refine k_iald (v := (f50 0)) hx hb hK hP 1 0 0 rfl rfl rfl (Nat.le_of_ble_eq_true rfl) (Nat.le_of_ble_eq_true rfl) rfl dX7_writesDown_127 ?_
          have f_127p90_3 : iR (f50 0) 0 999 := hf50 _
          refine s_iast (g := (upd j13_A6 y_89.toNatClampNeg (f50 0))) (ws' := [(h, .inr (7, oM r i j)), ((r 50), .inl (cI, 22, .inl f50)), ((r 52), .inl (cI, 22, .inl f52)), ((r 53), .inl (cI, 22, .inl (upd f53 0 y_89))), ((r 54), .inl (cI, 1100, .inl (upd j13_A4 y_89.toNatClampNeg (f52 0)))), ((r 55), .inl (cI, 1100, .inl (upd j13_A5 y_89.toNatClampNeg x1))), ((r 56), .inl (cI, 1100, .inl (upd j13_A6 y_89.toNatClampNeg (f50 0)))), ((r 57), .inl (cI, 1100, .inl j13_A7))]) hx hb hK hP hD hS 6 0 rfl rfl (iR_vp f_89_2 (by decide +kernel)) rfl rfl dX7_writesDown_128 (fun H locs hP hD hS => ?_)
          refine lv_aload_n hx hb dX7_writesDown_129 rfl (lv_at hl 1 rfl) ?_
          refine k_get (D := (dC, dI)) (ci := 7) (v := .ref (r 57)) (C := RX7) (T := TX7) (N := 92) hx hb hts hinX7 hown hK hP 0 rfl rfl 57 (by decide) w_6 rfl rfl dX7_writesDown_130 ?_
          refine lv_iload_n hx hb dX7_writesDown_133 rfl (lv_at hl 0 rfl) ?_
          refine lv_iload_n hx hb dX7_writesDown_134 rfl (lv_at hl 3 rfl) ?_
          have J_143p90 : ∀ (j143p90_S0 : Int32) (hj143p90_S0 : iR j143p90_S0 0 1) (H : Heap) (locs : List Loc) (ls : Array Slot), va_P (dC, dI) vwCl [(h, .inr (7, oM r i j)), ((r 50), .inl (cI, 22, .inl f50)), ((r 52), .inl (cI, 22, .inl f52)), ((r 53), .inl (cI, 22, .inl (upd f53 0 y_89))), ((r 54), .inl (cI, 1100, .inl (upd j13_A4 y_89.toNatClampNeg (f52 0)))), ((r 55), .inl (cI, 1100, .inl (upd j13_A5 y_89.toNatClampNeg x1))), ((r 56), .inl (cI, 1100, .inl (upd j13_A6 y_89.toNatClampNeg (f50 0)))), ((r 57), .inl (cI, 1100, .inl j13_A7))] H → va_D A [(h, .inr (7, oM r i j)), ((r 50), .inl (cI, 22, .inl f50)), ((r 52), .inl (cI, 22, .inl f52)), ((r 53), .inl (cI, 22, .inl (upd f53 0 y_89))), ((r 54), .inl (cI, 1100, .inl (upd j13_A4 y_89.toNatClampNeg (f52 0)))), ((r 55), .inl (cI, 1100, .inl (upd j13_A5 y_89.toNatClampNeg x1))), ((r 56), .inl (cI, 1100, .inl (upd j13_A6 y_89.toNatClampNeg (f50 0)))), ((r 57), .inl (cI, 1100, .inl j13_A7))] → va_S A s.heap H locs → lv_has ls 4 [(0, .ref h)] → W p l e ({ frames := 1, cells := 0, slots := 0, locals := 40 }) s m args below meth c H locs 0 0 (MQ below (va_Qv (fun (u9 : SU) => (aR (u9.2.2.1 0) 0 50)) (fun u => k_B (dC, dI) vwCl (tyy cI cJ cZ cM) A ((fun (u9 : SU) => [(h, .inr (7, oM r i j)), ((r 50), .inl (cI, 22, .inl f50)), ((r 52), .inl (cI, 22, .inl f52)), ((r 53), .inl (cI, 22, .inl (u9.2.2.1 0))), ((r 54), .inl (cI, 1100, .inl (u9.2.2.1 1))), ((r 55), .inl (cI, 1100, .inl (u9.2.2.1 2))), ((r 56), .inl (cI, 1100, .inl (u9.2.2.1 3))), ((r 57), .inl (cI, 1100, .inl (u9.2.2.1 4)))]) u)) A) args s 0 0 A) (F0 m 143 ls [.int j143p90_S0, .int y_89, .ref (r 57)]) := by
            intro j143p90_S0 hj143p90_S0 H locs ls hP hD hS hl
            refine s_iast (g := (upd j13_A7 y_89.toNatClampNeg j143p90_S0)) (ws' := [(h, .inr (7, oM r i j)), ((r 50), .inl (cI, 22, .inl f50)), ((r 52), .inl (cI, 22, .inl f52)), ((r 53), .inl (cI, 22, .inl (upd f53 0 y_89))), ((r 54), .inl (cI, 1100, .inl (upd j13_A4 y_89.toNatClampNeg (f52 0)))), ((r 55), .inl (cI, 1100, .inl (upd j13_A5 y_89.toNatClampNeg x1))), ((r 56), .inl (cI, 1100, .inl (upd j13_A6 y_89.toNatClampNeg (f50 0)))), ((r 57), .inl (cI, 1100, .inl (upd j13_A7 y_89.toNatClampNeg j143p90_S0)))]) hx hb hK hP hD hS 7 0 rfl rfl (iR_vp f_89_2 (by decide +kernel)) rfl rfl dX7_writesDown_143 (fun H locs hP hD hS => ?_)
            refine lv_aload_n hx hb dX7_writesDown_144 rfl (lv_at hl 0 rfl) ?_
            refine k_get (D := (dC, dI)) (ci := 7) (v := .ref (r 53)) (C := RX7) (T := TX7) (N := 92) hx hb hts hinX7 hown hK hP 0 rfl rfl 53 (by decide) w_0 rfl rfl dX7_writesDown_145 ?_
            refine lv_iconst (v := 0) hx hb dX7_writesDown_148 (by decide +kernel) ?_
            refine lv_dup2_11 hx hb dX7_writesDown_149 rfl rfl ?_
            refine k_iald (v := ((upd f53 0 y_89) 0)) hx hb hK hP 3 0 0 rfl rfl rfl (Nat.le_of_ble_eq_true rfl) (Nat.le_of_ble_eq_true rfl) rfl dX7_writesDown_150 ?_
            refine k_int (v := y_89) rfl ?_
            refine lv_iconst (v := 1) hx hb dX7_writesDown_151 (by decide +kernel) ?_
            refine lv_iadd hx hb dX7_writesDown_152 ?_
            refine lv_topi (fun y_152p90 ey_152p90 => ?_)
            have f_152p90_1 : iR y_152p90 50 50 := iR_add ey_152p90 f_89_2 (iR_c (n := 1) (by decide +kernel) (by decide +kernel)) (by decide +kernel)
            refine k_iast (g := (upd (upd f53 0 y_89) 0 y_152p90)) (ws' := [(h, .inr (7, oM r i j)), ((r 50), .inl (cI, 22, .inl f50)), ((r 52), .inl (cI, 22, .inl f52)), ((r 53), .inl (cI, 22, .inl (upd (upd f53 0 y_89) 0 y_152p90))), ((r 54), .inl (cI, 1100, .inl (upd j13_A4 y_89.toNatClampNeg (f52 0)))), ((r 55), .inl (cI, 1100, .inl (upd j13_A5 y_89.toNatClampNeg x1))), ((r 56), .inl (cI, 1100, .inl (upd j13_A6 y_89.toNatClampNeg (f50 0)))), ((r 57), .inl (cI, 1100, .inl (upd j13_A7 y_89.toNatClampNeg j143p90_S0)))]) hx hb hK hP hD hS 3 0 0 rfl rfl rfl (Nat.le_of_ble_eq_true rfl) (Nat.le_of_ble_eq_true rfl) rfl rfl dX7_writesDown_153 (fun H locs hP hD hS => ?_)
            exact k_rv B hP hD hS dX7_writesDown_154 ((fun _ => 0), (fun _ => 0), (fun k9 => match k9 with | 0 => (upd (upd f53 0 y_89) 0 y_152p90) | 1 => (upd j13_A4 y_89.toNatClampNeg (f52 0)) | 2 => (upd j13_A5 y_89.toNatClampNeg x1) | 3 => (upd j13_A6 y_89.toNatClampNeg (f50 0)) | 4 => (upd j13_A7 y_89.toNatClampNeg j143p90_S0) | _ => (fun _ => 0)), (fun _ => (fun _ => 0)), (fun _ => 0)) [0, 1, 2, 3, 4, 5, 6, 7] rfl rfl (Nat.le_of_ble_eq_true rfl) (Nat.le_of_ble_eq_true rfl) (aR_upd _ (aR_upd _ hf53 (iR_w f_89_2 (by decide +kernel))) (iR_w f_152p90_1 (by decide +kernel)))
          refine lv_if_eq (tgt := 142) hx hb dX7_writesDown_135 (by decide) (fun c_135p90 => ?_) (fun c_135p90 => ?_)
          · have c_135p90 : x2 = 0 := c_135p90
            have f_142p90_4 : iR x2 0 0 := iR_eqL c_135p90 hx2 (iR_c (n := 0) (by decide +kernel) (by decide +kernel)) (by decide +kernel)
            refine lv_iconst (v := 0) hx hb dX7_writesDown_142 (by decide +kernel) ?_
            exact J_143p90 0 (iR_c (n := 0) (by decide +kernel) (by decide +kernel)) H locs ls hP hD hS (lv_sub hl [1] rfl)
          · have c_135p90 : ¬ x2 = 0 := c_135p90
            have f_138p90_4 : iR x2 1 1 := iR_neL c_135p90 hx2 (iR_c (n := 0) (by decide +kernel) (by decide +kernel)) (by decide +kernel)
            refine lv_iconst (v := 1) hx hb dX7_writesDown_138 (by decide +kernel) ?_
            refine lv_goto (tgt := 143) hx hb dX7_writesDown_139 (by decide) ?_
            exact J_143p90 1 (iR_c (n := 1) (by decide +kernel) (by decide +kernel)) H locs ls hP hD hS (lv_sub hl [1] rfl)
        · have c_16 : j13_L3 < 49 := i_nle c_16
          have f_19_1 : iR j13_L3 0 48 := iR_ltL c_16 hj13_L3 (iR_c (n := 49) (by decide +kernel) (by decide +kernel)) (by decide +kernel)
          refine lv_aload_n hx hb dX7_writesDown_19 rfl (lv_at hl 0 rfl) ?_
          refine k_get (D := (dC, dI)) (ci := 7) (v := .ref (r 54)) (C := RX7) (T := TX7) (N := 92) hx hb hts hinX7 hown hK hP 0 rfl rfl 54 (by decide) w_1 rfl rfl dX7_writesDown_20 ?_
          refine lv_iload_n hx hb dX7_writesDown_23 rfl (lv_at hl 3 rfl) ?_
          refine lv_aload_n hx hb dX7_writesDown_24 rfl (lv_at hl 0 rfl) ?_
          refine k_get (D := (dC, dI)) (ci := 7) (v := .ref (r 54)) (C := RX7) (T := TX7) (N := 92) hx hb hts hinX7 hown hK hP 0 rfl rfl 54 (by decide) w_1 rfl rfl dX7_writesDown_25 ?_
          refine lv_iload_n hx hb dX7_writesDown_28 rfl (lv_at hl 3 rfl) ?_
          refine lv_iconst (v := 1) hx hb dX7_writesDown_29 (by decide +kernel) ?_
          refine lv_iadd hx hb dX7_writesDown_30 ?_
          refine lv_topi (fun y_30 ey_30 => ?_)
          have f_30_2 : iR y_30 1 49 := iR_add ey_30 f_19_1 (iR_c (n := 1) (by decide +kernel) (by decide +kernel)) (by decide +kernel)
          refine va_iald hx hb hK hP 4 0 rfl rfl (iR_vp f_30_2 (by decide +kernel)) dX7_writesDown_31 ?_
          refine s_iast (g := (upd j13_A4 j13_L3.toNatClampNeg (j13_A4 y_30.toNatClampNeg))) (ws' := [(h, .inr (7, oM r i j)), ((r 50), .inl (cI, 22, .inl f50)), ((r 52), .inl (cI, 22, .inl f52)), ((r 53), .inl (cI, 22, .inl f53)), ((r 54), .inl (cI, 1100, .inl (upd j13_A4 j13_L3.toNatClampNeg (j13_A4 y_30.toNatClampNeg)))), ((r 55), .inl (cI, 1100, .inl j13_A5)), ((r 56), .inl (cI, 1100, .inl j13_A6)), ((r 57), .inl (cI, 1100, .inl j13_A7))]) hx hb hK hP hD hS 4 0 rfl rfl (iR_vp f_19_1 (by decide +kernel)) rfl rfl dX7_writesDown_32 (fun H locs hP hD hS => ?_)
          refine lv_aload_n hx hb dX7_writesDown_33 rfl (lv_at hl 0 rfl) ?_
          refine k_get (D := (dC, dI)) (ci := 7) (v := .ref (r 55)) (C := RX7) (T := TX7) (N := 92) hx hb hts hinX7 hown hK hP 0 rfl rfl 55 (by decide) w_3 rfl rfl dX7_writesDown_34 ?_
          refine lv_iload_n hx hb dX7_writesDown_37 rfl (lv_at hl 3 rfl) ?_
          refine lv_aload_n hx hb dX7_writesDown_38 rfl (lv_at hl 0 rfl) ?_
          refine k_get (D := (dC, dI)) (ci := 7) (v := .ref (r 55)) (C := RX7) (T := TX7) (N := 92) hx hb hts hinX7 hown hK hP 0 rfl rfl 55 (by decide) w_3 rfl rfl dX7_writesDown_39 ?_
          refine lv_iload_n hx hb dX7_writesDown_42 rfl (lv_at hl 3 rfl) ?_
          refine lv_iconst (v := 1) hx hb dX7_writesDown_43 (by decide +kernel) ?_
          refine lv_iadd hx hb dX7_writesDown_44 ?_
          refine lv_topi (fun y_44 ey_44 => ?_)
          have f_44_3 : iR y_44 1 49 := iR_add ey_44 f_19_1 (iR_c (n := 1) (by decide +kernel) (by decide +kernel)) (by decide +kernel)
          refine va_iald hx hb hK hP 5 0 rfl rfl (iR_vp f_44_3 (by decide +kernel)) dX7_writesDown_45 ?_
          refine s_iast (g := (upd j13_A5 j13_L3.toNatClampNeg (j13_A5 y_44.toNatClampNeg))) (ws' := [(h, .inr (7, oM r i j)), ((r 50), .inl (cI, 22, .inl f50)), ((r 52), .inl (cI, 22, .inl f52)), ((r 53), .inl (cI, 22, .inl f53)), ((r 54), .inl (cI, 1100, .inl (upd j13_A4 j13_L3.toNatClampNeg (j13_A4 y_30.toNatClampNeg)))), ((r 55), .inl (cI, 1100, .inl (upd j13_A5 j13_L3.toNatClampNeg (j13_A5 y_44.toNatClampNeg)))), ((r 56), .inl (cI, 1100, .inl j13_A6)), ((r 57), .inl (cI, 1100, .inl j13_A7))]) hx hb hK hP hD hS 5 0 rfl rfl (iR_vp f_19_1 (by decide +kernel)) rfl rfl dX7_writesDown_46 (fun H locs hP hD hS => ?_)
          refine lv_aload_n hx hb dX7_writesDown_47 rfl (lv_at hl 0 rfl) ?_
          refine k_get (D := (dC, dI)) (ci := 7) (v := .ref (r 56)) (C := RX7) (T := TX7) (N := 92) hx hb hts hinX7 hown hK hP 0 rfl rfl 56 (by decide) w_4 rfl rfl dX7_writesDown_48 ?_
          refine lv_iload_n hx hb dX7_writesDown_51 rfl (lv_at hl 3 rfl) ?_
          refine lv_aload_n hx hb dX7_writesDown_52 rfl (lv_at hl 0 rfl) ?_
          refine k_get (D := (dC, dI)) (ci := 7) (v := .ref (r 56)) (C := RX7) (T := TX7) (N := 92) hx hb hts hinX7 hown hK hP 0 rfl rfl 56 (by decide) w_4 rfl rfl dX7_writesDown_53 ?_
          refine lv_iload_n hx hb dX7_writesDown_56 rfl (lv_at hl 3 rfl) ?_
          refine lv_iconst (v := 1) hx hb dX7_writesDown_57 (by decide +kernel) ?_
          refine lv_iadd hx hb dX7_writesDown_58 ?_
          refine lv_topi (fun y_58 ey_58 => ?_)
          have f_58_4 : iR y_58 1 49 := iR_add ey_58 f_19_1 (iR_c (n := 1) (by decide +kernel) (by decide +kernel)) (by decide +kernel)
          refine va_iald hx hb hK hP 6 0 rfl rfl (iR_vp f_58_4 (by decide +kernel)) dX7_writesDown_59 ?_
          refine s_iast (g := (upd j13_A6 j13_L3.toNatClampNeg (j13_A6 y_58.toNatClampNeg))) (ws' := [(h, .inr (7, oM r i j)), ((r 50), .inl (cI, 22, .inl f50)), ((r 52), .inl (cI, 22, .inl f52)), ((r 53), .inl (cI, 22, .inl f53)), ((r 54), .inl (cI, 1100, .inl (upd j13_A4 j13_L3.toNatClampNeg (j13_A4 y_30.toNatClampNeg)))), ((r 55), .inl (cI, 1100, .inl (upd j13_A5 j13_L3.toNatClampNeg (j13_A5 y_44.toNatClampNeg)))), ((r 56), .inl (cI, 1100, .inl (upd j13_A6 j13_L3.toNatClampNeg (j13_A6 y_58.toNatClampNeg)))), ((r 57), .inl (cI, 1100, .inl j13_A7))]) hx hb hK hP hD hS 6 0 rfl rfl (iR_vp f_19_1 (by decide +kernel)) rfl rfl dX7_writesDown_60 (fun H locs hP hD hS => ?_)
          refine lv_aload_n hx hb dX7_writesDown_61 rfl (lv_at hl 0 rfl) ?_
          refine k_get (D := (dC, dI)) (ci := 7) (v := .ref (r 57)) (C := RX7) (T := TX7) (N := 92) hx hb hts hinX7 hown hK hP 0 rfl rfl 57 (by decide) w_6 rfl rfl dX7_writesDown_62 ?_
          refine lv_iload_n hx hb dX7_writesDown_65 rfl (lv_at hl 3 rfl) ?_
          refine lv_aload_n hx hb dX7_writesDown_66 rfl (lv_at hl 0 rfl) ?_
          refine k_get (D := (dC, dI)) (ci := 7) (v := .ref (r 57)) (C := RX7) (T := TX7) (N := 92) hx hb hts hinX7 hown hK hP 0 rfl rfl 57 (by decide) w_6 rfl rfl dX7_writesDown_67 ?_
          refine lv_iload_n hx hb dX7_writesDown_70 rfl (lv_at hl 3 rfl) ?_
          refine lv_iconst (v := 1) hx hb dX7_writesDown_71 (by decide +kernel) ?_
          refine lv_iadd hx hb dX7_writesDown_72 ?_
          refine lv_topi (fun y_72 ey_72 => ?_)
          have f_72_5 : iR y_72 1 49 := iR_add ey_72 f_19_1 (iR_c (n := 1) (by decide +kernel) (by decide +kernel)) (by decide +kernel)
          refine va_iald hx hb hK hP 7 0 rfl rfl (iR_vp f_72_5 (by decide +kernel)) dX7_writesDown_73 ?_
          refine s_iast (g := (upd j13_A7 j13_L3.toNatClampNeg (j13_A7 y_72.toNatClampNeg))) (ws' := [(h, .inr (7, oM r i j)), ((r 50), .inl (cI, 22, .inl f50)), ((r 52), .inl (cI, 22, .inl f52)), ((r 53), .inl (cI, 22, .inl f53)), ((r 54), .inl (cI, 1100, .inl (upd j13_A4 j13_L3.toNatClampNeg (j13_A4 y_30.toNatClampNeg)))), ((r 55), .inl (cI, 1100, .inl (upd j13_A5 j13_L3.toNatClampNeg (j13_A5 y_44.toNatClampNeg)))), ((r 56), .inl (cI, 1100, .inl (upd j13_A6 j13_L3.toNatClampNeg (j13_A6 y_58.toNatClampNeg)))), ((r 57), .inl (cI, 1100, .inl (upd j13_A7 j13_L3.toNatClampNeg (j13_A7 y_72.toNatClampNeg))))]) hx hb hK hP hD hS 7 0 rfl rfl (iR_vp f_19_1 (by decide +kernel)) rfl rfl dX7_writesDown_74 (fun H locs hP hD hS => ?_)
          obtain ⟨y_75, ey_75⟩ : ∃ y : Int32, y = j13_L3 + 1 := ⟨_, rfl⟩
          refine lv_iinc (v := y_75) (lv' := [(3, .int y_75), (0, .ref h), (1, .int x1), (2, .int x2)]) hx hb dX7_writesDown_75 hl (k := 3) rfl ey_75.symm (by decide) rfl (fun ls hl => ?_)
          have f_75_6 : iR y_75 1 49 := iR_add ey_75 f_19_1 (iR_c (n := 1) (by decide +kernel) (by decide +kernel)) (by decide +kernel)
          refine lv_goto (tgt := 13) hx hb dX7_writesDown_78 (by decide) ?_
          exact ih_13 (upd j13_A4 j13_L3.toNatClampNeg (j13_A4 y_30.toNatClampNeg)) (upd j13_A5 j13_L3.toNatClampNeg (j13_A5 y_44.toNatClampNeg)) (upd j13_A6 j13_L3.toNatClampNeg (j13_A6 y_58.toNatClampNeg)) (upd j13_A7 j13_L3.toNatClampNeg (j13_A7 y_72.toNatClampNeg)) y_75 (iR_w f_75_6 (by decide +kernel)) (m_up (B := 49) hm_13 ey_75 f_19_1 (by decide +kernel)) H locs ls hP hD hS (lv_sub hl [1, 2, 3, 0] rfl)
    refine lv_istore_n (lv' := [(3, .int 0), (0, .ref h), (1, .int x1), (2, .int x2)]) hx hb dX7_writesDown_12 rfl hl (by decide) rfl (fun ls hl => ?_)
    exact J_13 _ f54 f55 f56 f57 0 (iR_c (n := 0) (by decide +kernel) (by decide +kernel)) (Nat.lt_succ_self _) H locs ls hP hD hS (lv_sub hl [1, 2, 3, 0] rfl)
