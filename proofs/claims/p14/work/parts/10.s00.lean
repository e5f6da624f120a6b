set_option maxHeartbeats 8000000 in
set_option maxRecDepth 100000 in
theorem s_X7_ring_v0 (l : Launch) (dC : Nat → ClassId) (dI : Nat → Nat → Nat) (cI cJ cZ cM : ClassId) (h : Nat) (r : Nat → Nat) (i : Nat → Int32) (j : Nat → Int64) (x1 : Int32) (hx1 : iR x1 0 20) (hI : mR i) : k_Mi l yX7_ring wsX7_ring ({ frames := 1, cells := 0, slots := 0, locals := 40 }) (dC, dI) vwCl (tyy cI cJ cZ cM) [(h, .inr (7, oM r i j))] [.ref h, .int x1] 0 0 (fun (u9 : Unit) => [(h, .inr (7, oM r i j))]) (fun (r9 : Int32) (u9 : Unit) => (iR r9 2 21)) := by
  refine fun sz => k_enter (cc := cX7_ring) (maxL := 2) (ret := some (.int)) (Qc := fun A => va_Qi (fun (r9 : Int32) (u9 : Unit) => (iR r9 2 21)) (fun u => k_B (dC, dI) vwCl (tyy cI cJ cZ cM) A ((fun (u9 : Unit) => [(h, .inr (7, oM r i j))]) u)) A) sz (by decide +kernel) rfl (Nat.le_of_ble_eq_true rfl) (fun p e s m args below meth c A ls H locs B hP hD hS hl => ?_)
  obtain ⟨hx, hb, hml, hown, hts, hr, hlk, hnm, hK, hA, hN, hC⟩ := id B
  have hown : s.vm.findClass RX7 = some m.cls := hown
  have hl : lv_has ls 2 [(0, .ref h), (1, .int x1)] := hl
  have w_0 : (Cond.fieldLink RX7 189 "WishSeaModel" "undoFirst" "I").before args s = true := hts _ (List.mem_of_getElem? (i := 1) rfl)
  have hinX7 : ∀ w ∈ u_ws RX7 TX7 92, w ∈ wsX7_ring := fun _ h => List.mem_cons_of_mem _ (List.mem_append_right _ h)
  refine lv_iconst (v := 2) hx hb dX7_ring_0 (by decide +kernel) ?_
  refine lv_aload_n hx hb dX7_ring_1 rfl (lv_at hl 0 rfl) ?_
  have f_2_1 : iR (i 58) 0 19 := hI 58
  refine k_get (D := (dC, dI)) (ci := 7) (v := .int (i 58)) (C := RX7) (T := TX7) (N := 92) hx hb hts hinX7 hown hK hP 0 rfl rfl 58 (by decide) w_0 rfl rfl dX7_ring_2 ?_
  refine lv_iload_n hx hb dX7_ring_5 rfl (lv_at hl 1 rfl) ?_
  refine lv_iadd hx hb dX7_ring_6 ?_
  refine lv_topi (fun y_6 ey_6 => ?_)
  have f_6_2 : iR y_6 0 39 := iR_add ey_6 f_2_1 hx1 (by decide +kernel)
  refine lv_bipush (v := 20) hx hb dX7_ring_7 (by decide +kernel) ?_
  refine lv_irem hx hb dX7_ring_9 (i_nz (iR_c (n := 20) (a := 20) (b := 20) (by decide +kernel) (by decide +kernel)) (by decide +kernel)) ?_
  refine lv_topi (fun y_9 ey_9 => ?_)
  have f_9_3 : iR y_9 0 19 := iR_rem ey_9 f_6_2 (iR_c (n := 20) (a := 20) (b := 20) (by decide +kernel) (by decide +kernel)) (by decide +kernel)
  refine lv_iadd hx hb dX7_ring_10 ?_
  refine lv_topi (fun y_10 ey_10 => ?_)
  have f_10_4 : iR y_10 2 21 := iR_add ey_10 (iR_c (n := 2) (a := 2) (b := 2) (by decide +kernel) (by decide +kernel)) f_9_3 (by decide +kernel)
  exact k_ri B hP hD hS dX7_ring_11 () [0] rfl rfl rfl (Nat.le_of_ble_eq_true rfl) (Nat.le_of_ble_eq_true rfl) f_10_4
set_option maxHeartbeats 8000000 in
set_option maxRecDepth 100000 in
theorem s_X7_is_v0 (l : Launch) (dC : Nat → ClassId) (dI : Nat → Nat → Nat) (cI cJ cZ cM : ClassId) (x0 : Int32) (x1 : Int32) (x2 : Int32)  : k_Mi l yX7_is wsX7_is ({ frames := 1, cells := 0, slots := 0, locals := 40 }) (dC, dI) vwCl (tyy cI cJ cZ cM) [] [.int x0, .int x1, .int x2] 0 0 (fun (u9 : Unit) => []) (fun (r9 : Int32) (u9 : Unit) => (iR r9 0 1) ∧ ((r9 = 0) ∨ ((x1 ≤ x0) ∧ (x0 ≤ x2)))) := by
  refine fun sz => k_enter (cc := cX7_is) (maxL := 3) (ret := some (.boolean)) (Qc := fun A => va_Qi (fun (r9 : Int32) (u9 : Unit) => (iR r9 0 1) ∧ ((r9 = 0) ∨ ((x1 ≤ x0) ∧ (x0 ≤ x2)))) (fun u => k_B (dC, dI) vwCl (tyy cI cJ cZ cM) A ((fun (u9 : Unit) => []) u)) A) sz (by decide +kernel) rfl (Nat.le_of_ble_eq_true rfl) (fun p e s m args below meth c A ls H locs B hP hD hS hl => ?_)
  obtain ⟨hx, hb, hml, hown, hts, hr, hlk, hnm, hK, hA, hN, hC⟩ := id B
  have hown : s.vm.findClass RX7 = some m.cls := hown
  have hl : lv_has ls 3 [(0, .int x0), (1, .int x1), (2, .int x2)] := hl
  refine lv_iload_n hx hb dX7_is_0 rfl (lv_at hl 0 rfl) ?_
  refine lv_iload_n hx hb dX7_is_1 rfl (lv_at hl 1 rfl) ?_
  have J_14 : ∀   (H : Heap) (locs : List Loc) (ls : Array Slot), va_P (dC, dI) vwCl [] H → va_D A [] → va_S A s.heap H locs → lv_has ls 3 [] → W p l e ({ frames := 1, cells := 0, slots := 0, locals := 40 }) s m args below meth c H locs 0 0 (MQ below (va_Qi (fun (r9 : Int32) (u9 : Unit) => (iR r9 0 1) ∧ ((r9 = 0) ∨ ((x1 ≤ x0) ∧ (x0 ≤ x2)))) (fun u => k_B (dC, dI) vwCl (tyy cI cJ cZ cM) A ((fun (u9 : Unit) => []) u)) A) args s 0 0 A) (F0 m 14 ls []) := by
    intro   H locs ls hP hD hS hl
    refine lv_iconst (v := 0) hx hb dX7_is_14 (by decide +kernel) ?_
    exact k_ri B hP hD hS dX7_is_15 () [] rfl rfl rfl (Nat.le_of_ble_eq_true rfl) (Nat.le_of_ble_eq_true rfl) ⟨(iR_c (n := 0) (a := 0) (b := 1) (by decide +kernel) (by decide +kernel)), (Or.inl rfl)⟩
  refine lv_icmp_lt (tgt := 14) hx hb dX7_is_2 (by decide) (fun c_2 => ?_) (fun c_2 => ?_)
  · have c_2 : x0 < x1 := c_2
    have f_14_1 : iR x0 (-2147483648) 2147483646 := iR_ltL c_2 (iR_top _) (iR_top _) (by decide +kernel)
    have f_14_2 : iR x1 (-2147483647) 2147483647 := iR_ltR c_2 (iR_top _) (iR_top _) (by decide +kernel)
    exact J_14   H locs ls hP hD hS (lv_sub hl [] rfl)
  · have c_2 : x1 ≤ x0 := i_nlt c_2
    refine lv_iload_n hx hb dX7_is_5 rfl (lv_at hl 0 rfl) ?_
    refine lv_iload_n hx hb dX7_is_6 rfl (lv_at hl 2 rfl) ?_
    refine lv_icmp_gt (tgt := 14) hx hb dX7_is_7 (by decide) (fun c_7 => ?_) (fun c_7 => ?_)
    · have c_7 : x2 < x0 := c_7
      have f_14_1 : iR x2 (-2147483648) 2147483646 := iR_ltL c_7 (iR_top _) (iR_top _) (by decide +kernel)
      have f_14_2 : iR x0 (-2147483647) 2147483647 := iR_ltR c_7 (iR_top _) (iR_top _) (by decide +kernel)
      exact J_14   H locs ls hP hD hS (lv_sub hl [] rfl)
    · have c_7 : x0 ≤ x2 := i_nlt c_7
      refine lv_iconst (v := 1) hx hb dX7_is_10 (by decide +kernel) ?_
      refine lv_goto (tgt := 15) hx hb dX7_is_11 (by decide) ?_
      exact k_ri B hP hD hS dX7_is_15 () [] rfl rfl rfl (Nat.le_of_ble_eq_true rfl) (Nat.le_of_ble_eq_true rfl) ⟨(iR_c (n := 1) (a := 0) (b := 1) (by decide +kernel) (by decide +kernel)), (Or.inr ⟨c_2, c_7⟩)⟩
set_option maxHeartbeats 8000000 in
set_option maxRecDepth 100000 in
theorem s_X7_isLetter_v0 (l : Launch) (dC : Nat → ClassId) (dI : Nat → Nat → Nat) (cI cJ cZ cM : ClassId) (x0 : Int32)  : k_Mi l yX7_isLetter wsX7_isLetter ({ frames := 1, cells := 0, slots := 0, locals := 40 }) (dC, dI) vwCl (tyy cI cJ cZ cM) [] [.int x0] 0 0 (fun (u9 : Unit) => []) (fun (r9 : Int32) (u9 : Unit) => (iR r9 0 1) ∧ ((r9 = 0) ∨ ((97 ≤ x0) ∧ (x0 ≤ 122)))) := by
  refine fun sz => k_enter (cc := cX7_isLetter) (maxL := 1) (ret := some (.boolean)) (Qc := fun A => va_Qi (fun (r9 : Int32) (u9 : Unit) => (iR r9 0 1) ∧ ((r9 = 0) ∨ ((97 ≤ x0) ∧ (x0 ≤ 122)))) (fun u => k_B (dC, dI) vwCl (tyy cI cJ cZ cM) A ((fun (u9 : Unit) => []) u)) A) sz (by decide +kernel) rfl (Nat.le_of_ble_eq_true rfl) (fun p e s m args below meth c A ls H locs B hP hD hS hl => ?_)
  obtain ⟨hx, hb, hml, hown, hts, hr, hlk, hnm, hK, hA, hN, hC⟩ := id B
  have hown : s.vm.findClass RX7 = some m.cls := hown
  have hl : lv_has ls 1 [(0, .int x0)] := hl
  refine lv_iload_n hx hb dX7_isLetter_0 rfl (lv_at hl 0 rfl) ?_
  refine lv_bipush (v := 97) hx hb dX7_isLetter_1 (by decide +kernel) ?_
  have J_16 : ∀   (H : Heap) (locs : List Loc) (ls : Array Slot), va_P (dC, dI) vwCl [] H → va_D A [] → va_S A s.heap H locs → lv_has ls 1 [] → W p l e ({ frames := 1, cells := 0, slots := 0, locals := 40 }) s m args below meth c H locs 0 0 (MQ below (va_Qi (fun (r9 : Int32) (u9 : Unit) => (iR r9 0 1) ∧ ((r9 = 0) ∨ ((97 ≤ x0) ∧ (x0 ≤ 122)))) (fun u => k_B (dC, dI) vwCl (tyy cI cJ cZ cM) A ((fun (u9 : Unit) => []) u)) A) args s 0 0 A) (F0 m 16 ls []) := by
    intro   H locs ls hP hD hS hl
    refine lv_iconst (v := 0) hx hb dX7_isLetter_16 (by decide +kernel) ?_
    exact k_ri B hP hD hS dX7_isLetter_17 () [] rfl rfl rfl (Nat.le_of_ble_eq_true rfl) (Nat.le_of_ble_eq_true rfl) ⟨(iR_c (n := 0) (a := 0) (b := 1) (by decide +kernel) (by decide +kernel)), (Or.inl rfl)⟩
  refine lv_icmp_lt (tgt := 16) hx hb dX7_isLetter_3 (by decide) (fun c_3 => ?_) (fun c_3 => ?_)
  · have c_3 : x0 < 97 := c_3
    have f_16_1 : iR x0 (-2147483648) 96 := iR_ltL c_3 (iR_top _) (iR_c (n := 97) (a := 97) (b := 97) (by decide +kernel) (by decide +kernel)) (by decide +kernel)
    exact J_16   H locs ls hP hD hS (lv_sub hl [] rfl)
  · have c_3 : 97 ≤ x0 := i_nlt c_3
    have f_6_1 : iR x0 97 2147483647 := iR_leR c_3 (iR_c (n := 97) (a := 97) (b := 97) (by decide +kernel) (by decide +kernel)) (iR_top _) (by decide +kernel)
    refine lv_iload_n hx hb dX7_isLetter_6 rfl (lv_at hl 0 rfl) ?_
    refine lv_bipush (v := 122) hx hb dX7_isLetter_7 (by decide +kernel) ?_
    refine lv_icmp_gt (tgt := 16) hx hb dX7_isLetter_9 (by decide) (fun c_9 => ?_) (fun c_9 => ?_)
    · have c_9 : 122 < x0 := c_9
      have f_16_2 : iR x0 123 2147483647 := iR_ltR c_9 (iR_c (n := 122) (a := 122) (b := 122) (by decide +kernel) (by decide +kernel)) f_6_1 (by decide +kernel)
      exact J_16   H locs ls hP hD hS (lv_sub hl [] rfl)
    · have c_9 : x0 ≤ 122 := i_nlt c_9
      have f_12_2 : iR x0 97 122 := iR_leL c_9 f_6_1 (iR_c (n := 122) (a := 122) (b := 122) (by decide +kernel) (by decide +kernel)) (by decide +kernel)
      refine lv_iconst (v := 1) hx hb dX7_isLetter_12 (by decide +kernel) ?_
      refine lv_goto (tgt := 17) hx hb dX7_isLetter_13 (by decide) ?_
      exact k_ri B hP hD hS dX7_isLetter_17 () [] rfl rfl rfl (Nat.le_of_ble_eq_true rfl) (Nat.le_of_ble_eq_true rfl) ⟨(iR_c (n := 1) (a := 0) (b := 1) (by decide +kernel) (by decide +kernel)), (Or.inr ⟨c_3, c_9⟩)⟩
set_option maxHeartbeats 8000000 in
set_option maxRecDepth 100000 in
theorem s_X7_isDigit_v0 (l : Launch) (dC : Nat → ClassId) (dI : Nat → Nat → Nat) (cI cJ cZ cM : ClassId) (x0 : Int32)  : k_Mi l yX7_isDigit wsX7_isDigit ({ frames := 1, cells := 0, slots := 0, locals := 40 }) (dC, dI) vwCl (tyy cI cJ cZ cM) [] [.int x0] 0 0 (fun (u9 : Unit) => []) (fun (r9 : Int32) (u9 : Unit) => (iR r9 0 1) ∧ ((r9 = 0) ∨ ((48 ≤ x0) ∧ (x0 ≤ 57)))) := by
  refine fun sz => k_enter (cc := cX7_isDigit) (maxL := 1) (ret := some (.boolean)) (Qc := fun A => va_Qi (fun (r9 : Int32) (u9 : Unit) => (iR r9 0 1) ∧ ((r9 = 0) ∨ ((48 ≤ x0) ∧ (x0 ≤ 57)))) (fun u => k_B (dC, dI) vwCl (tyy cI cJ cZ cM) A ((fun (u9 : Unit) => []) u)) A) sz (by decide +kernel) rfl (Nat.le_of_ble_eq_true rfl) (fun p e s m args below meth c A ls H locs B hP hD hS hl => ?_)
  obtain ⟨hx, hb, hml, hown, hts, hr, hlk, hnm, hK, hA, hN, hC⟩ := id B
  have hown : s.vm.findClass RX7 = some m.cls := hown
  have hl : lv_has ls 1 [(0, .int x0)] := hl
  refine lv_iload_n hx hb dX7_isDigit_0 rfl (lv_at hl 0 rfl) ?_
  refine lv_bipush (v := 48) hx hb dX7_isDigit_1 (by decide +kernel) ?_
  have J_16 : ∀   (H : Heap) (locs : List Loc) (ls : Array Slot), va_P (dC, dI) vwCl [] H → va_D A [] → va_S A s.heap H locs → lv_has ls 1 [] → W p l e ({ frames := 1, cells := 0, slots := 0, locals := 40 }) s m args below meth c H locs 0 0 (MQ below (va_Qi (fun (r9 : Int32) (u9 : Unit) => (iR r9 0 1) ∧ ((r9 = 0) ∨ ((48 ≤ x0) ∧ (x0 ≤ 57)))) (fun u => k_B (dC, dI) vwCl (tyy cI cJ cZ cM) A ((fun (u9 : Unit) => []) u)) A) args s 0 0 A) (F0 m 16 ls []) := by
    intro   H locs ls hP hD hS hl
    refine lv_iconst (v := 0) hx hb dX7_isDigit_16 (by decide +kernel) ?_
    exact k_ri B hP hD hS dX7_isDigit_17 () [] rfl rfl rfl (Nat.le_of_ble_eq_true rfl) (Nat.le_of_ble_eq_true rfl) ⟨(iR_c (n := 0) (a := 0) (b := 1) (by decide +kernel) (by decide +kernel)), (Or.inl rfl)⟩
  refine lv_icmp_lt (tgt := 16) hx hb dX7_isDigit_3 (by decide) (fun c_3 => ?_) (fun c_3 => ?_)
  · have c_3 : x0 < 48 := c_3
    have f_16_1 : iR x0 (-2147483648) 47 := iR_ltL c_3 (iR_top _) (iR_c (n := 48) (a := 48) (b := 48) (by decide +kernel) (by decide +kernel)) (by decide +kernel)
    exact J_16   H locs ls hP hD hS (lv_sub hl [] rfl)
  · have c_3 : 48 ≤ x0 := i_nlt c_3
    have f_6_1 : iR x0 48 2147483647 := iR_leR c_3 (iR_c (n := 48) (a := 48) (b := 48) (by decide +kernel) (by decide +kernel)) (iR_top _) (by decide +kernel)
    refine lv_iload_n hx hb dX7_isDigit_6 rfl (lv_at hl 0 rfl) ?_
    refine lv_bipush (v := 57) hx hb dX7_isDigit_7 (by decide +kernel) ?_
    refine lv_icmp_gt (tgt := 16) hx hb dX7_isDigit_9 (by decide) (fun c_9 => ?_) (fun c_9 => ?_)
    · have c_9 : 57 < x0 := c_9
      have f_16_2 : iR x0 58 2147483647 := iR_ltR c_9 (iR_c (n := 57) (a := 57) (b := 57) (by decide +kernel) (by decide +kernel)) f_6_1 (by decide +kernel)
      exact J_16   H locs ls hP hD hS (lv_sub hl [] rfl)
    · have c_9 : x0 ≤ 57 := i_nlt c_9
      have f_12_2 : iR x0 48 57 := iR_leL c_9 f_6_1 (iR_c (n := 57) (a := 57) (b := 57) (by decide +kernel) (by decide +kernel)) (by decide +kernel)
      refine lv_iconst (v := 1) hx hb dX7_isDigit_12 (by decide +kernel) ?_
      refine lv_goto (tgt := 17) hx hb dX7_isDigit_13 (by decide) ?_
      exact k_ri B hP hD hS dX7_isDigit_17 () [] rfl rfl rfl (Nat.le_of_ble_eq_true rfl) (Nat.le_of_ble_eq_true rfl) ⟨(iR_c (n := 1) (a := 0) (b := 1) (by decide +kernel) (by decide +kernel)), (Or.inr ⟨c_3, c_9⟩)⟩
set_option maxHeartbeats 8000000 in
set_option maxRecDepth 100000 in
theorem s_X7_blame_v0 (l : Launch) (dC : Nat → ClassId) (dI : Nat → Nat → Nat) (cI cJ cZ cM : ClassId) (h : Nat) (r : Nat → Nat) (i : Nat → Int32) (j : Nat → Int64) (x1 : Int32) (x2 : Int32) (hx1 : iR x1 1 6) (hI : mR i) : k_Mv l yX7_blame wsX7_blame ({ frames := 1, cells := 0, slots := 0, locals := 40 }) (dC, dI) vwCl (tyy cI cJ cZ cM) [(h, .inr (7, oM r i j))] [.ref h, .int x1, .int x2] 0 0 (fun (u9 : SU) => [(h, .inr (7, oM r (upd (upd i 8 (u9.1 0)) 9 (u9.1 1)) j))]) (fun (u9 : SU) => (iR (u9.1 0) 1 6)) := by
  refine fun sz => k_enter (cc := cX7_blame) (maxL := 3) (ret := none) (Qc := fun A => va_Qv (fun (u9 : SU) => (iR (u9.1 0) 1 6)) (fun u => k_B (dC, dI) vwCl (tyy cI cJ cZ cM) A ((fun (u9 : SU) => [(h, .inr (7, oM r (upd (upd i 8 (u9.1 0)) 9 (u9.1 1)) j))]) u)) A) sz (by decide +kernel) rfl (Nat.le_of_ble_eq_true rfl) (fun p e s m args below meth c A ls H locs B hP hD hS hl => ?_)
  obtain ⟨hx, hb, hml, hown, hts, hr, hlk, hnm, hK, hA, hN, hC⟩ := id B
  have hown : s.vm.findClass RX7 = some m.cls := hown
  have hl : lv_has ls 3 [(0, .ref h), (1, .int x1), (2, .int x2)] := hl
  have w_0 : (Cond.fieldLink RX7 36 "WishSeaModel" "faultKind" "I").before args s = true := hts _ (List.mem_of_getElem? (i := 1) rfl)
  have w_1 : (Cond.fieldLink RX7 39 "WishSeaModel" "faultPlace" "I").before args s = true := hts _ (List.mem_of_getElem? (i := 2) rfl)
  have hinX7 : ∀ w ∈ u_ws RX7 TX7 92, w ∈ wsX7_blame := fun _ h => List.mem_cons_of_mem _ (List.mem_append_right _ h)
  refine lv_aload_n hx hb dX7_blame_0 rfl (lv_at hl 0 rfl) ?_
  have f_1_1 : iR (i 8) 0 6 := hI 8
  refine k_get (D := (dC, dI)) (ci := 7) (v := .int (i 8)) (C := RX7) (T := TX7) (N := 92) hx hb hts hinX7 hown hK hP 0 rfl rfl 8 (by decide) w_0 rfl rfl dX7_blame_1 ?_
  refine lv_if_le (tgt := 8) hx hb dX7_blame_4 (by decide) (fun c_4 => ?_) (fun c_4 => ?_)
  · have c_4 : (i 8) ≤ 0 := c_4
    have f_8_2 : iR (i 8) 0 0 := iR_leL c_4 f_1_1 (iR_c (n := 0) (a := 0) (b := 0) (by decide +kernel) (by decide +kernel)) (by decide +kernel)
    refine lv_aload_n hx hb dX7_blame_8 rfl (lv_at hl 0 rfl) ?_
    refine lv_iload_n hx hb dX7_blame_9 rfl (lv_at hl 1 rfl) ?_
    refine k_put (D := (dC, dI)) (ci := 7) (v := .int x1) (C := RX7) (T := TX7) (N := 92) (ws' := [(h, .inr (7, oM r (upd i 8 x1) j))]) hx hb hts hinX7 tyX7 tyX7_ok nmX7 hown hK hP hD hS 0 rfl rfl 8 (by decide) w_0 rfl rfl rfl rfl (Nat.le_of_ble_eq_true rfl) rfl dX7_blame_10 (fun H locs hP hD hS => ?_)
    refine lv_aload_n hx hb dX7_blame_13 rfl (lv_at hl 0 rfl) ?_
    refine lv_iload_n hx hb dX7_blame_14 rfl (lv_at hl 2 rfl) ?_
    refine k_put (D := (dC, dI)) (ci := 7) (v := .int x2) (C := RX7) (T := TX7) (N := 92) (ws' := [(h, .inr (7, oM r (upd (upd i 8 x1) 9 x2) j))]) hx hb hts hinX7 tyX7 tyX7_ok nmX7 hown hK hP hD hS 0 rfl rfl 9 (by decide) w_1 rfl rfl rfl rfl (Nat.le_of_ble_eq_true rfl) rfl dX7_blame_15 (fun H locs hP hD hS => ?_)
    exact k_rv B hP hD hS dX7_blame_18 ((fun k9 => match k9 with | 0 => x1 | 1 => x2 | _ => 0), (fun _ => 0), (fun _ => (fun _ => 0)), (fun _ => (fun _ => 0)), (fun _ => 0)) [0] rfl rfl (Nat.le_of_ble_eq_true rfl) (Nat.le_of_ble_eq_true rfl) hx1
  · have c_4 : 0 < (i 8) := i_nle c_4
    have f_7_2 : iR (i 8) 1 6 := iR_ltR c_4 (iR_c (n := 0) (a := 0) (b := 0) (by decide +kernel) (by decide +kernel)) f_1_1 (by decide +kernel)
    exact k_rv B hP hD hS dX7_blame_7 ((fun k9 => match k9 with | 0 => (i 8) | 1 => (i 9) | _ => 0), (fun _ => 0), (fun _ => (fun _ => 0)), (fun _ => (fun _ => 0)), (fun _ => 0)) [0] rfl rfl (Nat.le_of_ble_eq_true rfl) (Nat.le_of_ble_eq_true rfl) f_7_2
set_option maxHeartbeats 8000000 in
set_option maxRecDepth 100000 in
theorem s_X7_blame_v1 (l : Launch) (dC : Nat → ClassId) (dI : Nat → Nat → Nat) (cI cJ cZ cM : ClassId) (h : Nat) (r : Nat → Nat) (i : Nat → Int32) (j : Nat → Int64) (x1 : Int32) (x2 : Int32) (hx1 : iR x1 1 6) (hI : mR i) : k_Mv l yX7_blame wsX7_blame ({ frames := 1, cells := 0, slots := 0, locals := 40 }) (dC, dI) vwCl (tyy cI cJ cZ cM) [(h, .inr (7, oM r i j))] [.ref h, .int x1, .int x2] 0 0 (fun (u9 : SU) => [(h, .inr (7, oM r (upd (upd i 8 (u9.1 0)) 9 (u9.1 1)) j))]) (fun (u9 : SU) => (iR (u9.1 0) 1 6)) := by
  refine fun sz => k_enter (cc := cX7_blame) (maxL := 3) (ret := none) (Qc := fun A => va_Qv (fun (u9 : SU) => (iR (u9.1 0) 1 6)) (fun u => k_B (dC, dI) vwCl (tyy cI cJ cZ cM) A ((fun (u9 : SU) => [(h, .inr (7, oM r (upd (upd i 8 (u9.1 0)) 9 (u9.1 1)) j))]) u)) A) sz (by decide +kernel) rfl (Nat.le_of_ble_eq_true rfl) (fun p e s m args below meth c A ls H locs B hP hD hS hl => ?_)
  obtain ⟨hx, hb, hml, hown, hts, hr, hlk, hnm, hK, hA, hN, hC⟩ := id B
  have hown : s.vm.findClass RX7 = some m.cls := hown
  have hl : lv_has ls 3 [(0, .ref h), (1, .int x1), (2, .int x2)] := hl
  have w_0 : (Cond.fieldLink RX7 36 "WishSeaModel" "faultKind" "I").before args s = true := hts _ (List.mem_of_getElem? (i := 1) rfl)
  have w_1 : (Cond.fieldLink RX7 39 "WishSeaModel" "faultPlace" "I").before args s = true := hts _ (List.mem_of_getElem? (i := 2) rfl)
  have hinX7 : ∀ w ∈ u_ws RX7 TX7 92, w ∈ wsX7_blame := fun _ h => List.mem_cons_of_mem _ (List.mem_append_right _ h)
  refine lv_aload_n hx hb dX7_blame_0 rfl (lv_at hl 0 rfl) ?_
  have f_1_1 : iR (i 8) 0 6 := hI 8
  refine k_get (D := (dC, dI)) (ci := 7) (v := .int (i 8)) (C := RX7) (T := TX7) (N := 92) hx hb hts hinX7 hown hK hP 0 rfl rfl 8 (by decide) w_0 rfl rfl dX7_blame_1 ?_
  refine lv_if_le (tgt := 8) hx hb dX7_blame_4 (by decide) (fun c_4 => ?_) (fun c_4 => ?_)
  · have c_4 : (i 8) ≤ 0 := c_4
    have f_8_2 : iR (i 8) 0 0 := iR_leL c_4 f_1_1 (iR_c (n := 0) (a := 0) (b := 0) (by decide +kernel) (by decide +kernel)) (by decide +kernel)
    refine lv_aload_n hx hb dX7_blame_8 rfl (lv_at hl 0 rfl) ?_
    refine lv_iload_n hx hb dX7_blame_9 rfl (lv_at hl 1 rfl) ?_
    refine k_put (D := (dC, dI)) (ci := 7) (v := .int x1) (C := RX7) (T := TX7) (N := 92) (ws' := [(h, .inr (7, oM r (upd i 8 x1) j))]) hx hb hts hinX7 tyX7 tyX7_ok nmX7 hown hK hP hD hS 0 rfl rfl 8 (by decide) w_0 rfl rfl rfl rfl (Nat.le_of_ble_eq_true rfl) rfl dX7_blame_10 (fun H locs hP hD hS => ?_)
    refine lv_aload_n hx hb dX7_blame_13 rfl (lv_at hl 0 rfl) ?_
    refine lv_iload_n hx hb dX7_blame_14 rfl (lv_at hl 2 rfl) ?_
    refine k_put (D := (dC, dI)) (ci := 7) (v := .int x2) (C := RX7) (T := TX7) (N := 92) (ws' := [(h, .inr (7, oM r (upd (upd i 8 x1) 9 x2) j))]) hx hb hts hinX7 tyX7 tyX7_ok nmX7 hown hK hP hD hS 0 rfl rfl 9 (by decide) w_1 rfl rfl rfl rfl (Nat.le_of_ble_eq_true rfl) rfl dX7_blame_15 (fun H locs hP hD hS => ?_)
    exact k_rv B hP hD hS dX7_blame_18 ((fun k9 => match k9 with | 0 => x1 | 1 => x2 | _ => 0), (fun _ => 0), (fun _ => (fun _ => 0)), (fun _ => (fun _ => 0)), (fun _ => 0)) [0] rfl rfl (Nat.le_of_ble_eq_true rfl) (Nat.le_of_ble_eq_true rfl) hx1
  · have c_4 : 0 < (i 8) := i_nle c_4
    have f_7_2 : iR (i 8) 1 6 := iR_ltR c_4 (iR_c (n := 0) (a := 0) (b := 0) (by decide +kernel) (by decide +kernel)) f_1_1 (by decide +kernel)
    exact k_rv B hP hD hS dX7_blame_7 ((fun k9 => match k9 with | 0 => (i 8) | 1 => (i 9) | _ => 0), (fun _ => 0), (fun _ => (fun _ => 0)), (fun _ => (fun _ => 0)), (fun _ => 0)) [0] rfl rfl (Nat.le_of_ble_eq_true rfl) (Nat.le_of_ble_eq_true rfl) f_7_2
set_option maxHeartbeats 8000000 in
set_option maxRecDepth 100000 in
theorem s_X7_lex_v0 (l : Launch) (dC : Nat → ClassId) (dI : Nat → Nat → Nat) (cI cJ cZ cM : ClassId) (h : Nat) (r : Nat → Nat) (i : Nat → Int32) (j : Nat → Int64) (hI : mR i) : k_Mv l yX7_lex wsX7_lex ({ frames := 2, cells := 0, slots := 0, locals := 62 }) (dC, dI) vwCl (tyy cI cJ cZ cM) [(h, .inr (7, oM r i j))] [.ref h] 0 0 (fun (u9 : SU) => [(h, .inr (7, oM r (upd (upd i 8 (u9.1 0)) 9 (u9.1 1)) j))]) (fun (u9 : SU) => (iR (u9.1 0) 0 6)) := by
  refine fun sz => k_enter (cc := cX7_lex) (maxL := 1) (ret := none) (Qc := fun A => va_Qv (fun (u9 : SU) => (iR (u9.1 0) 0 6)) (fun u => k_B (dC, dI) vwCl (tyy cI cJ cZ cM) A ((fun (u9 : SU) => [(h, .inr (7, oM r (upd (upd i 8 (u9.1 0)) 9 (u9.1 1)) j))]) u)) A) sz (by decide +kernel) rfl (Nat.le_of_ble_eq_true rfl) (fun p e s m args below meth c A ls H locs B hP hD hS hl => ?_)
  obtain ⟨hx, hb, hml, hown, hts, hr, hlk, hnm, hK, hA, hN, hC⟩ := id B
  have hown : s.vm.findClass RX7 = some m.cls := hown
  have hl : lv_has ls 1 [(0, .ref h)] := hl
  have w_0 : (Cond.fieldLink RX7 48 "WishSeaModel" "lexAt" "I").before args s = true := hts _ (List.mem_of_getElem? (i := 1) rfl)
  have hinX7 : ∀ w ∈ u_ws RX7 TX7 92, w ∈ wsX7_lex := fun _ h => List.mem_cons_of_mem _ (List.mem_append_right _ h)
  refine lv_aload_n hx hb dX7_lex_0 rfl (lv_at hl 0 rfl) ?_
  refine k_get (D := (dC, dI)) (ci := 7) (v := .int (i 12)) (C := RX7) (T := TX7) (N := 92) hx hb hts hinX7 hown hK hP 0 rfl rfl 12 (by decide) w_0 rfl rfl dX7_lex_1 ?_
  refine lv_iconst (v := (-1)) hx hb dX7_lex_4 (by decide +kernel) ?_
  have J_17 : ∀ (j17_M0_8 : Int32) (j17_M0_9 : Int32) (hj17_M0_8 : iR j17_M0_8 0 6) (H : Heap) (locs : List Loc) (ls : Array Slot), va_P (dC, dI) vwCl [(h, .inr (7, oM r (upd (upd i 8 j17_M0_8) 9 j17_M0_9) j))] H → va_D A [(h, .inr (7, oM r (upd (upd i 8 j17_M0_8) 9 j17_M0_9) j))] → va_S A s.heap H locs → lv_has ls 1 [] → W p l e ({ frames := 2, cells := 0, slots := 0, locals := 62 }) s m args below meth c H locs 0 0 (MQ below (va_Qv (fun (u9 : SU) => (iR (u9.1 0) 0 6)) (fun u => k_B (dC, dI) vwCl (tyy cI cJ cZ cM) A ((fun (u9 : SU) => [(h, .inr (7, oM r (upd (upd i 8 (u9.1 0)) 9 (u9.1 1)) j))]) u)) A) args s 0 0 A) (F0 m 17 ls []) := by
    intro j17_M0_8 j17_M0_9 hj17_M0_8 H locs ls hP hD hS hl
    exact k_rv B hP hD hS dX7_lex_17 ((fun k9 => match k9 with | 0 => j17_M0_8 | 1 => j17_M0_9 | _ => 0), (fun _ => 0), (fun _ => (fun _ => 0)), (fun _ => (fun _ => 0)), (fun _ => 0)) [0] rfl rfl (Nat.le_of_ble_eq_true rfl) (Nat.le_of_ble_eq_true rfl) hj17_M0_8
  refine lv_icmp_eq (tgt := 17) hx hb dX7_lex_5 (by decide) (fun c_5 => ?_) (fun c_5 => ?_)
  · have c_5 : (i 12) = (-1) := c_5
    have f_17_1 : iR (i 12) (-1) (-1) := iR_eqL c_5 (iR_top _) (iR_c (n := (-1)) (a := (-1)) (b := (-1)) (by decide +kernel) (by decide +kernel)) (by decide +kernel)
    exact J_17 (i 8) (i 9) (show iR (i 8) 0 6 from hI 8) H locs ls hP hD hS (lv_sub hl [] rfl)
  · have c_5 : ¬ (i 12) = (-1) := c_5
    refine lv_aload_n hx hb dX7_lex_8 rfl (lv_at hl 0 rfl) ?_
    refine lv_iconst (v := 1) hx hb dX7_lex_9 (by decide +kernel) ?_
    refine lv_aload_n hx hb dX7_lex_10 rfl (lv_at hl 0 rfl) ?_
    refine k_get (D := (dC, dI)) (ci := 7) (v := .int (i 12)) (C := RX7) (T := TX7) (N := 92) hx hb hts hinX7 hown hK hP 0 rfl rfl 12 (by decide) w_0 rfl rfl dX7_lex_11 ?_
    refine k_cv (wc := [(h, .inr (7, oM r i j))]) (wr := []) (fun hPc hDc hFc => va_runV (As := [.int 1, .int (i 12)]) (rest := []) ⟨hx, hb, hml, hown, hts⟩ (s_X7_blame_v1 l dC dI cI cJ cZ cM h r i j 1 (i 12) (iR_c (n := 1) (a := 1) (b := 6) (by decide +kernel) (by decide +kernel)) hI H.size) (cwV 2 hts gX7_lex_X7_blame rfl rfl rfl (by decide +kernel) ⟨(Nat.le_of_ble_eq_true rfl), (Nat.le_of_ble_eq_true rfl)⟩) (k_pV hPc hDc hK hN hC hS hFc hP (q0 := 0) (ci := 7) rfl rfl) rfl rfl hl.1 rfl (lv_room (Nat.le_of_ble_eq_true rfl)) dX7_lex_14 ⟨(Nat.le_of_ble_eq_true rfl), (Nat.le_of_ble_eq_true rfl)⟩) hP hD hS hA [0] [] rfl rfl rfl rfl (by decide) (fun _ => rfl) 0 0 rfl rfl (fun u_14 H locs hw hP hD hS => ?_)
    obtain g_14_0 := hw
    have hP : va_P (dC, dI) vwCl [(h, .inr (7, oM r (upd (upd i 8 (u_14.1 0)) 9 (u_14.1 1)) j))] H := hP
    have hD : va_D A [(h, .inr (7, oM r (upd (upd i 8 (u_14.1 0)) 9 (u_14.1 1)) j))] := hD
    exact J_17 (u_14.1 0) (u_14.1 1) (iR_w g_14_0 (by decide +kernel)) H locs ls hP hD hS (lv_sub hl [] rfl)
set_option maxHeartbeats 8000000 in
set_option maxRecDepth 100000 in
theorem s_X7_isTest_v0 (l : Launch) (dC : Nat → ClassId) (dI : Nat → Nat → Nat) (cI cJ cZ cM : ClassId) (x0 : Int32)  : k_Mi l yX7_isTest wsX7_isTest ({ frames := 1, cells := 0, slots := 0, locals := 40 }) (dC, dI) vwCl (tyy cI cJ cZ cM) [] [.int x0] 0 0 (fun (u9 : Unit) => []) (fun (r9 : Int32) (u9 : Unit) => (iR r9 0 1)) := by
  refine fun sz => k_enter (cc := cX7_isTest) (maxL := 1) (ret := some (.boolean)) (Qc := fun A => va_Qi (fun (r9 : Int32) (u9 : Unit) => (iR r9 0 1)) (fun u => k_B (dC, dI) vwCl (tyy cI cJ cZ cM) A ((fun (u9 : Unit) => []) u)) A) sz (by decide +kernel) rfl (Nat.le_of_ble_eq_true rfl) (fun p e s m args below meth c A ls H locs B hP hD hS hl => ?_)
  obtain ⟨hx, hb, hml, hown, hts, hr, hlk, hnm, hK, hA, hN, hC⟩ := id B
  have hown : s.vm.findClass RX7 = some m.cls := hown
  have hl : lv_has ls 1 [(0, .int x0)] := hl
  refine lv_iload_n hx hb dX7_isTest_0 rfl (lv_at hl 0 rfl) ?_
  refine lv_iconst (v := 1) hx hb dX7_isTest_1 (by decide +kernel) ?_
  have J_10 : ∀  (k10_0 : iR x0 1 5) (H : Heap) (locs : List Loc) (ls : Array Slot), va_P (dC, dI) vwCl [] H → va_D A [] → va_S A s.heap H locs → lv_has ls 1 [] → W p l e ({ frames := 1, cells := 0, slots := 0, locals := 40 }) s m args below meth c H locs 0 0 (MQ below (va_Qi (fun (r9 : Int32) (u9 : Unit) => (iR r9 0 1)) (fun u => k_B (dC, dI) vwCl (tyy cI cJ cZ cM) A ((fun (u9 : Unit) => []) u)) A) args s 0 0 A) (F0 m 10 ls []) := by
    intro  k10_0 H locs ls hP hD hS hl
    refine lv_iconst (v := 1) hx hb dX7_isTest_10 (by decide +kernel) ?_
    refine lv_goto (tgt := 15) hx hb dX7_isTest_11 (by decide) ?_
    exact k_ri B hP hD hS dX7_isTest_15 () [] rfl rfl rfl (Nat.le_of_ble_eq_true rfl) (Nat.le_of_ble_eq_true rfl) (iR_c (n := 1) (a := 0) (b := 1) (by decide +kernel) (by decide +kernel))
  refine lv_icmp_eq (tgt := 10) hx hb dX7_isTest_2 (by decide) (fun c_2 => ?_) (fun c_2 => ?_)
  · have c_2 : x0 = 1 := c_2
    have f_10_1 : iR x0 1 1 := iR_eqL c_2 (iR_top _) (iR_c (n := 1) (a := 1) (b := 1) (by decide +kernel) (by decide +kernel)) (by decide +kernel)
    exact J_10  (iR_w f_10_1 (by decide +kernel)) H locs ls hP hD hS (lv_sub hl [] rfl)
  · have c_2 : ¬ x0 = 1 := c_2
    refine lv_iload_n hx hb dX7_isTest_5 rfl (lv_at hl 0 rfl) ?_
    refine lv_iconst (v := 5) hx hb dX7_isTest_6 (by decide +kernel) ?_
    refine lv_icmp_ne (tgt := 14) hx hb dX7_isTest_7 (by decide) (fun c_7 => ?_) (fun c_7 => ?_)
    · have c_7 : ¬ x0 = 5 := c_7
      refine lv_iconst (v := 0) hx hb dX7_isTest_14 (by decide +kernel) ?_
      exact k_ri B hP hD hS dX7_isTest_15 () [] rfl rfl rfl (Nat.le_of_ble_eq_true rfl) (Nat.le_of_ble_eq_true rfl) (iR_c (n := 0) (a := 0) (b := 1) (by decide +kernel) (by decide +kernel))
    · have c_7 : x0 = 5 := c_7
      have f_10_1 : iR x0 5 5 := iR_eqL c_7 (iR_top _) (iR_c (n := 5) (a := 5) (b := 5) (by decide +kernel) (by decide +kernel)) (by decide +kernel)
      exact J_10  (iR_w f_10_1 (by decide +kernel)) H locs ls hP hD hS (lv_sub hl [] rfl)
set_option maxHeartbeats 8000000 in
set_option maxRecDepth 100000 in
theorem s_X7_refuses_v0 (l : Launch) (dC : Nat → ClassId) (dI : Nat → Nat → Nat) (cI cJ cZ cM : ClassId) (h : Nat) (r : Nat → Nat) (i : Nat → Int32) (j : Nat → Int64) (x1 : Int32) (f48 : Nat → Int32) (hx1 : iR x1 0 5) (hI : mR i) : k_Mi l yX7_refuses wsX7_refuses ({ frames := 1, cells := 0, slots := 0, locals := 40 }) (dC, dI) vwCl (tyy cI cJ cZ cM) [(h, .inr (7, oM r i j)), ((r 48), .inl (cI, 6, .inl f48))] [.ref h, .int x1] 0 0 (fun (u9 : SU) => [(h, .inr (7, oM r i j)), ((r 48), .inl (cI, 6, .inl (u9.2.2.1 0)))]) (fun (r9 : Int32) (u9 : SU) => (r9 = (-1))) := by
  refine fun sz => k_enter (cc := cX7_refuses) (maxL := 2) (ret := some (.int)) (Qc := fun A => va_Qi (fun (r9 : Int32) (u9 : SU) => (r9 = (-1))) (fun u => k_B (dC, dI) vwCl (tyy cI cJ cZ cM) A ((fun (u9 : SU) => [(h, .inr (7, oM r i j)), ((r 48), .inl (cI, 6, .inl (u9.2.2.1 0)))]) u)) A) sz (by decide +kernel) rfl (Nat.le_of_ble_eq_true rfl) (fun p e s m args below meth c A ls H locs B hP hD hS hl => ?_)
  obtain ⟨hx, hb, hml, hown, hts, hr, hlk, hnm, hK, hA, hN, hC⟩ := id B
  have hown : s.vm.findClass RX7 = some m.cls := hown
  have hl : lv_has ls 2 [(0, .ref h), (1, .int x1)] := hl
  have w_0 : (Cond.fieldLink RX7 159 "WishSeaModel" "refused" "[I").before args s = true := hts _ (List.mem_of_getElem? (i := 1) rfl)
  have hinX7 : ∀ w ∈ u_ws RX7 TX7 92, w ∈ wsX7_refuses := fun _ h => List.mem_cons_of_mem _ (List.mem_append_right _ h)
  refine lv_aload_n hx hb dX7_refuses_0 rfl (lv_at hl 0 rfl) ?_
  refine k_get (D := (dC, dI)) (ci := 7) (v := .ref (r 48)) (C := RX7) (T := TX7) (N := 92) hx hb hts hinX7 hown hK hP 0 rfl rfl 48 (by decide) w_0 rfl rfl dX7_refuses_1 ?_
  refine lv_iload_n hx hb dX7_refuses_4 rfl (lv_at hl 1 rfl) ?_
  refine lv_dup2_11 hx hb dX7_refuses_5 rfl rfl ?_
  refine va_iald hx hb hK hP 1 0 rfl rfl (iR_vp hx1 (by decide +kernel)) dX7_refuses_6 ?_
  refine lv_iconst (v := 1) hx hb dX7_refuses_7 (by decide +kernel) ?_
  refine lv_iadd hx hb dX7_refuses_8 ?_
  refine lv_topi (fun y_8 ey_8 => ?_)
  refine s_iast (g := (upd f48 x1.toNatClampNeg y_8)) (ws' := [(h, .inr (7, oM r i j)), ((r 48), .inl (cI, 6, .inl (upd f48 x1.toNatClampNeg y_8)))]) hx hb hK hP hD hS 1 0 rfl rfl (iR_vp hx1 (by decide +kernel)) rfl rfl dX7_refuses_9 (fun H locs hP hD hS => ?_)
  refine lv_iconst (v := (-1)) hx hb dX7_refuses_10 (by decide +kernel) ?_
  exact k_ri B hP hD hS dX7_refuses_11 ((fun _ => 0), (fun _ => 0), (fun k9 => match k9 with | 0 => (upd f48 x1.toNatClampNeg y_8) | _ => (fun _ => 0)), (fun _ => (fun _ => 0)), (fun _ => 0)) [0, 1] rfl rfl rfl (Nat.le_of_ble_eq_true rfl) (Nat.le_of_ble_eq_true rfl) rfl
set_option maxHeartbeats 8000000 in
set_option maxRecDepth 100000 in
theorem s_X7_givesOf_v0 (l : Launch) (dC : Nat → ClassId) (dI : Nat → Nat → Nat) (cI cJ cZ cM : ClassId) (h : Nat) (r : Nat → Nat) (i : Nat → Int32) (j : Nat → Int64) (x1 : Int32) (f20 : Nat → Int32) (hx1 : iR x1 0 11) (hI : mR i) (hf20 : aR f20 0 9) : k_Mi l yX7_givesOf wsX7_givesOf ({ frames := 1, cells := 0, slots := 0, locals := 40 }) (dC, dI) vwCl (tyy cI cJ cZ cM) [(h, .inr (7, oM r i j)), ((r 20), .inl (cI, 24, .inl f20))] [.ref h, .int x1] 0 0 (fun (u9 : Unit) => [(h, .inr (7, oM r i j)), ((r 20), .inl (cI, 24, .inl f20))]) (fun (r9 : Int32) (u9 : Unit) => (iR r9 0 9)) := by
  refine fun sz => k_enter (cc := cX7_givesOf) (maxL := 2) (ret := some (.int)) (Qc := fun A => va_Qi (fun (r9 : Int32) (u9 : Unit) => (iR r9 0 9)) (fun u => k_B (dC, dI) vwCl (tyy cI cJ cZ cM) A ((fun (u9 : Unit) => [(h, .inr (7, oM r i j)), ((r 20), .inl (cI, 24, .inl f20))]) u)) A) sz (by decide +kernel) rfl (Nat.le_of_ble_eq_true rfl) (fun p e s m args below meth c A ls H locs B hP hD hS hl => ?_)
  obtain ⟨hx, hb, hml, hown, hts, hr, hlk, hnm, hK, hA, hN, hC⟩ := id B
  have hown : s.vm.findClass RX7 = some m.cls := hown
  have hl : lv_has ls 2 [(0, .ref h), (1, .int x1)] := hl
  have w_0 : (Cond.fieldLink RX7 72 "WishSeaModel" "wishGives" "[I").before args s = true := hts _ (List.mem_of_getElem? (i := 1) rfl)
  have w_1 : (Cond.fieldLink RX7 51 "WishSeaModel" "bank" "I").before args s = true := hts _ (List.mem_of_getElem? (i := 2) rfl)
  have hinX7 : ∀ w ∈ u_ws RX7 TX7 92, w ∈ wsX7_givesOf := fun _ h => List.mem_cons_of_mem _ (List.mem_append_right _ h)
  refine lv_aload_n hx hb dX7_givesOf_0 rfl (lv_at hl 0 rfl) ?_
  refine k_get (D := (dC, dI)) (ci := 7) (v := .ref (r 20)) (C := RX7) (T := TX7) (N := 92) hx hb hts hinX7 hown hK hP 0 rfl rfl 20 (by decide) w_0 rfl rfl dX7_givesOf_1 ?_
  refine lv_bipush (v := 12) hx hb dX7_givesOf_4 (by decide +kernel) ?_
  refine lv_aload_n hx hb dX7_givesOf_6 rfl (lv_at hl 0 rfl) ?_
  have f_7_1 : iR (i 13) 0 1 := hI 13
  refine k_get (D := (dC, dI)) (ci := 7) (v := .int (i 13)) (C := RX7) (T := TX7) (N := 92) hx hb hts hinX7 hown hK hP 0 rfl rfl 13 (by decide) w_1 rfl rfl dX7_givesOf_7 ?_
  refine lv_imul hx hb dX7_givesOf_10 ?_
  refine lv_topi (fun y_10 ey_10 => ?_)
  have f_10_2 : iR y_10 0 12 := iR_mul ey_10 (iR_c (n := 12) (a := 12) (b := 12) (by decide +kernel) (by decide +kernel)) f_7_1 (by decide +kernel)
  refine lv_iload_n hx hb dX7_givesOf_11 rfl (lv_at hl 1 rfl) ?_
  refine lv_iadd hx hb dX7_givesOf_12 ?_
  refine lv_topi (fun y_12 ey_12 => ?_)
  have f_12_3 : iR y_12 0 23 := iR_add ey_12 f_10_2 hx1 (by decide +kernel)
  refine va_iald hx hb hK hP 1 0 rfl rfl (iR_vp f_12_3 (by decide +kernel)) dX7_givesOf_13 ?_
  have f_13_4 : iR (f20 y_12.toNatClampNeg) 0 9 := hf20 _
  exact k_ri B hP hD hS dX7_givesOf_14 () [0, 1] rfl rfl rfl (Nat.le_of_ble_eq_true rfl) (Nat.le_of_ble_eq_true rfl) f_13_4
set_option maxHeartbeats 8000000 in
set_option maxRecDepth 100000 in
theorem s_X7_wordsOf_v0 (l : Launch) (dC : Nat → ClassId) (dI : Nat → Nat → Nat) (cI cJ cZ cM : ClassId) (h : Nat) (r : Nat → Nat) (i : Nat → Int32) (j : Nat → Int64) (x1 : Int32) (f19 : Nat → Int32) (hx1 : iR x1 0 11) (hI : mR i) : k_Mi l yX7_wordsOf wsX7_wordsOf ({ frames := 1, cells := 0, slots := 0, locals := 40 }) (dC, dI) vwCl (tyy cI cJ cZ cM) [(h, .inr (7, oM r i j)), ((r 19), .inl (cI, 24, .inl f19))] [.ref h, .int x1] 0 0 (fun (u9 : Unit) => [(h, .inr (7, oM r i j)), ((r 19), .inl (cI, 24, .inl f19))]) (fun (r9 : Int32) (u9 : Unit) => True) := by
  refine fun sz => k_enter (cc := cX7_wordsOf) (maxL := 2) (ret := some (.int)) (Qc := fun A => va_Qi (fun (r9 : Int32) (u9 : Unit) => True) (fun u => k_B (dC, dI) vwCl (tyy cI cJ cZ cM) A ((fun (u9 : Unit) => [(h, .inr (7, oM r i j)), ((r 19), .inl (cI, 24, .inl f19))]) u)) A) sz (by decide +kernel) rfl (Nat.le_of_ble_eq_true rfl) (fun p e s m args below meth c A ls H locs B hP hD hS hl => ?_)
  obtain ⟨hx, hb, hml, hown, hts, hr, hlk, hnm, hK, hA, hN, hC⟩ := id B
  have hown : s.vm.findClass RX7 = some m.cls := hown
  have hl : lv_has ls 2 [(0, .ref h), (1, .int x1)] := hl
  have w_0 : (Cond.fieldLink RX7 69 "WishSeaModel" "wishWords" "[I").before args s = true := hts _ (List.mem_of_getElem? (i := 1) rfl)
  have w_1 : (Cond.fieldLink RX7 51 "WishSeaModel" "bank" "I").before args s = true := hts _ (List.mem_of_getElem? (i := 2) rfl)
  have hinX7 : ∀ w ∈ u_ws RX7 TX7 92, w ∈ wsX7_wordsOf := fun _ h => List.mem_cons_of_mem _ (List.mem_append_right _ h)
  refine lv_aload_n hx hb dX7_wordsOf_0 rfl (lv_at hl 0 rfl) ?_
  refine k_get (D := (dC, dI)) (ci := 7) (v := .ref (r 19)) (C := RX7) (T := TX7) (N := 92) hx hb hts hinX7 hown hK hP 0 rfl rfl 19 (by decide) w_0 rfl rfl dX7_wordsOf_1 ?_
  refine lv_bipush (v := 12) hx hb dX7_wordsOf_4 (by decide +kernel) ?_
  refine lv_aload_n hx hb dX7_wordsOf_6 rfl (lv_at hl 0 rfl) ?_
  have f_7_1 : iR (i 13) 0 1 := hI 13
  refine k_get (D := (dC, dI)) (ci := 7) (v := .int (i 13)) (C := RX7) (T := TX7) (N := 92) hx hb hts hinX7 hown hK hP 0 rfl rfl 13 (by decide) w_1 rfl rfl dX7_wordsOf_7 ?_
  refine lv_imul hx hb dX7_wordsOf_10 ?_
  refine lv_topi (fun y_10 ey_10 => ?_)
  have f_10_2 : iR y_10 0 12 := iR_mul ey_10 (iR_c (n := 12) (a := 12) (b := 12) (by decide +kernel) (by decide +kernel)) f_7_1 (by decide +kernel)
  refine lv_iload_n hx hb dX7_wordsOf_11 rfl (lv_at hl 1 rfl) ?_
  refine lv_iadd hx hb dX7_wordsOf_12 ?_
  refine lv_topi (fun y_12 ey_12 => ?_)
  have f_12_3 : iR y_12 0 23 := iR_add ey_12 f_10_2 hx1 (by decide +kernel)
  refine va_iald hx hb hK hP 1 0 rfl rfl (iR_vp f_12_3 (by decide +kernel)) dX7_wordsOf_13 ?_
  exact k_ri B hP hD hS dX7_wordsOf_14 () [0, 1] rfl rfl rfl (Nat.le_of_ble_eq_true rfl) (Nat.le_of_ble_eq_true rfl) trivial
set_option maxHeartbeats 8000000 in
set_option maxRecDepth 100000 in
theorem s_X7_holds_v0 (l : Launch) (dC : Nat → ClassId) (dI : Nat → Nat → Nat) (cI cJ cZ cM : ClassId) (x0 : Int32) (x1 : Int32)  : k_Mi l yX7_holds wsX7_holds ({ frames := 1, cells := 0, slots := 0, locals := 40 }) (dC, dI) vwCl (tyy cI cJ cZ cM) [] [.int x0, .int x1] 0 0 (fun (u9 : Unit) => []) (fun (r9 : Int32) (u9 : Unit) => (iR r9 0 1)) := by
  refine fun sz => k_enter (cc := cX7_holds) (maxL := 2) (ret := some (.boolean)) (Qc := fun A => va_Qi (fun (r9 : Int32) (u9 : Unit) => (iR r9 0 1)) (fun u => k_B (dC, dI) vwCl (tyy cI cJ cZ cM) A ((fun (u9 : Unit) => []) u)) A) sz (by decide +kernel) rfl (Nat.le_of_ble_eq_true rfl) (fun p e s m args below meth c A ls H locs B hP hD hS hl => ?_)
  obtain ⟨hx, hb, hml, hown, hts, hr, hlk, hnm, hK, hA, hN, hC⟩ := id B
  have hown : s.vm.findClass RX7 = some m.cls := hown
  have hl : lv_has ls 2 [(0, .int x0), (1, .int x1)] := hl
  refine lv_iload_n hx hb dX7_holds_0 rfl (lv_at hl 0 rfl) ?_
  refine lv_iload_n hx hb dX7_holds_1 rfl (lv_at hl 1 rfl) ?_
  refine lv_ishr hx hb dX7_holds_2 ?_
  refine lv_topi (fun y_2 ey_2 => ?_)
  refine lv_iconst (v := 1) hx hb dX7_holds_3 (by decide +kernel) ?_
  refine lv_iand hx hb dX7_holds_4 ?_
  refine lv_topi (fun y_4 ey_4 => ?_)
  have f_4_1 : iR y_4 0 1 := iR_andR ey_4 (iR_c (n := 1) (a := 1) (b := 1) (by decide +kernel) (by decide +kernel)) (by decide +kernel)
  refine lv_iconst (v := 1) hx hb dX7_holds_5 (by decide +kernel) ?_
  refine lv_icmp_ne (tgt := 13) hx hb dX7_holds_6 (by decide) (fun c_6 => ?_) (fun c_6 => ?_)
  · have c_6 : ¬ y_4 = 1 := c_6
    have f_13_2 : iR y_4 0 0 := iR_neL c_6 f_4_1 (iR_c (n := 1) (a := 1) (b := 1) (by decide +kernel) (by decide +kernel)) (by decide +kernel)
    refine lv_iconst (v := 0) hx hb dX7_holds_13 (by decide +kernel) ?_
    exact k_ri B hP hD hS dX7_holds_14 () [] rfl rfl rfl (Nat.le_of_ble_eq_true rfl) (Nat.le_of_ble_eq_true rfl) (iR_c (n := 0) (a := 0) (b := 1) (by decide +kernel) (by decide +kernel))
  · have c_6 : y_4 = 1 := c_6
    have f_9_2 : iR y_4 1 1 := iR_eqL c_6 f_4_1 (iR_c (n := 1) (a := 1) (b := 1) (by decide +kernel) (by decide +kernel)) (by decide +kernel)
    refine lv_iconst (v := 1) hx hb dX7_holds_9 (by decide +kernel) ?_
    refine lv_goto (tgt := 14) hx hb dX7_holds_10 (by decide) ?_
    exact k_ri B hP hD hS dX7_holds_14 () [] rfl rfl rfl (Nat.le_of_ble_eq_true rfl) (Nat.le_of_ble_eq_true rfl) (iR_c (n := 1) (a := 0) (b := 1) (by decide +kernel) (by decide +kernel))
set_option maxHeartbeats 8000000 in
set_option maxRecDepth 100000 in
theorem s_X7_asks_v0 (l : Launch) (dC : Nat → ClassId) (dI : Nat → Nat → Nat) (cI cJ cZ cM : ClassId) (h : Nat) (r : Nat → Nat) (i : Nat → Int32) (j : Nat → Int64) (x1 : Int32) (x2 : Int32) (x3 : Int32) (x4 : Int32) (hI : mR i) : k_Mv l yX7_asks wsX7_asks ({ frames := 1, cells := 0, slots := 0, locals := 40 }) (dC, dI) vwCl (tyy cI cJ cZ cM) [(h, .inr (7, oM r i j))] [.ref h, .int x1, .int x2, .int x3, .int x4] 0 0 (fun (u9 : Unit) => [(h, .inr (7, oM r (upd (upd (upd (upd i 62 x1) 63 x2) 64 x3) 65 x4) j))]) (fun (u9 : Unit) => True) := by
  refine fun sz => k_enter (cc := cX7_asks) (maxL := 5) (ret := none) (Qc := fun A => va_Qv (fun (u9 : Unit) => True) (fun u => k_B (dC, dI) vwCl (tyy cI cJ cZ cM) A ((fun (u9 : Unit) => [(h, .inr (7, oM r (upd (upd (upd (upd i 62 x1) 63 x2) 64 x3) 65 x4) j))]) u)) A) sz (by decide +kernel) rfl (Nat.le_of_ble_eq_true rfl) (fun p e s m args below meth c A ls H locs B hP hD hS hl => ?_)
  obtain ⟨hx, hb, hml, hown, hts, hr, hlk, hnm, hK, hA, hN, hC⟩ := id B
  have hown : s.vm.findClass RX7 = some m.cls := hown
  have hl : lv_has ls 5 [(0, .ref h), (1, .int x1), (2, .int x2), (3, .int x3), (4, .int x4)] := hl
  have w_0 : (Cond.fieldLink RX7 201 "WishSeaModel" "askedHad" "I").before args s = true := hts _ (List.mem_of_getElem? (i := 1) rfl)
  have w_1 : (Cond.fieldLink RX7 204 "WishSeaModel" "askedSea" "I").before args s = true := hts _ (List.mem_of_getElem? (i := 2) rfl)
  have w_2 : (Cond.fieldLink RX7 207 "WishSeaModel" "askedSaid" "I").before args s = true := hts _ (List.mem_of_getElem? (i := 3) rfl)
  have w_3 : (Cond.fieldLink RX7 210 "WishSeaModel" "askedDay" "I").before args s = true := hts _ (List.mem_of_getElem? (i := 4) rfl)
  have hinX7 : ∀ w ∈ u_ws RX7 TX7 92, w ∈ wsX7_asks := fun _ h => List.mem_cons_of_mem _ (List.mem_append_right _ h)
  refine lv_aload_n hx hb dX7_asks_0 rfl (lv_at hl 0 rfl) ?_
  refine lv_iload_n hx hb dX7_asks_1 rfl (lv_at hl 1 rfl) ?_
  refine k_put (D := (dC, dI)) (ci := 7) (v := .int x1) (C := RX7) (T := TX7) (N := 92) (ws' := [(h, .inr (7, oM r (upd i 62 x1) j))]) hx hb hts hinX7 tyX7 tyX7_ok nmX7 hown hK hP hD hS 0 rfl rfl 62 (by decide) w_0 rfl rfl rfl rfl (Nat.le_of_ble_eq_true rfl) rfl dX7_asks_2 (fun H locs hP hD hS => ?_)
  refine lv_aload_n hx hb dX7_asks_5 rfl (lv_at hl 0 rfl) ?_
  refine lv_iload_n hx hb dX7_asks_6 rfl (lv_at hl 2 rfl) ?_
  refine k_put (D := (dC, dI)) (ci := 7) (v := .int x2) (C := RX7) (T := TX7) (N := 92) (ws' := [(h, .inr (7, oM r (upd (upd i 62 x1) 63 x2) j))]) hx hb hts hinX7 tyX7 tyX7_ok nmX7 hown hK hP hD hS 0 rfl rfl 63 (by decide) w_1 rfl rfl rfl rfl (Nat.le_of_ble_eq_true rfl) rfl dX7_asks_7 (fun H locs hP hD hS => ?_)
  refine lv_aload_n hx hb dX7_asks_10 rfl (lv_at hl 0 rfl) ?_
  refine lv_iload_n hx hb dX7_asks_11 rfl (lv_at hl 3 rfl) ?_
  refine k_put (D := (dC, dI)) (ci := 7) (v := .int x3) (C := RX7) (T := TX7) (N := 92) (ws' := [(h, .inr (7, oM r (upd (upd (upd i 62 x1) 63 x2) 64 x3) j))]) hx hb hts hinX7 tyX7 tyX7_ok nmX7 hown hK hP hD hS 0 rfl rfl 64 (by decide) w_2 rfl rfl rfl rfl (Nat.le_of_ble_eq_true rfl) rfl dX7_asks_12 (fun H locs hP hD hS => ?_)
  refine lv_aload_n hx hb dX7_asks_15 rfl (lv_at hl 0 rfl) ?_
  refine lv_iload hx hb dX7_asks_16 (lv_at hl 4 rfl) ?_
  refine k_put (D := (dC, dI)) (ci := 7) (v := .int x4) (C := RX7) (T := TX7) (N := 92) (ws' := [(h, .inr (7, oM r (upd (upd (upd (upd i 62 x1) 63 x2) 64 x3) 65 x4) j))]) hx hb hts hinX7 tyX7 tyX7_ok nmX7 hown hK hP hD hS 0 rfl rfl 65 (by decide) w_3 rfl rfl rfl rfl (Nat.le_of_ble_eq_true rfl) rfl dX7_asks_18 (fun H locs hP hD hS => ?_)
  exact k_rv B hP hD hS dX7_asks_21 () [0] rfl rfl (Nat.le_of_ble_eq_true rfl) (Nat.le_of_ble_eq_true rfl) trivial
set_option maxHeartbeats 8000000 in
set_option maxRecDepth 100000 in
theorem s_X7_asks_v1 (l : Launch) (dC : Nat → ClassId) (dI : Nat → Nat → Nat) (cI cJ cZ cM : ClassId) (h : Nat) (r : Nat → Nat) (i : Nat → Int32) (j : Nat → Int64) (x1 : Int32) (x2 : Int32) (x3 : Int32) (x4 : Int32) (hI : mR i) : k_Mv l yX7_asks wsX7_asks ({ frames := 1, cells := 0, slots := 0, locals := 40 }) (dC, dI) vwCl (tyy cI cJ cZ cM) [(h, .inr (7, oM r i j))] [.ref h, .int x1, .int x2, .int x3, .int x4] 0 0 (fun (u9 : Unit) => [(h, .inr (7, oM r (upd (upd (upd (upd i 62 x1) 63 x2) 64 x3) 65 x4) j))]) (fun (u9 : Unit) => True) := by
  refine fun sz => k_enter (cc := cX7_asks) (maxL := 5) (ret := none) (Qc := fun A => va_Qv (fun (u9 : Unit) => True) (fun u => k_B (dC, dI) vwCl (tyy cI cJ cZ cM) A ((fun (u9 : Unit) => [(h, .inr (7, oM r (upd (upd (upd (upd i 62 x1) 63 x2) 64 x3) 65 x4) j))]) u)) A) sz (by decide +kernel) rfl (Nat.le_of_ble_eq_true rfl) (fun p e s m args below meth c A ls H locs B hP hD hS hl => ?_)
  obtain ⟨hx, hb, hml, hown, hts, hr, hlk, hnm, hK, hA, hN, hC⟩ := id B
  have hown : s.vm.findClass RX7 = some m.cls := hown
  have hl : lv_has ls 5 [(0, .ref h), (1, .int x1), (2, .int x2), (3, .int x3), (4, .int x4)] := hl
  have w_0 : (Cond.fieldLink RX7 201 "WishSeaModel" "askedHad" "I").before args s = true := hts _ (List.mem_of_getElem? (i := 1) rfl)
  have w_1 : (Cond.fieldLink RX7 204 "WishSeaModel" "askedSea" "I").before args s = true := hts _ (List.mem_of_getElem? (i := 2) rfl)
  have w_2 : (Cond.fieldLink RX7 207 "WishSeaModel" "askedSaid" "I").before args s = true := hts _ (List.mem_of_getElem? (i := 3) rfl)
  have w_3 : (Cond.fieldLink RX7 210 "WishSeaModel" "askedDay" "I").before args s = true := hts _ (List.mem_of_getElem? (i := 4) rfl)
  have hinX7 : ∀ w ∈ u_ws RX7 TX7 92, w ∈ wsX7_asks := fun _ h => List.mem_cons_of_mem _ (List.mem_append_right _ h)
  refine lv_aload_n hx hb dX7_asks_0 rfl (lv_at hl 0 rfl) ?_
  refine lv_iload_n hx hb dX7_asks_1 rfl (lv_at hl 1 rfl) ?_
  refine k_put (D := (dC, dI)) (ci := 7) (v := .int x1) (C := RX7) (T := TX7) (N := 92) (ws' := [(h, .inr (7, oM r (upd i 62 x1) j))]) hx hb hts hinX7 tyX7 tyX7_ok nmX7 hown hK hP hD hS 0 rfl rfl 62 (by decide) w_0 rfl rfl rfl rfl (Nat.le_of_ble_eq_true rfl) rfl dX7_asks_2 (fun H locs hP hD hS => ?_)
  refine lv_aload_n hx hb dX7_asks_5 rfl (lv_at hl 0 rfl) ?_
  refine lv_iload_n hx hb dX7_asks_6 rfl (lv_at hl 2 rfl) ?_
  refine k_put (D := (dC, dI)) (ci := 7) (v := .int x2) (C := RX7) (T := TX7) (N := 92) (ws' := [(h, .inr (7, oM r (upd (upd i 62 x1) 63 x2) j))]) hx hb hts hinX7 tyX7 tyX7_ok nmX7 hown hK hP hD hS 0 rfl rfl 63 (by decide) w_1 rfl rfl rfl rfl (Nat.le_of_ble_eq_true rfl) rfl dX7_asks_7 (fun H locs hP hD hS => ?_)
  refine lv_aload_n hx hb dX7_asks_10 rfl (lv_at hl 0 rfl) ?_
  refine lv_iload_n hx hb dX7_asks_11 rfl (lv_at hl 3 rfl) ?_
  refine k_put (D := (dC, dI)) (ci := 7) (v := .int x3) (C := RX7) (T := TX7) (N := 92) (ws' := [(h, .inr (7, oM r (upd (upd (upd i 62 x1) 63 x2) 64 x3) j))]) hx hb hts hinX7 tyX7 tyX7_ok nmX7 hown hK hP hD hS 0 rfl rfl 64 (by decide) w_2 rfl rfl rfl rfl (Nat.le_of_ble_eq_true rfl) rfl dX7_asks_12 (fun H locs hP hD hS => ?_)
  refine lv_aload_n hx hb dX7_asks_15 rfl (lv_at hl 0 rfl) ?_
  refine lv_iload hx hb dX7_asks_16 (lv_at hl 4 rfl) ?_
  refine k_put (D := (dC, dI)) (ci := 7) (v := .int x4) (C := RX7) (T := TX7) (N := 92) (ws' := [(h, .inr (7, oM r (upd (upd (upd (upd i 62 x1) 63 x2) 64 x3) 65 x4) j))]) hx hb hts hinX7 tyX7 tyX7_ok nmX7 hown hK hP hD hS 0 rfl rfl 65 (by decide) w_3 rfl rfl rfl rfl (Nat.le_of_ble_eq_true rfl) rfl dX7_asks_18 (fun H locs hP hD hS => ?_)
  exact k_rv B hP hD hS dX7_asks_21 () [0] rfl rfl (Nat.le_of_ble_eq_true rfl) (Nat.le_of_ble_eq_true rfl) trivial
set_option maxHeartbeats 8000000 in
set_option maxRecDepth 100000 in
theorem s_X7_asksLayer_v0 (l : Launch) (dC : Nat → ClassId) (dI : Nat → Nat → Nat) (cI cJ cZ cM : ClassId) (h : Nat) (r : Nat → Nat) (i : Nat → Int32) (j : Nat → Int64) (x1 : Int32) (f49 : Nat → Int32) (f50 : Nat → Int32) (f51 : Nat → Int32) (f52 : Nat → Int32) (hx1 : iR x1 0 21) (hI : mR i) (hf49 : aR f49 0 1023) (hf50 : aR f50 0 999) : k_Mv l yX7_asksLayer wsX7_asksLayer ({ frames := 2, cells := 0, slots := 0, locals := 64 }) (dC, dI) vwCl (tyy cI cJ cZ cM) [(h, .inr (7, oM r i j)), ((r 49), .inl (cI, 22, .inl f49)), ((r 50), .inl (cI, 22, .inl f50)), ((r 51), .inl (cI, 22, .inl f51)), ((r 52), .inl (cI, 22, .inl f52))] [.ref h, .int x1] 0 0 (fun (u9 : Unit) => [(h, .inr (7, oM r (upd (upd (upd (upd i 62 (f49 x1.toNatClampNeg)) 63 (f50 x1.toNatClampNeg)) 64 (f51 x1.toNatClampNeg)) 65 (f52 x1.toNatClampNeg)) j)), ((r 49), .inl (cI, 22, .inl f49)), ((r 50), .inl (cI, 22, .inl f50)), ((r 51), .inl (cI, 22, .inl f51)), ((r 52), .inl (cI, 22, .inl f52))]) (fun (u9 : Unit) => True) := by
  refine fun sz => k_enter (cc := cX7_asksLayer) (maxL := 2) (ret := none) (Qc := fun A => va_Qv (fun (u9 : Unit) => True) (fun u => k_B (dC, dI) vwCl (tyy cI cJ cZ cM) A ((fun (u9 : Unit) => [(h, .inr (7, oM r (upd (upd (upd (upd i 62 (f49 x1.toNatClampNeg)) 63 (f50 x1.toNatClampNeg)) 64 (f51 x1.toNatClampNeg)) 65 (f52 x1.toNatClampNeg)) j)), ((r 49), .inl (cI, 22, .inl f49)), ((r 50), .inl (cI, 22, .inl f50)), ((r 51), .inl (cI, 22, .inl f51)), ((r 52), .inl (cI, 22, .inl f52))]) u)) A) sz (by decide +kernel) rfl (Nat.le_of_ble_eq_true rfl) (fun p e s m args below meth c A ls H locs B hP hD hS hl => ?_)
  obtain ⟨hx, hb, hml, hown, hts, hr, hlk, hnm, hK, hA, hN, hC⟩ := id B
  have hown : s.vm.findClass RX7 = some m.cls := hown
  have hl : lv_has ls 2 [(0, .ref h), (1, .int x1)] := hl
  have w_0 : (Cond.fieldLink RX7 162 "WishSeaModel" "hadOf" "[I").before args s = true := hts _ (List.mem_of_getElem? (i := 1) rfl)
  have w_1 : (Cond.fieldLink RX7 165 "WishSeaModel" "seaOf" "[I").before args s = true := hts _ (List.mem_of_getElem? (i := 2) rfl)
  have w_2 : (Cond.fieldLink RX7 168 "WishSeaModel" "saidOf" "[I").before args s = true := hts _ (List.mem_of_getElem? (i := 3) rfl)
  have w_3 : (Cond.fieldLink RX7 171 "WishSeaModel" "dayOf" "[I").before args s = true := hts _ (List.mem_of_getElem? (i := 4) rfl)
  have hinX7 : ∀ w ∈ u_ws RX7 TX7 92, w ∈ wsX7_asksLayer := fun _ h => List.mem_cons_of_mem _ (List.mem_append_right _ h)
  refine lv_aload_n hx hb dX7_asksLayer_0 rfl (lv_at hl 0 rfl) ?_
  refine lv_aload_n hx hb dX7_asksLayer_1 rfl (lv_at hl 0 rfl) ?_
  refine k_get (D := (dC, dI)) (ci := 7) (v := .ref (r 49)) (C := RX7) (T := TX7) (N := 92) hx hb hts hinX7 hown hK hP 0 rfl rfl 49 (by decide) w_0 rfl rfl dX7_asksLayer_2 ?_
  refine lv_iload_n hx hb dX7_asksLayer_5 rfl (lv_at hl 1 rfl) ?_
  refine va_iald hx hb hK hP 1 0 rfl rfl (iR_vp hx1 (by decide +kernel)) dX7_asksLayer_6 ?_
  have f_6_1 : iR (f49 x1.toNatClampNeg) 0 1023 := hf49 _
  refine lv_aload_n hx hb dX7_asksLayer_7 rfl (lv_at hl 0 rfl) ?_
  refine k_get (D := (dC, dI)) (ci := 7) (v := .ref (r 50)) (C := RX7) (T := TX7) (N := 92) hx hb hts hinX7 hown hK hP 0 rfl rfl 50 (by decide) w_1 rfl rfl dX7_asksLayer_8 ?_
  refine lv_iload_n hx hb dX7_asksLayer_11 rfl (lv_at hl 1 rfl) ?_
  refine va_iald hx hb hK hP 2 0 rfl rfl (iR_vp hx1 (by decide +kernel)) dX7_asksLayer_12 ?_
  have f_12_2 : iR (f50 x1.toNatClampNeg) 0 999 := hf50 _
  refine lv_aload_n hx hb dX7_asksLayer_13 rfl (lv_at hl 0 rfl) ?_
  refine k_get (D := (dC, dI)) (ci := 7) (v := .ref (r 51)) (C := RX7) (T := TX7) (N := 92) hx hb hts hinX7 hown hK hP 0 rfl rfl 51 (by decide) w_2 rfl rfl dX7_asksLayer_14 ?_
  refine lv_iload_n hx hb dX7_asksLayer_17 rfl (lv_at hl 1 rfl) ?_
  refine va_iald hx hb hK hP 3 0 rfl rfl (iR_vp hx1 (by decide +kernel)) dX7_asksLayer_18 ?_
  refine lv_aload_n hx hb dX7_asksLayer_19 rfl (lv_at hl 0 rfl) ?_
  refine k_get (D := (dC, dI)) (ci := 7) (v := .ref (r 52)) (C := RX7) (T := TX7) (N := 92) hx hb hts hinX7 hown hK hP 0 rfl rfl 52 (by decide) w_3 rfl rfl dX7_asksLayer_20 ?_
  refine lv_iload_n hx hb dX7_asksLayer_23 rfl (lv_at hl 1 rfl) ?_
  refine va_iald hx hb hK hP 4 0 rfl rfl (iR_vp hx1 (by decide +kernel)) dX7_asksLayer_24 ?_
  refine k_cv (wc := [(h, .inr (7, oM r i j))]) (wr := [((r 49), .inl (cI, 22, .inl f49)), ((r 50), .inl (cI, 22, .inl f50)), ((r 51), .inl (cI, 22, .inl f51)), ((r 52), .inl (cI, 22, .inl f52))]) (fun hPc hDc hFc => va_runV (As := [.int (f49 x1.toNatClampNeg), .int (f50 x1.toNatClampNeg), .int (f51 x1.toNatClampNeg), .int (f52 x1.toNatClampNeg)]) (rest := []) ⟨hx, hb, hml, hown, hts⟩ (s_X7_asks_v1 l dC dI cI cJ cZ cM h r i j (f49 x1.toNatClampNeg) (f50 x1.toNatClampNeg) (f51 x1.toNatClampNeg) (f52 x1.toNatClampNeg) hI H.size) (cwV 4 hts gX7_asksLayer_X7_asks rfl rfl rfl (by decide +kernel) ⟨(Nat.le_of_ble_eq_true rfl), (Nat.le_of_ble_eq_true rfl)⟩) (k_pV hPc hDc hK hN hC hS hFc hP (q0 := 0) (ci := 7) rfl rfl) rfl rfl hl.1 rfl (lv_room (Nat.le_of_ble_eq_true rfl)) dX7_asksLayer_25 ⟨(Nat.le_of_ble_eq_true rfl), (Nat.le_of_ble_eq_true rfl)⟩) hP hD hS hA [0] [1, 2, 3, 4] rfl rfl rfl rfl (by decide) (fun _ => rfl) 0 0 rfl rfl (fun u_25 H locs hw hP hD hS => ?_)
  have hP : va_P (dC, dI) vwCl [((r 49), .inl (cI, 22, .inl f49)), ((r 50), .inl (cI, 22, .inl f50)), ((r 51), .inl (cI, 22, .inl f51)), ((r 52), .inl (cI, 22, .inl f52)), (h, .inr (7, oM r (upd (upd (upd (upd i 62 (f49 x1.toNatClampNeg)) 63 (f50 x1.toNatClampNeg)) 64 (f51 x1.toNatClampNeg)) 65 (f52 x1.toNatClampNeg)) j))] H := hP
  have hD : va_D A [((r 49), .inl (cI, 22, .inl f49)), ((r 50), .inl (cI, 22, .inl f50)), ((r 51), .inl (cI, 22, .inl f51)), ((r 52), .inl (cI, 22, .inl f52)), (h, .inr (7, oM r (upd (upd (upd (upd i 62 (f49 x1.toNatClampNeg)) 63 (f50 x1.toNatClampNeg)) 64 (f51 x1.toNatClampNeg)) 65 (f52 x1.toNatClampNeg)) j))] := hD
  exact k_rv B hP hD hS dX7_asksLayer_28 () [4, 0, 1, 2, 3] rfl rfl (Nat.le_of_ble_eq_true rfl) (Nat.le_of_ble_eq_true rfl) trivial
set_option maxHeartbeats 8000000 in
set_option maxRecDepth 100000 in
theorem s_X7_givesOf_v1 (l : Launch) (dC : Nat → ClassId) (dI : Nat → Nat → Nat) (cI cJ cZ cM : ClassId) (h : Nat) (r : Nat → Nat) (i : Nat → Int32) (j : Nat → Int64) (x1 : Int32) (f20 : Nat → Int32) (hx1 : iR x1 0 11) (hI : mR i) (hf20 : aR f20 0 9) : k_Mi l yX7_givesOf wsX7_givesOf ({ frames := 1, cells := 0, slots := 0, locals := 40 }) (dC, dI) vwCl (tyy cI cJ cZ cM) [(h, .inr (7, oM r i j)), ((r 20), .inl (cI, 24, .inl f20))] [.ref h, .int x1] 0 0 (fun (u9 : Unit) => [(h, .inr (7, oM r i j)), ((r 20), .inl (cI, 24, .inl f20))]) (fun (r9 : Int32) (u9 : Unit) => (iR r9 0 9)) := by
  refine fun sz => k_enter (cc := cX7_givesOf) (maxL := 2) (ret := some (.int)) (Qc := fun A => va_Qi (fun (r9 : Int32) (u9 : Unit) => (iR r9 0 9)) (fun u => k_B (dC, dI) vwCl (tyy cI cJ cZ cM) A ((fun (u9 : Unit) => [(h, .inr (7, oM r i j)), ((r 20), .inl (cI, 24, .inl f20))]) u)) A) sz (by decide +kernel) rfl (Nat.le_of_ble_eq_true rfl) (fun p e s m args below meth c A ls H locs B hP hD hS hl => ?_)
  obtain ⟨hx, hb, hml, hown, hts, hr, hlk, hnm, hK, hA, hN, hC⟩ := id B
  have hown : s.vm.findClass RX7 = some m.cls := hown
  have hl : lv_has ls 2 [(0, .ref h), (1, .int x1)] := hl
  have w_0 : (Cond.fieldLink RX7 72 "WishSeaModel" "wishGives" "[I").before args s = true := hts _ (List.mem_of_getElem? (i := 1) rfl)
  have w_1 : (Cond.fieldLink RX7 51 "WishSeaModel" "bank" "I").before args s = true := hts _ (List.mem_of_getElem? (i := 2) rfl)
  have hinX7 : ∀ w ∈ u_ws RX7 TX7 92, w ∈ wsX7_givesOf := fun _ h => List.mem_cons_of_mem _ (List.mem_append_right _ h)
  refine lv_aload_n hx hb dX7_givesOf_0 rfl (lv_at hl 0 rfl) ?_
  refine k_get (D := (dC, dI)) (ci := 7) (v := .ref (r 20)) (C := RX7) (T := TX7) (N := 92) hx hb hts hinX7 hown hK hP 0 rfl rfl 20 (by decide) w_0 rfl rfl dX7_givesOf_1 ?_
  refine lv_bipush (v := 12) hx hb dX7_givesOf_4 (by decide +kernel) ?_
  refine lv_aload_n hx hb dX7_givesOf_6 rfl (lv_at hl 0 rfl) ?_
  have f_7_1 : iR (i 13) 0 1 := hI 13
  refine k_get (D := (dC, dI)) (ci := 7) (v := .int (i 13)) (C := RX7) (T := TX7) (N := 92) hx hb hts hinX7 hown hK hP 0 rfl rfl 13 (by decide) w_1 rfl rfl dX7_givesOf_7 ?_
  refine lv_imul hx hb dX7_givesOf_10 ?_
  refine lv_topi (fun y_10 ey_10 => ?_)
  have f_10_2 : iR y_10 0 12 := iR_mul ey_10 (iR_c (n := 12) (a := 12) (b := 12) (by decide +kernel) (by decide +kernel)) f_7_1 (by decide +kernel)
  refine lv_iload_n hx hb dX7_givesOf_11 rfl (lv_at hl 1 rfl) ?_
  refine lv_iadd hx hb dX7_givesOf_12 ?_
  refine lv_topi (fun y_12 ey_12 => ?_)
  have f_12_3 : iR y_12 0 23 := iR_add ey_12 f_10_2 hx1 (by decide +kernel)
  refine va_iald hx hb hK hP 1 0 rfl rfl (iR_vp f_12_3 (by decide +kernel)) dX7_givesOf_13 ?_
  have f_13_4 : iR (f20 y_12.toNatClampNeg) 0 9 := hf20 _
  exact k_ri B hP hD hS dX7_givesOf_14 () [0, 1] rfl rfl rfl (Nat.le_of_ble_eq_true rfl) (Nat.le_of_ble_eq_true rfl) f_13_4
set_option maxHeartbeats 8000000 in
set_option maxRecDepth 100000 in
theorem s_X7_rhymeOf_v0 (l : Launch) (dC : Nat → ClassId) (dI : Nat → Nat → Nat) (cI cJ cZ cM : ClassId) (h : Nat) (r : Nat → Nat) (i : Nat → Int32) (j : Nat → Int64) (x1 : Int32) (f16 : Nat → Int32) (f20 : Nat → Int32) (hx1 : iR x1 0 11) (hI : mR i) (hf20 : aR f20 0 9) : k_Mi l yX7_rhymeOf wsX7_rhymeOf ({ frames := 2, cells := 0, slots := 0, locals := 61 }) (dC, dI) vwCl (tyy cI cJ cZ cM) [(h, .inr (7, oM r i j)), ((r 16), .inl (cI, 20, .inl f16)), ((r 20), .inl (cI, 24, .inl f20))] [.ref h, .int x1] 0 0 (fun (u9 : Unit) => [(h, .inr (7, oM r i j)), ((r 16), .inl (cI, 20, .inl f16)), ((r 20), .inl (cI, 24, .inl f20))]) (fun (r9 : Int32) (u9 : Unit) => True) := by
  refine fun sz => k_enter (cc := cX7_rhymeOf) (maxL := 2) (ret := some (.int)) (Qc := fun A => va_Qi (fun (r9 : Int32) (u9 : Unit) => True) (fun u => k_B (dC, dI) vwCl (tyy cI cJ cZ cM) A ((fun (u9 : Unit) => [(h, .inr (7, oM r i j)), ((r 16), .inl (cI, 20, .inl f16)), ((r 20), .inl (cI, 24, .inl f20))]) u)) A) sz (by decide +kernel) rfl (Nat.le_of_ble_eq_true rfl) (fun p e s m args below meth c A ls H locs B hP hD hS hl => ?_)
  obtain ⟨hx, hb, hml, hown, hts, hr, hlk, hnm, hK, hA, hN, hC⟩ := id B
  have hown : s.vm.findClass RX7 = some m.cls := hown
  have hl : lv_has ls 2 [(0, .ref h), (1, .int x1)] := hl
  have w_0 : (Cond.fieldLink RX7 60 "WishSeaModel" "thingRhyme" "[I").before args s = true := hts _ (List.mem_of_getElem? (i := 1) rfl)
  have w_1 : (Cond.fieldLink RX7 51 "WishSeaModel" "bank" "I").before args s = true := hts _ (List.mem_of_getElem? (i := 2) rfl)
  have hinX7 : ∀ w ∈ u_ws RX7 TX7 92, w ∈ wsX7_rhymeOf := fun _ h => List.mem_cons_of_mem _ (List.mem_append_right _ h)
  refine lv_aload_n hx hb dX7_rhymeOf_0 rfl (lv_at hl 0 rfl) ?_
  refine k_get (D := (dC, dI)) (ci := 7) (v := .ref (r 16)) (C := RX7) (T := TX7) (N := 92) hx hb hts hinX7 hown hK hP 0 rfl rfl 16 (by decide) w_0 rfl rfl dX7_rhymeOf_1 ?_
  refine lv_bipush (v := 10) hx hb dX7_rhymeOf_4 (by decide +kernel) ?_
  refine lv_aload_n hx hb dX7_rhymeOf_6 rfl (lv_at hl 0 rfl) ?_
  have f_7_1 : iR (i 13) 0 1 := hI 13
  refine k_get (D := (dC, dI)) (ci := 7) (v := .int (i 13)) (C := RX7) (T := TX7) (N := 92) hx hb hts hinX7 hown hK hP 0 rfl rfl 13 (by decide) w_1 rfl rfl dX7_rhymeOf_7 ?_
  refine lv_imul hx hb dX7_rhymeOf_10 ?_
  refine lv_topi (fun y_10 ey_10 => ?_)
  have f_10_2 : iR y_10 0 10 := iR_mul ey_10 (iR_c (n := 10) (a := 10) (b := 10) (by decide +kernel) (by decide +kernel)) f_7_1 (by decide +kernel)
  refine lv_aload_n hx hb dX7_rhymeOf_11 rfl (lv_at hl 0 rfl) ?_
  refine lv_iload_n hx hb dX7_rhymeOf_12 rfl (lv_at hl 1 rfl) ?_
  refine k_ci (wc := [(h, .inr (7, oM r i j)), ((r 20), .inl (cI, 24, .inl f20))]) (wr := [((r 16), .inl (cI, 20, .inl f16))]) (fun hPc hDc hFc => va_runV (As := [.int x1]) (rest := [.int y_10, .ref (r 16)]) ⟨hx, hb, hml, hown, hts⟩ (s_X7_givesOf_v1 l dC dI cI cJ cZ cM h r i j x1 f20 hx1 hI hf20 H.size) (cwV 1 hts gX7_rhymeOf_X7_givesOf rfl rfl rfl (by decide +kernel) ⟨(Nat.le_of_ble_eq_true rfl), (Nat.le_of_ble_eq_true rfl)⟩) (k_pV hPc hDc hK hN hC hS hFc hP (q0 := 0) (ci := 7) rfl rfl) rfl rfl hl.1 rfl (lv_room (Nat.le_of_ble_eq_true rfl)) dX7_rhymeOf_13 ⟨(Nat.le_of_ble_eq_true rfl), (Nat.le_of_ble_eq_true rfl)⟩) hP hD hS hA [0, 2] [1] rfl rfl rfl rfl (by decide) (fun _ => rfl) 0 0 rfl rfl (fun r_13 u_13 H locs hw hP hD hS => ?_)
  obtain g_13_0 := hw
  have hP : va_P (dC, dI) vwCl [((r 16), .inl (cI, 20, .inl f16)), (h, .inr (7, oM r i j)), ((r 20), .inl (cI, 24, .inl f20))] H := hP
  have hD : va_D A [((r 16), .inl (cI, 20, .inl f16)), (h, .inr (7, oM r i j)), ((r 20), .inl (cI, 24, .inl f20))] := hD
  refine lv_iadd hx hb dX7_rhymeOf_16 ?_
  refine lv_topi (fun y_16 ey_16 => ?_)
  have f_16_3 : iR y_16 0 19 := iR_add ey_16 f_10_2 g_13_0 (by decide +kernel)
  refine va_iald hx hb hK hP 0 0 rfl rfl (iR_vp f_16_3 (by decide +kernel)) dX7_rhymeOf_17 ?_
  exact k_ri B hP hD hS dX7_rhymeOf_18 () [1, 0, 2] rfl rfl rfl (Nat.le_of_ble_eq_true rfl) (Nat.le_of_ble_eq_true rfl) trivial
set_option maxHeartbeats 8000000 in
set_option maxRecDepth 100000 in
theorem s_X7_foundSea_v0 (l : Launch) (dC : Nat → ClassId) (dI : Nat → Nat → Nat) (cI cJ cZ cM : ClassId) (h : Nat) (r : Nat → Nat) (i : Nat → Int32) (j : Nat → Int64) (f72 : Nat → Int32) (hm75 : iR (i 75) 0 8) (hI : mR i) : k_Mi l yX7_foundSea wsX7_foundSea ({ frames := 1, cells := 0, slots := 0, locals := 40 }) (dC, dI) vwCl (tyy cI cJ cZ cM) [(h, .inr (7, oM r i j)), ((r 72), .inl (cI, 9216, .inl f72))] [.ref h] 0 0 (fun (u9 : Unit) => [(h, .inr (7, oM r i j)), ((r 72), .inl (cI, 9216, .inl f72))]) (fun (r9 : Int32) (u9 : Unit) => True) := by
  refine fun sz => k_enter (cc := cX7_foundSea) (maxL := 1) (ret := some (.int)) (Qc := fun A => va_Qi (fun (r9 : Int32) (u9 : Unit) => True) (fun u => k_B (dC, dI) vwCl (tyy cI cJ cZ cM) A ((fun (u9 : Unit) => [(h, .inr (7, oM r i j)), ((r 72), .inl (cI, 9216, .inl f72))]) u)) A) sz (by decide +kernel) rfl (Nat.le_of_ble_eq_true rfl) (fun p e s m args below meth c A ls H locs B hP hD hS hl => ?_)
  obtain ⟨hx, hb, hml, hown, hts, hr, hlk, hnm, hK, hA, hN, hC⟩ := id B
  have hown : s.vm.findClass RX7 = some m.cls := hown
  have hl : lv_has ls 1 [(0, .ref h)] := hl
  have w_0 : (Cond.fieldLink RX7 231 "WishSeaModel" "rungSea" "[I").before args s = true := hts _ (List.mem_of_getElem? (i := 1) rfl)
  have w_1 : (Cond.fieldLink RX7 240 "WishSeaModel" "foundRung" "I").before args s = true := hts _ (List.mem_of_getElem? (i := 2) rfl)
  have w_2 : (Cond.fieldLink RX7 243 "WishSeaModel" "foundSet" "I").before args s = true := hts _ (List.mem_of_getElem? (i := 3) rfl)
  have hinX7 : ∀ w ∈ u_ws RX7 TX7 92, w ∈ wsX7_foundSea := fun _ h => List.mem_cons_of_mem _ (List.mem_append_right _ h)
  refine lv_aload_n hx hb dX7_foundSea_0 rfl (lv_at hl 0 rfl) ?_
  refine k_get (D := (dC, dI)) (ci := 7) (v := .ref (r 72)) (C := RX7) (T := TX7) (N := 92) hx hb hts hinX7 hown hK hP 0 rfl rfl 72 (by decide) w_0 rfl rfl dX7_foundSea_1 ?_
  refine lv_sipush (v := 1024) hx hb dX7_foundSea_4 (by decide +kernel) ?_
  refine lv_aload_n hx hb dX7_foundSea_7 rfl (lv_at hl 0 rfl) ?_
  refine k_get (D := (dC, dI)) (ci := 7) (v := .int (i 75)) (C := RX7) (T := TX7) (N := 92) hx hb hts hinX7 hown hK hP 0 rfl rfl 75 (by decide) w_1 rfl rfl dX7_foundSea_8 ?_
  refine lv_imul hx hb dX7_foundSea_11 ?_
  refine lv_topi (fun y_11 ey_11 => ?_)
  have f_11_1 : iR y_11 0 8192 := iR_mul ey_11 (iR_c (n := 1024) (a := 1024) (b := 1024) (by decide +kernel) (by decide +kernel)) hm75 (by decide +kernel)
  refine lv_aload_n hx hb dX7_foundSea_12 rfl (lv_at hl 0 rfl) ?_
  have f_13_2 : iR (i 76) 0 1023 := hI 76
  refine k_get (D := (dC, dI)) (ci := 7) (v := .int (i 76)) (C := RX7) (T := TX7) (N := 92) hx hb hts hinX7 hown hK hP 0 rfl rfl 76 (by decide) w_2 rfl rfl dX7_foundSea_13 ?_
  refine lv_iadd hx hb dX7_foundSea_16 ?_
  refine lv_topi (fun y_16 ey_16 => ?_)
  have f_16_3 : iR y_16 0 9215 := iR_add ey_16 f_11_1 f_13_2 (by decide +kernel)
  refine va_iald hx hb hK hP 1 0 rfl rfl (iR_vp f_16_3 (by decide +kernel)) dX7_foundSea_17 ?_
  exact k_ri B hP hD hS dX7_foundSea_18 () [0, 1] rfl rfl rfl (Nat.le_of_ble_eq_true rfl) (Nat.le_of_ble_eq_true rfl) trivial
set_option maxHeartbeats 8000000 in
set_option maxRecDepth 100000 in
theorem s_X7_isSign_v0 (l : Launch) (dC : Nat → ClassId) (dI : Nat → Nat → Nat) (cI cJ cZ cM : ClassId) (h : Nat) (r : Nat → Nat) (i : Nat → Int32) (j : Nat → Int64) (x1 : Int32) (hI : mR i) : k_Mi l yX7_isSign wsX7_isSign ({ frames := 1, cells := 0, slots := 0, locals := 40 }) (dC, dI) vwCl (tyy cI cJ cZ cM) [(h, .inr (7, oM r i j))] [.ref h, .int x1] 0 0 (fun (u9 : Unit) => [(h, .inr (7, oM r i j))]) (fun (r9 : Int32) (u9 : Unit) => (iR r9 0 1)) := by
  refine fun sz => k_enter (cc := cX7_isSign) (maxL := 2) (ret := some (.boolean)) (Qc := fun A => va_Qi (fun (r9 : Int32) (u9 : Unit) => (iR r9 0 1)) (fun u => k_B (dC, dI) vwCl (tyy cI cJ cZ cM) A ((fun (u9 : Unit) => [(h, .inr (7, oM r i j))]) u)) A) sz (by decide +kernel) rfl (Nat.le_of_ble_eq_true rfl) (fun p e s m args below meth c A ls H locs B hP hD hS hl => ?_)
  obtain ⟨hx, hb, hml, hown, hts, hr, hlk, hnm, hK, hA, hN, hC⟩ := id B
  have hown : s.vm.findClass RX7 = some m.cls := hown
  have hl : lv_has ls 2 [(0, .ref h), (1, .int x1)] := hl
  have w_0 : (Cond.fieldLink RX7 20 "WishSeaModel" "sign" "I").before args s = true := hts _ (List.mem_of_getElem? (i := 1) rfl)
  have w_1 : (Cond.fieldLink RX7 29 "WishSeaModel" "value" "I").before args s = true := hts _ (List.mem_of_getElem? (i := 2) rfl)
  have hinX7 : ∀ w ∈ u_ws RX7 TX7 92, w ∈ wsX7_isSign := fun _ h => List.mem_cons_of_mem _ (List.mem_append_right _ h)
  refine lv_aload_n hx hb dX7_isSign_0 rfl (lv_at hl 0 rfl) ?_
  have f_1_1 : iR (i 3) 0 3 := hI 3
  refine k_get (D := (dC, dI)) (ci := 7) (v := .int (i 3)) (C := RX7) (T := TX7) (N := 92) hx hb hts hinX7 hown hK hP 0 rfl rfl 3 (by decide) w_0 rfl rfl dX7_isSign_1 ?_
  refine lv_iconst (v := 3) hx hb dX7_isSign_4 (by decide +kernel) ?_
  have J_20 : ∀   (H : Heap) (locs : List Loc) (ls : Array Slot), va_P (dC, dI) vwCl [(h, .inr (7, oM r i j))] H → va_D A [(h, .inr (7, oM r i j))] → va_S A s.heap H locs → lv_has ls 2 [] → W p l e ({ frames := 1, cells := 0, slots := 0, locals := 40 }) s m args below meth c H locs 0 0 (MQ below (va_Qi (fun (r9 : Int32) (u9 : Unit) => (iR r9 0 1)) (fun u => k_B (dC, dI) vwCl (tyy cI cJ cZ cM) A ((fun (u9 : Unit) => [(h, .inr (7, oM r i j))]) u)) A) args s 0 0 A) (F0 m 20 ls []) := by
    intro   H locs ls hP hD hS hl
    refine lv_iconst (v := 0) hx hb dX7_isSign_20 (by decide +kernel) ?_
    exact k_ri B hP hD hS dX7_isSign_21 () [0] rfl rfl rfl (Nat.le_of_ble_eq_true rfl) (Nat.le_of_ble_eq_true rfl) (iR_c (n := 0) (a := 0) (b := 1) (by decide +kernel) (by decide +kernel))
  refine lv_icmp_ne (tgt := 20) hx hb dX7_isSign_5 (by decide) (fun c_5 => ?_) (fun c_5 => ?_)
  · have c_5 : ¬ (i 3) = 3 := c_5
    have f_20_2 : iR (i 3) 0 2 := iR_neL c_5 f_1_1 (iR_c (n := 3) (a := 3) (b := 3) (by decide +kernel) (by decide +kernel)) (by decide +kernel)
    exact J_20   H locs ls hP hD hS (lv_sub hl [] rfl)
  · have c_5 : (i 3) = 3 := c_5
    have f_8_2 : iR (i 3) 3 3 := iR_eqL c_5 f_1_1 (iR_c (n := 3) (a := 3) (b := 3) (by decide +kernel) (by decide +kernel)) (by decide +kernel)
    refine lv_aload_n hx hb dX7_isSign_8 rfl (lv_at hl 0 rfl) ?_
    have f_9_3 : iR (i 6) 0 9999 := hI 6
    refine k_get (D := (dC, dI)) (ci := 7) (v := .int (i 6)) (C := RX7) (T := TX7) (N := 92) hx hb hts hinX7 hown hK hP 0 rfl rfl 6 (by decide) w_1 rfl rfl dX7_isSign_9 ?_
    refine lv_iload_n hx hb dX7_isSign_12 rfl (lv_at hl 1 rfl) ?_
    refine lv_icmp_ne (tgt := 20) hx hb dX7_isSign_13 (by decide) (fun c_13 => ?_) (fun c_13 => ?_)
    · have c_13 : ¬ (i 6) = x1 := c_13
      exact J_20   H locs ls hP hD hS (lv_sub hl [] rfl)
    · have c_13 : (i 6) = x1 := c_13
      have f_16_4 : iR x1 0 9999 := iR_eqR c_13 f_9_3 (iR_top _) (by decide +kernel)
      refine lv_iconst (v := 1) hx hb dX7_isSign_16 (by decide +kernel) ?_
      refine lv_goto (tgt := 21) hx hb dX7_isSign_17 (by decide) ?_
      exact k_ri B hP hD hS dX7_isSign_21 () [0] rfl rfl rfl (Nat.le_of_ble_eq_true rfl) (Nat.le_of_ble_eq_true rfl) (iR_c (n := 1) (a := 0) (b := 1) (by decide +kernel) (by decide +kernel))
set_option maxHeartbeats 8000000 in
set_option maxRecDepth 100000 in
theorem s_X7_manyOf_v0 (l : Launch) (dC : Nat → ClassId) (dI : Nat → Nat → Nat) (cI cJ cZ cM : ClassId) (h : Nat) (r : Nat → Nat) (i : Nat → Int32) (j : Nat → Int64) (x1 : Int32) (x2 : Int32) (f14 : Nat → Int32) (f18 : Nat → Int32) (hx1 : iR x1 0 1) (hI : mR i) (hf14 : aR f14 0 10) (hf18 : aR f18 0 12) : k_Mi l yX7_manyOf wsX7_manyOf ({ frames := 1, cells := 0, slots := 0, locals := 40 }) (dC, dI) vwCl (tyy cI cJ cZ cM) [(h, .inr (7, oM r i j)), ((r 14), .inl (cI, 2, .inl f14)), ((r 18), .inl (cI, 2, .inl f18))] [.ref h, .int x1, .int x2] 0 0 (fun (u9 : Unit) => [(h, .inr (7, oM r i j)), ((r 14), .inl (cI, 2, .inl f14)), ((r 18), .inl (cI, 2, .inl f18))]) (fun (r9 : Int32) (u9 : Unit) => (iR r9 0 12)) := by
  refine fun sz => k_enter (cc := cX7_manyOf) (maxL := 3) (ret := some (.int)) (Qc := fun A => va_Qi (fun (r9 : Int32) (u9 : Unit) => (iR r9 0 12)) (fun u => k_B (dC, dI) vwCl (tyy cI cJ cZ cM) A ((fun (u9 : Unit) => [(h, .inr (7, oM r i j)), ((r 14), .inl (cI, 2, .inl f14)), ((r 18), .inl (cI, 2, .inl f18))]) u)) A) sz (by decide +kernel) rfl (Nat.le_of_ble_eq_true rfl) (fun p e s m args below meth c A ls H locs B hP hD hS hl => ?_)
  obtain ⟨hx, hb, hml, hown, hts, hr, hlk, hnm, hK, hA, hN, hC⟩ := id B
  have hown : s.vm.findClass RX7 = some m.cls := hown
  have hl : lv_has ls 3 [(0, .ref h), (1, .int x1), (2, .int x2)] := hl
  have w_0 : (Cond.fieldLink RX7 66 "WishSeaModel" "wishes" "[I").before args s = true := hts _ (List.mem_of_getElem? (i := 2) rfl)
  have w_1 : (Cond.fieldLink RX7 54 "WishSeaModel" "things" "[I").before args s = true := hts _ (List.mem_of_getElem? (i := 1) rfl)
  have hinX7 : ∀ w ∈ u_ws RX7 TX7 92, w ∈ wsX7_manyOf := fun _ h => List.mem_cons_of_mem _ (List.mem_append_right _ h)
  refine lv_iload_n hx hb dX7_manyOf_0 rfl (lv_at hl 2 rfl) ?_
  refine lv_if_ne (tgt := 13) hx hb dX7_manyOf_1 (by decide) (fun c_1 => ?_) (fun c_1 => ?_)
  · have c_1 : ¬ x2 = 0 := c_1
    refine lv_aload_n hx hb dX7_manyOf_13 rfl (lv_at hl 0 rfl) ?_
    refine k_get (D := (dC, dI)) (ci := 7) (v := .ref (r 18)) (C := RX7) (T := TX7) (N := 92) hx hb hts hinX7 hown hK hP 0 rfl rfl 18 (by decide) w_0 rfl rfl dX7_manyOf_14 ?_
    refine lv_iload_n hx hb dX7_manyOf_17 rfl (lv_at hl 1 rfl) ?_
    refine va_iald hx hb hK hP 2 0 rfl rfl (iR_vp hx1 (by decide +kernel)) dX7_manyOf_18 ?_
    have f_18_1 : iR (f18 x1.toNatClampNeg) 0 12 := hf18 _
    exact k_ri B hP hD hS dX7_manyOf_19 () [0, 1, 2] rfl rfl rfl (Nat.le_of_ble_eq_true rfl) (Nat.le_of_ble_eq_true rfl) f_18_1
  · have c_1 : x2 = 0 := c_1
    have f_4_1 : iR x2 0 0 := iR_eqL c_1 (iR_top _) (iR_c (n := 0) (a := 0) (b := 0) (by decide +kernel) (by decide +kernel)) (by decide +kernel)
    refine lv_aload_n hx hb dX7_manyOf_4 rfl (lv_at hl 0 rfl) ?_
    refine k_get (D := (dC, dI)) (ci := 7) (v := .ref (r 14)) (C := RX7) (T := TX7) (N := 92) hx hb hts hinX7 hown hK hP 0 rfl rfl 14 (by decide) w_1 rfl rfl dX7_manyOf_5 ?_
    refine lv_iload_n hx hb dX7_manyOf_8 rfl (lv_at hl 1 rfl) ?_
    refine va_iald hx hb hK hP 1 0 rfl rfl (iR_vp hx1 (by decide +kernel)) dX7_manyOf_9 ?_
    have f_9_2 : iR (f14 x1.toNatClampNeg) 0 10 := hf14 _
    refine lv_goto (tgt := 19) hx hb dX7_manyOf_10 (by decide) ?_
    exact k_ri B hP hD hS dX7_manyOf_19 () [0, 1, 2] rfl rfl rfl (Nat.le_of_ble_eq_true rfl) (Nat.le_of_ble_eq_true rfl) (iR_w f_9_2 (by decide +kernel))
set_option maxHeartbeats 8000000 in
set_option maxRecDepth 100000 in
theorem s_X7_status_v0 (l : Launch) (dC : Nat → ClassId) (dI : Nat → Nat → Nat) (cI cJ cZ cM : ClassId) (h : Nat) (r : Nat → Nat) (i : Nat → Int32) (j : Nat → Int64) (x1 : Int32) (f48 : Nat → Int32) (hI : mR i) : k_Mi l yX7_status wsX7_status ({ frames := 2, cells := 0, slots := 0, locals := 62 }) (dC, dI) vwCl (tyy cI cJ cZ cM) [(h, .inr (7, oM r i j)), ((r 48), .inl (cI, 6, .inl f48))] [.ref h, .int x1] 0 0 (fun (u9 : Unit) => [(h, .inr (7, oM r i j)), ((r 48), .inl (cI, 6, .inl f48))]) (fun (r9 : Int32) (u9 : Unit) => True) := by
  refine fun sz => k_enter (cc := cX7_status) (maxL := 2) (ret := some (.int)) (Qc := fun A => va_Qi (fun (r9 : Int32) (u9 : Unit) => True) (fun u => k_B (dC, dI) vwCl (tyy cI cJ cZ cM) A ((fun (u9 : Unit) => [(h, .inr (7, oM r i j)), ((r 48), .inl (cI, 6, .inl f48))]) u)) A) sz (by decide +kernel) rfl (Nat.le_of_ble_eq_true rfl) (fun p e s m args below meth c A ls H locs B hP hD hS hl => ?_)
  obtain ⟨hx, hb, hml, hown, hts, hr, hlk, hnm, hK, hA, hN, hC⟩ := id B
  have hown : s.vm.findClass RX7 = some m.cls := hown
  have hl : lv_has ls 2 [(0, .ref h), (1, .int x1)] := hl
  have w_0 : (Cond.fieldLink RX7 159 "WishSeaModel" "refused" "[I").before args s = true := hts _ (List.mem_of_getElem? (i := 1) rfl)
  have hinX7 : ∀ w ∈ u_ws RX7 TX7 92, w ∈ wsX7_status := fun _ h => List.mem_cons_of_mem _ (List.mem_append_right _ h)
  refine lv_iload_n hx hb dX7_status_0 rfl (lv_at hl 1 rfl) ?_
  refine lv_iconst (v := 0) hx hb dX7_status_1 (by decide +kernel) ?_
  refine lv_iconst (v := 5) hx hb dX7_status_2 (by decide +kernel) ?_
  refine k_ci (wc := []) (wr := [(h, .inr (7, oM r i j)), ((r 48), .inl (cI, 6, .inl f48))]) (fun hPc hDc hFc => va_runS (As := [.int x1, .int 0, .int 5]) (rest := []) ⟨hx, hb, hml, hown, hts⟩ (s_X7_is_v0 l dC dI cI cJ cZ cM x1 0 5 H.size) (va_cwS 3 hts gX7_status_X7_is rfl rfl rfl (by decide +kernel) ⟨(Nat.le_of_ble_eq_true rfl), (Nat.le_of_ble_eq_true rfl)⟩) (k_pS hPc hDc hK hN hC hS hFc) rfl rfl hl.1 rfl (lv_room (Nat.le_of_ble_eq_true rfl)) dX7_status_3 ⟨(Nat.le_of_ble_eq_true rfl), (Nat.le_of_ble_eq_true rfl)⟩) hP hD hS hA [] [0, 1] rfl rfl rfl rfl (by decide) (fun _ => rfl) 0 0 rfl rfl (fun r_3 u_3 H locs hw hP hD hS => ?_)
  obtain ⟨g_3_0, g_3_1⟩ := hw
  have hP : va_P (dC, dI) vwCl [(h, .inr (7, oM r i j)), ((r 48), .inl (cI, 6, .inl f48))] H := hP
  have hD : va_D A [(h, .inr (7, oM r i j)), ((r 48), .inl (cI, 6, .inl f48))] := hD
  refine lv_if_eq (tgt := 18) hx hb dX7_status_6 (by decide) (fun c_6 => ?_) (fun c_6 => ?_)
  · have c_6 : r_3 = 0 := c_6
    have f_18_1 : iR r_3 0 0 := iR_eqL c_6 g_3_0 (iR_c (n := 0) (a := 0) (b := 0) (by decide +kernel) (by decide +kernel)) (by decide +kernel)
    refine lv_iconst (v := (-1)) hx hb dX7_status_18 (by decide +kernel) ?_
    exact k_ri B hP hD hS dX7_status_19 () [0, 1] rfl rfl rfl (Nat.le_of_ble_eq_true rfl) (Nat.le_of_ble_eq_true rfl) trivial
  · have c_6 : ¬ r_3 = 0 := c_6
    have f_9_1 : iR r_3 1 1 := iR_neL c_6 g_3_0 (iR_c (n := 0) (a := 0) (b := 0) (by decide +kernel) (by decide +kernel)) (by decide +kernel)
    obtain ⟨d_6_1_0, d_6_1_1⟩ := g_3_1.resolve_left c_6
    have f_9_2 : iR x1 0 2147483647 := iR_leR d_6_1_0 (iR_c (n := 0) (a := 0) (b := 0) (by decide +kernel) (by decide +kernel)) (iR_top _) (by decide +kernel)
    have f_9_3 : iR x1 0 5 := iR_leL d_6_1_1 f_9_2 (iR_c (n := 5) (a := 5) (b := 5) (by decide +kernel) (by decide +kernel)) (by decide +kernel)
    refine lv_aload_n hx hb dX7_status_9 rfl (lv_at hl 0 rfl) ?_
    refine k_get (D := (dC, dI)) (ci := 7) (v := .ref (r 48)) (C := RX7) (T := TX7) (N := 92) hx hb hts hinX7 hown hK hP 0 rfl rfl 48 (by decide) w_0 rfl rfl dX7_status_10 ?_
    refine lv_iload_n hx hb dX7_status_13 rfl (lv_at hl 1 rfl) ?_
    refine va_iald hx hb hK hP 1 0 rfl rfl (iR_vp f_9_3 (by decide +kernel)) dX7_status_14 ?_
    refine lv_goto (tgt := 19) hx hb dX7_status_15 (by decide) ?_
    exact k_ri B hP hD hS dX7_status_19 () [0, 1] rfl rfl rfl (Nat.le_of_ble_eq_true rfl) (Nat.le_of_ble_eq_true rfl) trivial
set_option maxHeartbeats 8000000 in
set_option maxRecDepth 100000 in
theorem s_X7_isWord_v0 (l : Launch) (dC : Nat → ClassId) (dI : Nat → Nat → Nat) (cI cJ cZ cM : ClassId) (h : Nat) (r : Nat → Nat) (i : Nat → Int32) (j : Nat → Int64) (x1 : Int64) (hI : mR i) : k_Mi l yX7_isWord wsX7_isWord ({ frames := 1, cells := 0, slots := 0, locals := 40 }) (dC, dI) vwCl (tyy cI cJ cZ cM) [(h, .inr (7, oM r i j))] [.ref h, .long x1] 0 0 (fun (u9 : Unit) => [(h, .inr (7, oM r i j))]) (fun (r9 : Int32) (u9 : Unit) => (iR r9 0 1)) := by
  refine fun sz => k_enter (cc := cX7_isWord) (maxL := 3) (ret := some (.boolean)) (Qc := fun A => va_Qi (fun (r9 : Int32) (u9 : Unit) => (iR r9 0 1)) (fun u => k_B (dC, dI) vwCl (tyy cI cJ cZ cM) A ((fun (u9 : Unit) => [(h, .inr (7, oM r i j))]) u)) A) sz (by decide +kernel) rfl (Nat.le_of_ble_eq_true rfl) (fun p e s m args below meth c A ls H locs B hP hD hS hl => ?_)
  obtain ⟨hx, hb, hml, hown, hts, hr, hlk, hnm, hK, hA, hN, hC⟩ := id B
  have hown : s.vm.findClass RX7 = some m.cls := hown
  have hl : lv_has ls 3 [(0, .ref h), (1, .long x1)] := hl
  have w_0 : (Cond.fieldLink RX7 20 "WishSeaModel" "sign" "I").before args s = true := hts _ (List.mem_of_getElem? (i := 1) rfl)
  have w_1 : (Cond.fieldLink RX7 32 "WishSeaModel" "word" "J").before args s = true := hts _ (List.mem_of_getElem? (i := 2) rfl)
  have hinX7 : ∀ w ∈ u_ws RX7 TX7 92, w ∈ wsX7_isWord := fun _ h => List.mem_cons_of_mem _ (List.mem_append_right _ h)
  refine lv_aload_n hx hb dX7_isWord_0 rfl (lv_at hl 0 rfl) ?_
  have f_1_1 : iR (i 3) 0 3 := hI 3
  refine k_get (D := (dC, dI)) (ci := 7) (v := .int (i 3)) (C := RX7) (T := TX7) (N := 92) hx hb hts hinX7 hown hK hP 0 rfl rfl 3 (by decide) w_0 rfl rfl dX7_isWord_1 ?_
  refine lv_iconst (v := 1) hx hb dX7_isWord_4 (by decide +kernel) ?_
  have J_21 : ∀   (H : Heap) (locs : List Loc) (ls : Array Slot), va_P (dC, dI) vwCl [(h, .inr (7, oM r i j))] H → va_D A [(h, .inr (7, oM r i j))] → va_S A s.heap H locs → lv_has ls 3 [] → W p l e ({ frames := 1, cells := 0, slots := 0, locals := 40 }) s m args below meth c H locs 0 0 (MQ below (va_Qi (fun (r9 : Int32) (u9 : Unit) => (iR r9 0 1)) (fun u => k_B (dC, dI) vwCl (tyy cI cJ cZ cM) A ((fun (u9 : Unit) => [(h, .inr (7, oM r i j))]) u)) A) args s 0 0 A) (F0 m 21 ls []) := by
    intro   H locs ls hP hD hS hl
    refine lv_iconst (v := 0) hx hb dX7_isWord_21 (by decide +kernel) ?_
    exact k_ri B hP hD hS dX7_isWord_22 () [0] rfl rfl rfl (Nat.le_of_ble_eq_true rfl) (Nat.le_of_ble_eq_true rfl) (iR_c (n := 0) (a := 0) (b := 1) (by decide +kernel) (by decide +kernel))
  refine lv_icmp_ne (tgt := 21) hx hb dX7_isWord_5 (by decide) (fun c_5 => ?_) (fun c_5 => ?_)
  · have c_5 : ¬ (i 3) = 1 := c_5
    exact J_21   H locs ls hP hD hS (lv_sub hl [] rfl)
  · have c_5 : (i 3) = 1 := c_5
    have f_8_2 : iR (i 3) 1 1 := iR_eqL c_5 f_1_1 (iR_c (n := 1) (a := 1) (b := 1) (by decide +kernel) (by decide +kernel)) (by decide +kernel)
    refine lv_aload_n hx hb dX7_isWord_8 rfl (lv_at hl 0 rfl) ?_
    refine k_get (D := (dC, dI)) (ci := 7) (v := .long (j 7)) (C := RX7) (T := TX7) (N := 92) hx hb hts hinX7 hown hK hP 0 rfl rfl 7 (by decide) w_1 rfl rfl dX7_isWord_9 ?_
    refine lv_lload_n hx hb dX7_isWord_12 rfl (lv_at hl 1 rfl) ?_
    refine W.lcmp hx hb dX7_isWord_13 ?_
    refine lv_topi (fun y_13 ey_13 => ?_)
    refine lv_if_ne (tgt := 21) hx hb dX7_isWord_14 (by decide) (fun c_14 => ?_) (fun c_14 => ?_)
    · have c_14 : ¬ y_13 = 0 := c_14
      have lc_14 : ¬ (j 7) = x1 := l_cmpne ey_13 c_14
      exact J_21   H locs ls hP hD hS (lv_sub hl [] rfl)
    · have c_14 : y_13 = 0 := c_14
      have f_17_3 : iR y_13 0 0 := iR_eqL c_14 (iR_top _) (iR_c (n := 0) (a := 0) (b := 0) (by decide +kernel) (by decide +kernel)) (by decide +kernel)
      have lc_14 : (j 7) = x1 := l_cmpe ey_13 c_14
      refine lv_iconst (v := 1) hx hb dX7_isWord_17 (by decide +kernel) ?_
      refine lv_goto (tgt := 22) hx hb dX7_isWord_18 (by decide) ?_
      exact k_ri B hP hD hS dX7_isWord_22 () [0] rfl rfl rfl (Nat.le_of_ble_eq_true rfl) (Nat.le_of_ble_eq_true rfl) (iR_c (n := 1) (a := 0) (b := 1) (by decide +kernel) (by decide +kernel))
set_option maxHeartbeats 8000000 in
set_option maxRecDepth 100000 in
theorem s_X7_fault_v0 (l : Launch) (dC : Nat → ClassId) (dI : Nat → Nat → Nat) (cI cJ cZ cM : ClassId) (h : Nat) (r : Nat → Nat) (i : Nat → Int32) (j : Nat → Int64) (x1 : Int32) (hI : mR i) : k_Mi l yX7_fault wsX7_fault ({ frames := 1, cells := 0, slots := 0, locals := 40 }) (dC, dI) vwCl (tyy cI cJ cZ cM) [(h, .inr (7, oM r i j))] [.ref h, .int x1] 0 0 (fun (u9 : Unit) => [(h, .inr (7, oM r i j))]) (fun (r9 : Int32) (u9 : Unit) => True) := by
  refine fun sz => k_enter (cc := cX7_fault) (maxL := 2) (ret := some (.int)) (Qc := fun A => va_Qi (fun (r9 : Int32) (u9 : Unit) => True) (fun u => k_B (dC, dI) vwCl (tyy cI cJ cZ cM) A ((fun (u9 : Unit) => [(h, .inr (7, oM r i j))]) u)) A) sz (by decide +kernel) rfl (Nat.le_of_ble_eq_true rfl) (fun p e s m args below meth c A ls H locs B hP hD hS hl => ?_)
  obtain ⟨hx, hb, hml, hown, hts, hr, hlk, hnm, hK, hA, hN, hC⟩ := id B
  have hown : s.vm.findClass RX7 = some m.cls := hown
  have hl : lv_has ls 2 [(0, .ref h), (1, .int x1)] := hl
  have w_0 : (Cond.fieldLink RX7 45 "WishSeaModel" "toldPlace" "I").before args s = true := hts _ (List.mem_of_getElem? (i := 2) rfl)
  have w_1 : (Cond.fieldLink RX7 42 "WishSeaModel" "toldKind" "I").before args s = true := hts _ (List.mem_of_getElem? (i := 1) rfl)
  have hinX7 : ∀ w ∈ u_ws RX7 TX7 92, w ∈ wsX7_fault := fun _ h => List.mem_cons_of_mem _ (List.mem_append_right _ h)
  refine lv_iload_n hx hb dX7_fault_0 rfl (lv_at hl 1 rfl) ?_
  refine lv_if_ne (tgt := 11) hx hb dX7_fault_1 (by decide) (fun c_1 => ?_) (fun c_1 => ?_)
  · have c_1 : ¬ x1 = 0 := c_1
    refine lv_iload_n hx hb dX7_fault_11 rfl (lv_at hl 1 rfl) ?_
    refine lv_iconst (v := 1) hx hb dX7_fault_12 (by decide +kernel) ?_
    refine lv_icmp_ne (tgt := 23) hx hb dX7_fault_13 (by decide) (fun c_13 => ?_) (fun c_13 => ?_)
    · have c_13 : ¬ x1 = 1 := c_13
      refine lv_iconst (v := (-1)) hx hb dX7_fault_23 (by decide +kernel) ?_
      exact k_ri B hP hD hS dX7_fault_24 () [0] rfl rfl rfl (Nat.le_of_ble_eq_true rfl) (Nat.le_of_ble_eq_true rfl) trivial
    · have c_13 : x1 = 1 := c_13
      have f_16_1 : iR x1 1 1 := iR_eqL c_13 (iR_top _) (iR_c (n := 1) (a := 1) (b := 1) (by decide +kernel) (by decide +kernel)) (by decide +kernel)
      refine lv_aload_n hx hb dX7_fault_16 rfl (lv_at hl 0 rfl) ?_
      refine k_get (D := (dC, dI)) (ci := 7) (v := .int (i 11)) (C := RX7) (T := TX7) (N := 92) hx hb hts hinX7 hown hK hP 0 rfl rfl 11 (by decide) w_0 rfl rfl dX7_fault_17 ?_
      refine lv_goto (tgt := 24) hx hb dX7_fault_20 (by decide) ?_
      exact k_ri B hP hD hS dX7_fault_24 () [0] rfl rfl rfl (Nat.le_of_ble_eq_true rfl) (Nat.le_of_ble_eq_true rfl) trivial
  · have c_1 : x1 = 0 := c_1
    have f_4_1 : iR x1 0 0 := iR_eqL c_1 (iR_top _) (iR_c (n := 0) (a := 0) (b := 0) (by decide +kernel) (by decide +kernel)) (by decide +kernel)
    refine lv_aload_n hx hb dX7_fault_4 rfl (lv_at hl 0 rfl) ?_
    refine k_get (D := (dC, dI)) (ci := 7) (v := .int (i 10)) (C := RX7) (T := TX7) (N := 92) hx hb hts hinX7 hown hK hP 0 rfl rfl 10 (by decide) w_1 rfl rfl dX7_fault_5 ?_
    refine lv_goto (tgt := 24) hx hb dX7_fault_8 (by decide) ?_
    exact k_ri B hP hD hS dX7_fault_24 () [0] rfl rfl rfl (Nat.le_of_ble_eq_true rfl) (Nat.le_of_ble_eq_true rfl) trivial
set_option maxHeartbeats 8000000 in
set_option maxRecDepth 100000 in
theorem s_X7_isThing_v0 (l : Launch) (dC : Nat → ClassId) (dI : Nat → Nat → Nat) (cI cJ cZ cM : ClassId) (h : Nat) (r : Nat → Nat) (i : Nat → Int32) (j : Nat → Int64) (x1 : Int32) (f14 : Nat → Int32) (hI : mR i) (hf14 : aR f14 0 10) : k_Mi l yX7_isThing wsX7_isThing ({ frames := 1, cells := 0, slots := 0, locals := 40 }) (dC, dI) vwCl (tyy cI cJ cZ cM) [(h, .inr (7, oM r i j)), ((r 14), .inl (cI, 2, .inl f14))] [.ref h, .int x1] 0 0 (fun (u9 : Unit) => [(h, .inr (7, oM r i j)), ((r 14), .inl (cI, 2, .inl f14))]) (fun (r9 : Int32) (u9 : Unit) => (iR r9 0 1) ∧ ((r9 = 0) ∨ ((0 ≤ x1) ∧ (x1 < (f14 (i 13).toNatClampNeg))))) := by
  refine fun sz => k_enter (cc := cX7_isThing) (maxL := 2) (ret := some (.boolean)) (Qc := fun A => va_Qi (fun (r9 : Int32) (u9 : Unit) => (iR r9 0 1) ∧ ((r9 = 0) ∨ ((0 ≤ x1) ∧ (x1 < (f14 (i 13).toNatClampNeg))))) (fun u => k_B (dC, dI) vwCl (tyy cI cJ cZ cM) A ((fun (u9 : Unit) => [(h, .inr (7, oM r i j)), ((r 14), .inl (cI, 2, .inl f14))]) u)) A) sz (by decide +kernel) rfl (Nat.le_of_ble_eq_true rfl) (fun p e s m args below meth c A ls H locs B hP hD hS hl => ?_)
  obtain ⟨hx, hb, hml, hown, hts, hr, hlk, hnm, hK, hA, hN, hC⟩ := id B
  have hown : s.vm.findClass RX7 = some m.cls := hown
  have hl : lv_has ls 2 [(0, .ref h), (1, .int x1)] := hl
  have w_0 : (Cond.fieldLink RX7 54 "WishSeaModel" "things" "[I").before args s = true := hts _ (List.mem_of_getElem? (i := 1) rfl)
  have w_1 : (Cond.fieldLink RX7 51 "WishSeaModel" "bank" "I").before args s = true := hts _ (List.mem_of_getElem? (i := 2) rfl)
  have hinX7 : ∀ w ∈ u_ws RX7 TX7 92, w ∈ wsX7_isThing := fun _ h => List.mem_cons_of_mem _ (List.mem_append_right _ h)
  refine lv_iload_n hx hb dX7_isThing_0 rfl (lv_at hl 1 rfl) ?_
  have J_21 : ∀   (H : Heap) (locs : List Loc) (ls : Array Slot), va_P (dC, dI) vwCl [(h, .inr (7, oM r i j)), ((r 14), .inl (cI, 2, .inl f14))] H → va_D A [(h, .inr (7, oM r i j)), ((r 14), .inl (cI, 2, .inl f14))] → va_S A s.heap H locs → lv_has ls 2 [] → W p l e ({ frames := 1, cells := 0, slots := 0, locals := 40 }) s m args below meth c H locs 0 0 (MQ below (va_Qi (fun (r9 : Int32) (u9 : Unit) => (iR r9 0 1) ∧ ((r9 = 0) ∨ ((0 ≤ x1) ∧ (x1 < (f14 (i 13).toNatClampNeg))))) (fun u => k_B (dC, dI) vwCl (tyy cI cJ cZ cM) A ((fun (u9 : Unit) => [(h, .inr (7, oM r i j)), ((r 14), .inl (cI, 2, .inl f14))]) u)) A) args s 0 0 A) (F0 m 21 ls []) := by
    intro   H locs ls hP hD hS hl
    refine lv_iconst (v := 0) hx hb dX7_isThing_21 (by decide +kernel) ?_
    exact k_ri B hP hD hS dX7_isThing_22 () [0, 1] rfl rfl rfl (Nat.le_of_ble_eq_true rfl) (Nat.le_of_ble_eq_true rfl) ⟨(iR_c (n := 0) (a := 0) (b := 1) (by decide +kernel) (by decide +kernel)), (Or.inl rfl)⟩
  refine lv_if_lt (tgt := 21) hx hb dX7_isThing_1 (by decide) (fun c_1 => ?_) (fun c_1 => ?_)
  · have c_1 : x1 < 0 := c_1
    have f_21_1 : iR x1 (-2147483648) (-1) := iR_ltL c_1 (iR_top _) (iR_c (n := 0) (a := 0) (b := 0) (by decide +kernel) (by decide +kernel)) (by decide +kernel)
    exact J_21   H locs ls hP hD hS (lv_sub hl [] rfl)
  · have c_1 : 0 ≤ x1 := i_nlt c_1
    have f_4_1 : iR x1 0 2147483647 := iR_leR c_1 (iR_c (n := 0) (a := 0) (b := 0) (by decide +kernel) (by decide +kernel)) (iR_top _) (by decide +kernel)
    refine lv_iload_n hx hb dX7_isThing_4 rfl (lv_at hl 1 rfl) ?_
    refine lv_aload_n hx hb dX7_isThing_5 rfl (lv_at hl 0 rfl) ?_
    refine k_get (D := (dC, dI)) (ci := 7) (v := .ref (r 14)) (C := RX7) (T := TX7) (N := 92) hx hb hts hinX7 hown hK hP 0 rfl rfl 14 (by decide) w_0 rfl rfl dX7_isThing_6 ?_
    refine lv_aload_n hx hb dX7_isThing_9 rfl (lv_at hl 0 rfl) ?_
    have f_10_2 : iR (i 13) 0 1 := hI 13
    refine k_get (D := (dC, dI)) (ci := 7) (v := .int (i 13)) (C := RX7) (T := TX7) (N := 92) hx hb hts hinX7 hown hK hP 0 rfl rfl 13 (by decide) w_1 rfl rfl dX7_isThing_10 ?_
    refine va_iald hx hb hK hP 1 0 rfl rfl (iR_vp f_10_2 (by decide +kernel)) dX7_isThing_13 ?_
    have f_13_3 : iR (f14 (i 13).toNatClampNeg) 0 10 := hf14 _
    refine lv_icmp_ge (tgt := 21) hx hb dX7_isThing_14 (by decide) (fun c_14 => ?_) (fun c_14 => ?_)
    · have c_14 : (f14 (i 13).toNatClampNeg) ≤ x1 := c_14
      exact J_21   H locs ls hP hD hS (lv_sub hl [] rfl)
    · have c_14 : x1 < (f14 (i 13).toNatClampNeg) := i_nle c_14
      have f_17_4 : iR x1 0 9 := iR_ltL c_14 f_4_1 f_13_3 (by decide +kernel)
      have f_17_5 : iR (f14 (i 13).toNatClampNeg) 1 10 := iR_ltR c_14 f_4_1 f_13_3 (by decide +kernel)
      refine lv_iconst (v := 1) hx hb dX7_isThing_17 (by decide +kernel) ?_
      refine lv_goto (tgt := 22) hx hb dX7_isThing_18 (by decide) ?_
      exact k_ri B hP hD hS dX7_isThing_22 () [0, 1] rfl rfl rfl (Nat.le_of_ble_eq_true rfl) (Nat.le_of_ble_eq_true rfl) ⟨(iR_c (n := 1) (a := 0) (b := 1) (by decide +kernel) (by decide +kernel)), (Or.inr ⟨c_1, c_14⟩)⟩
set_option maxHeartbeats 8000000 in
set_option maxRecDepth 100000 in
theorem s_X7_isWish_v0 (l : Launch) (dC : Nat → ClassId) (dI : Nat → Nat → Nat) (cI cJ cZ cM : ClassId) (h : Nat) (r : Nat → Nat) (i : Nat → Int32) (j : Nat → Int64) (x1 : Int32) (f18 : Nat → Int32) (hI : mR i) (hf18 : aR f18 0 12) : k_Mi l yX7_isWish wsX7_isWish ({ frames := 1, cells := 0, slots := 0, locals := 40 }) (dC, dI) vwCl (tyy cI cJ cZ cM) [(h, .inr (7, oM r i j)), ((r 18), .inl (cI, 2, .inl f18))] [.ref h, .int x1] 0 0 (fun (u9 : Unit) => [(h, .inr (7, oM r i j)), ((r 18), .inl (cI, 2, .inl f18))]) (fun (r9 : Int32) (u9 : Unit) => (iR r9 0 1) ∧ ((r9 = 0) ∨ ((0 ≤ x1) ∧ (x1 < (f18 (i 13).toNatClampNeg))))) := by
  refine fun sz => k_enter (cc := cX7_isWish) (maxL := 2) (ret := some (.boolean)) (Qc := fun A => va_Qi (fun (r9 : Int32) (u9 : Unit) => (iR r9 0 1) ∧ ((r9 = 0) ∨ ((0 ≤ x1) ∧ (x1 < (f18 (i 13).toNatClampNeg))))) (fun u => k_B (dC, dI) vwCl (tyy cI cJ cZ cM) A ((fun (u9 : Unit) => [(h, .inr (7, oM r i j)), ((r 18), .inl (cI, 2, .inl f18))]) u)) A) sz (by decide +kernel) rfl (Nat.le_of_ble_eq_true rfl) (fun p e s m args below meth c A ls H locs B hP hD hS hl => ?_)
  obtain ⟨hx, hb, hml, hown, hts, hr, hlk, hnm, hK, hA, hN, hC⟩ := id B
  have hown : s.vm.findClass RX7 = some m.cls := hown
  have hl : lv_has ls 2 [(0, .ref h), (1, .int x1)] := hl
  have w_0 : (Cond.fieldLink RX7 66 "WishSeaModel" "wishes" "[I").before args s = true := hts _ (List.mem_of_getElem? (i := 1) rfl)
  have w_1 : (Cond.fieldLink RX7 51 "WishSeaModel" "bank" "I").before args s = true := hts _ (List.mem_of_getElem? (i := 2) rfl)
  have hinX7 : ∀ w ∈ u_ws RX7 TX7 92, w ∈ wsX7_isWish := fun _ h => List.mem_cons_of_mem _ (List.mem_append_right _ h)
  refine lv_iload_n hx hb dX7_isWish_0 rfl (lv_at hl 1 rfl) ?_
  have J_21 : ∀   (H : Heap) (locs : List Loc) (ls : Array Slot), va_P (dC, dI) vwCl [(h, .inr (7, oM r i j)), ((r 18), .inl (cI, 2, .inl f18))] H → va_D A [(h, .inr (7, oM r i j)), ((r 18), .inl (cI, 2, .inl f18))] → va_S A s.heap H locs → lv_has ls 2 [] → W p l e ({ frames := 1, cells := 0, slots := 0, locals := 40 }) s m args below meth c H locs 0 0 (MQ below (va_Qi (fun (r9 : Int32) (u9 : Unit) => (iR r9 0 1) ∧ ((r9 = 0) ∨ ((0 ≤ x1) ∧ (x1 < (f18 (i 13).toNatClampNeg))))) (fun u => k_B (dC, dI) vwCl (tyy cI cJ cZ cM) A ((fun (u9 : Unit) => [(h, .inr (7, oM r i j)), ((r 18), .inl (cI, 2, .inl f18))]) u)) A) args s 0 0 A) (F0 m 21 ls []) := by
    intro   H locs ls hP hD hS hl
    refine lv_iconst (v := 0) hx hb dX7_isWish_21 (by decide +kernel) ?_
    exact k_ri B hP hD hS dX7_isWish_22 () [0, 1] rfl rfl rfl (Nat.le_of_ble_eq_true rfl) (Nat.le_of_ble_eq_true rfl) ⟨(iR_c (n := 0) (a := 0) (b := 1) (by decide +kernel) (by decide +kernel)), (Or.inl rfl)⟩
  refine lv_if_lt (tgt := 21) hx hb dX7_isWish_1 (by decide) (fun c_1 => ?_) (fun c_1 => ?_)
  · have c_1 : x1 < 0 := c_1
    have f_21_1 : iR x1 (-2147483648) (-1) := iR_ltL c_1 (iR_top _) (iR_c (n := 0) (a := 0) (b := 0) (by decide +kernel) (by decide +kernel)) (by decide +kernel)
    exact J_21   H locs ls hP hD hS (lv_sub hl [] rfl)
  · have c_1 : 0 ≤ x1 := i_nlt c_1
    have f_4_1 : iR x1 0 2147483647 := iR_leR c_1 (iR_c (n := 0) (a := 0) (b := 0) (by decide +kernel) (by decide +kernel)) (iR_top _) (by decide +kernel)
    refine lv_iload_n hx hb dX7_isWish_4 rfl (lv_at hl 1 rfl) ?_
    refine lv_aload_n hx hb dX7_isWish_5 rfl (lv_at hl 0 rfl) ?_
    refine k_get (D := (dC, dI)) (ci := 7) (v := .ref (r 18)) (C := RX7) (T := TX7) (N := 92) hx hb hts hinX7 hown hK hP 0 rfl rfl 18 (by decide) w_0 rfl rfl dX7_isWish_6 ?_
    refine lv_aload_n hx hb dX7_isWish_9 rfl (lv_at hl 0 rfl) ?_
    have f_10_2 : iR (i 13) 0 1 := hI 13
    refine k_get (D := (dC, dI)) (ci := 7) (v := .int (i 13)) (C := RX7) (T := TX7) (N := 92) hx hb hts hinX7 hown hK hP 0 rfl rfl 13 (by decide) w_1 rfl rfl dX7_isWish_10 ?_
    refine va_iald hx hb hK hP 1 0 rfl rfl (iR_vp f_10_2 (by decide +kernel)) dX7_isWish_13 ?_
    have f_13_3 : iR (f18 (i 13).toNatClampNeg) 0 12 := hf18 _
    refine lv_icmp_ge (tgt := 21) hx hb dX7_isWish_14 (by decide) (fun c_14 => ?_) (fun c_14 => ?_)
    · have c_14 : (f18 (i 13).toNatClampNeg) ≤ x1 := c_14
      exact J_21   H locs ls hP hD hS (lv_sub hl [] rfl)
    · have c_14 : x1 < (f18 (i 13).toNatClampNeg) := i_nle c_14
      have f_17_4 : iR x1 0 11 := iR_ltL c_14 f_4_1 f_13_3 (by decide +kernel)
      have f_17_5 : iR (f18 (i 13).toNatClampNeg) 1 12 := iR_ltR c_14 f_4_1 f_13_3 (by decide +kernel)
      refine lv_iconst (v := 1) hx hb dX7_isWish_17 (by decide +kernel) ?_
      refine lv_goto (tgt := 22) hx hb dX7_isWish_18 (by decide) ?_
      exact k_ri B hP hD hS dX7_isWish_22 () [0, 1] rfl rfl rfl (Nat.le_of_ble_eq_true rfl) (Nat.le_of_ble_eq_true rfl) ⟨(iR_c (n := 1) (a := 0) (b := 1) (by decide +kernel) (by decide +kernel)), (Or.inr ⟨c_1, c_14⟩)⟩
set_option maxHeartbeats 8000000 in
set_option maxRecDepth 100000 in
theorem s_X7_value_v0 (l : Launch) (dC : Nat → ClassId) (dI : Nat → Nat → Nat) (cI cJ cZ cM : ClassId) (h : Nat) (r : Nat → Nat) (i : Nat → Int32) (j : Nat → Int64) (x1 : Int32) (g81 : Nat → Int64) (hI : mR i) : k_Ml l yX7_value wsX7_value ({ frames := 2, cells := 0, slots := 0, locals := 62 }) (dC, dI) vwCl (tyy cI cJ cZ cM) [(h, .inr (7, oM r i j)), ((r 81), .inl (cJ, 13, .inr (.inl g81)))] [.ref h, .int x1] 0 0 (fun (u9 : Unit) => [(h, .inr (7, oM r i j)), ((r 81), .inl (cJ, 13, .inr (.inl g81)))]) (fun (r9 : Int64) (u9 : Unit) => True) := by
  refine fun sz => k_enter (cc := cX7_value) (maxL := 2) (ret := some (.long)) (Qc := fun A => va_Ql (fun (r9 : Int64) (u9 : Unit) => True) (fun u => k_B (dC, dI) vwCl (tyy cI cJ cZ cM) A ((fun (u9 : Unit) => [(h, .inr (7, oM r i j)), ((r 81), .inl (cJ, 13, .inr (.inl g81)))]) u)) A) sz (by decide +kernel) rfl (Nat.le_of_ble_eq_true rfl) (fun p e s m args below meth c A ls H locs B hP hD hS hl => ?_)
  obtain ⟨hx, hb, hml, hown, hts, hr, hlk, hnm, hK, hA, hN, hC⟩ := id B
  have hown : s.vm.findClass RX7 = some m.cls := hown
  have hl : lv_has ls 2 [(0, .ref h), (1, .int x1)] := hl
  have w_0 : (Cond.fieldLink RX7 255 "WishSeaModel" "stopMany" "I").before args s = true := hts _ (List.mem_of_getElem? (i := 1) rfl)
  have w_1 : (Cond.constantLong RX7 629 (-1)).before args s = true := hts _ (List.mem_of_getElem? (i := 3) rfl)
  have w_2 : (Cond.fieldLink RX7 258 "WishSeaModel" "values" "[J").before args s = true := hts _ (List.mem_of_getElem? (i := 2) rfl)
  have hinX7 : ∀ w ∈ u_ws RX7 TX7 92, w ∈ wsX7_value := fun _ h => List.mem_cons_of_mem _ (List.mem_append_right _ h)
  refine lv_iload_n hx hb dX7_value_0 rfl (lv_at hl 1 rfl) ?_
  refine lv_iconst (v := 0) hx hb dX7_value_1 (by decide +kernel) ?_
  refine lv_aload_n hx hb dX7_value_2 rfl (lv_at hl 0 rfl) ?_
  have f_3_1 : iR (i 80) (-1) 12 := hI 80
  refine k_get (D := (dC, dI)) (ci := 7) (v := .int (i 80)) (C := RX7) (T := TX7) (N := 92) hx hb hts hinX7 hown hK hP 0 rfl rfl 80 (by decide) w_0 rfl rfl dX7_value_3 ?_
  refine k_ci (wc := []) (wr := [(h, .inr (7, oM r i j)), ((r 81), .inl (cJ, 13, .inr (.inl g81)))]) (fun hPc hDc hFc => va_runS (As := [.int x1, .int 0, .int (i 80)]) (rest := []) ⟨hx, hb, hml, hown, hts⟩ (s_X7_is_v0 l dC dI cI cJ cZ cM x1 0 (i 80) H.size) (va_cwS 3 hts gX7_value_X7_is rfl rfl rfl (by decide +kernel) ⟨(Nat.le_of_ble_eq_true rfl), (Nat.le_of_ble_eq_true rfl)⟩) (k_pS hPc hDc hK hN hC hS hFc) rfl rfl hl.1 rfl (lv_room (Nat.le_of_ble_eq_true rfl)) dX7_value_6 ⟨(Nat.le_of_ble_eq_true rfl), (Nat.le_of_ble_eq_true rfl)⟩) hP hD hS hA [] [0, 1] rfl rfl rfl rfl (by decide) (fun _ => rfl) 0 0 rfl rfl (fun r_6 u_6 H locs hw hP hD hS => ?_)
  obtain ⟨g_6_0, g_6_1⟩ := hw
  have hP : va_P (dC, dI) vwCl [(h, .inr (7, oM r i j)), ((r 81), .inl (cJ, 13, .inr (.inl g81)))] H := hP
  have hD : va_D A [(h, .inr (7, oM r i j)), ((r 81), .inl (cJ, 13, .inr (.inl g81)))] := hD
  have J_24 : ∀ (j24_S0 : Int64)  (H : Heap) (locs : List Loc) (ls : Array Slot), va_P (dC, dI) vwCl [(h, .inr (7, oM r i j)), ((r 81), .inl (cJ, 13, .inr (.inl g81)))] H → va_D A [(h, .inr (7, oM r i j)), ((r 81), .inl (cJ, 13, .inr (.inl g81)))] → va_S A s.heap H locs → lv_has ls 2 [] → W p l e ({ frames := 2, cells := 0, slots := 0, locals := 62 }) s m args below meth c H locs 0 0 (MQ below (va_Ql (fun (r9 : Int64) (u9 : Unit) => True) (fun u => k_B (dC, dI) vwCl (tyy cI cJ cZ cM) A ((fun (u9 : Unit) => [(h, .inr (7, oM r i j)), ((r 81), .inl (cJ, 13, .inr (.inl g81)))]) u)) A) args s 0 0 A) (F0 m 24 ls [.long j24_S0]) := by
    intro j24_S0  H locs ls hP hD hS hl
    exact k_rl B hP hD hS dX7_value_24 () [0, 1] rfl rfl (Nat.le_of_ble_eq_true rfl) (Nat.le_of_ble_eq_true rfl) trivial
  refine lv_if_eq (tgt := 21) hx hb dX7_value_9 (by decide) (fun c_9 => ?_) (fun c_9 => ?_)
  · have c_9 : r_6 = 0 := c_9
    have f_21_2 : iR r_6 0 0 := iR_eqL c_9 g_6_0 (iR_c (n := 0) (a := 0) (b := 0) (by decide +kernel) (by decide +kernel)) (by decide +kernel)
    refine lv_ldc2 (v := (-1)) hx hb hown w_1 dX7_value_21 ?_
    exact J_24 (-1)  H locs ls hP hD hS (lv_sub hl [] rfl)
  · have c_9 : ¬ r_6 = 0 := c_9
    have f_12_2 : iR r_6 1 1 := iR_neL c_9 g_6_0 (iR_c (n := 0) (a := 0) (b := 0) (by decide +kernel) (by decide +kernel)) (by decide +kernel)
    obtain ⟨d_9_1_0, d_9_1_1⟩ := g_6_1.resolve_left c_9
    have f_12_3 : iR x1 0 2147483647 := iR_leR d_9_1_0 (iR_c (n := 0) (a := 0) (b := 0) (by decide +kernel) (by decide +kernel)) (iR_top _) (by decide +kernel)
    have f_12_4 : iR x1 0 12 := iR_leL d_9_1_1 f_12_3 f_3_1 (by decide +kernel)
    have f_12_5 : iR (i 80) 0 12 := iR_leR d_9_1_1 f_12_3 f_3_1 (by decide +kernel)
    refine lv_aload_n hx hb dX7_value_12 rfl (lv_at hl 0 rfl) ?_
    refine k_get (D := (dC, dI)) (ci := 7) (v := .ref (r 81)) (C := RX7) (T := TX7) (N := 92) hx hb hts hinX7 hown hK hP 0 rfl rfl 81 (by decide) w_2 rfl rfl dX7_value_13 ?_
    refine lv_iload_n hx hb dX7_value_16 rfl (lv_at hl 1 rfl) ?_
    refine va_lald hx hb hK hP 1 1 rfl rfl (iR_vp f_12_4 (by decide +kernel)) dX7_value_17 ?_
    refine lv_goto (tgt := 24) hx hb dX7_value_18 (by decide) ?_
    exact J_24 (g81 x1.toNatClampNeg)  H locs ls hP hD hS (lv_sub hl [] rfl)
set_option maxHeartbeats 8000000 in
set_option maxRecDepth 100000 in
theorem s_X7_held_v0 (l : Launch) (dC : Nat → ClassId) (dI : Nat → Nat → Nat) (cI cJ cZ cM : ClassId) (x0 : Int64)  : k_Ml l yX7_held wsX7_held ({ frames := 1, cells := 0, slots := 0, locals := 40 }) (dC, dI) vwCl (tyy cI cJ cZ cM) [] [.long x0] 0 0 (fun (u9 : Unit) => []) (fun (r9 : Int64) (u9 : Unit) => True) := by
  refine fun sz => k_enter (cc := cX7_held) (maxL := 2) (ret := some (.long)) (Qc := fun A => va_Ql (fun (r9 : Int64) (u9 : Unit) => True) (fun u => k_B (dC, dI) vwCl (tyy cI cJ cZ cM) A ((fun (u9 : Unit) => []) u)) A) sz (by decide +kernel) rfl (Nat.le_of_ble_eq_true rfl) (fun p e s m args below meth c A ls H locs B hP hD hS hl => ?_)
  obtain ⟨hx, hb, hml, hown, hts, hr, hlk, hnm, hK, hA, hN, hC⟩ := id B
  have hown : s.vm.findClass RX7 = some m.cls := hown
  have hl : lv_has ls 2 [(0, .long x0)] := hl
  have w_0 : (Cond.constantLong RX7 502 (1000000)).before args s = true := hts _ (List.mem_of_getElem? (i := 1) rfl)
  have w_1 : (Cond.constantLong RX7 504 (-1000000)).before args s = true := hts _ (List.mem_of_getElem? (i := 2) rfl)
  refine lv_lload_n hx hb dX7_held_0 rfl (lv_at hl 0 rfl) ?_
  refine lv_ldc2 (v := 1000000) hx hb hown w_0 dX7_held_1 ?_
  refine W.lcmp hx hb dX7_held_4 ?_
  refine lv_topi (fun y_4 ey_4 => ?_)
  have J_29 : ∀ (j29_S0 : Int64)  (H : Heap) (locs : List Loc) (ls : Array Slot), va_P (dC, dI) vwCl [] H → va_D A [] → va_S A s.heap H locs → lv_has ls 2 [] → W p l e ({ frames := 1, cells := 0, slots := 0, locals := 40 }) s m args below meth c H locs 0 0 (MQ below (va_Ql (fun (r9 : Int64) (u9 : Unit) => True) (fun u => k_B (dC, dI) vwCl (tyy cI cJ cZ cM) A ((fun (u9 : Unit) => []) u)) A) args s 0 0 A) (F0 m 29 ls [.long j29_S0]) := by
    intro j29_S0  H locs ls hP hD hS hl
    exact k_rl B hP hD hS dX7_held_29 () [] rfl rfl (Nat.le_of_ble_eq_true rfl) (Nat.le_of_ble_eq_true rfl) trivial
  refine lv_if_le (tgt := 14) hx hb dX7_held_5 (by decide) (fun c_5 => ?_) (fun c_5 => ?_)
  · have c_5 : y_4 ≤ 0 := c_5
    have f_14_1 : iR y_4 (-2147483648) 0 := iR_leL c_5 (iR_top _) (iR_c (n := 0) (a := 0) (b := 0) (by decide +kernel) (by decide +kernel)) (by decide +kernel)
    have lc_5 : x0 ≤ 1000000 := l_cmple ey_4 c_5
    refine lv_lload_n hx hb dX7_held_14 rfl (lv_at hl 0 rfl) ?_
    refine lv_ldc2 (v := (-1000000)) hx hb hown w_1 dX7_held_15 ?_
    refine W.lcmp hx hb dX7_held_18 ?_
    refine lv_topi (fun y_18 ey_18 => ?_)
    refine lv_if_ge (tgt := 28) hx hb dX7_held_19 (by decide) (fun c_19 => ?_) (fun c_19 => ?_)
    · have c_19 : 0 ≤ y_18 := c_19
      have f_28_2 : iR y_18 0 2147483647 := iR_leR c_19 (iR_c (n := 0) (a := 0) (b := 0) (by decide +kernel) (by decide +kernel)) (iR_top _) (by decide +kernel)
      have lc_19 : (-1000000) ≤ x0 := l_cmpge ey_18 c_19
      refine lv_lload_n hx hb dX7_held_28 rfl (lv_at hl 0 rfl) ?_
      exact J_29 x0  H locs ls hP hD hS (lv_sub hl [] rfl)
    · have c_19 : y_18 < 0 := i_nle c_19
      have f_22_2 : iR y_18 (-2147483648) (-1) := iR_ltL c_19 (iR_top _) (iR_c (n := 0) (a := 0) (b := 0) (by decide +kernel) (by decide +kernel)) (by decide +kernel)
      have lc_19 : x0 < (-1000000) := l_cmplt ey_18 c_19
      refine lv_ldc2 (v := (-1000000)) hx hb hown w_1 dX7_held_22 ?_
      refine lv_goto (tgt := 29) hx hb dX7_held_25 (by decide) ?_
      exact J_29 (-1000000)  H locs ls hP hD hS (lv_sub hl [] rfl)
  · have c_5 : 0 < y_4 := i_nle c_5
    have f_8_1 : iR y_4 1 2147483647 := iR_ltR c_5 (iR_c (n := 0) (a := 0) (b := 0) (by decide +kernel) (by decide +kernel)) (iR_top _) (by decide +kernel)
    have lc_5 : 1000000 < x0 := l_cmpgt ey_4 c_5
    refine lv_ldc2 (v := 1000000) hx hb hown w_0 dX7_held_8 ?_
    refine lv_goto (tgt := 29) hx hb dX7_held_11 (by decide) ?_
    exact J_29 1000000  H locs ls hP hD hS (lv_sub hl [] rfl)
set_option maxHeartbeats 8000000 in
set_option maxRecDepth 100000 in
theorem s_X7_twoBytes_v0 (l : Launch) (dC : Nat → ClassId) (dI : Nat → Nat → Nat) (cI cJ cZ cM : ClassId) (h : Nat) (r : Nat → Nat) (i : Nat → Int32) (j : Nat → Int64) (x1 : Int32) (f0 : Nat → Int32) (hx1 : iR x1 0 1798) (hI : mR i) (hf0 : aR f0 0 255) : k_Mi l yX7_twoBytes wsX7_twoBytes ({ frames := 1, cells := 0, slots := 0, locals := 40 }) (dC, dI) vwCl (tyy cI cJ cZ cM) [(h, .inr (7, oM r i j)), ((r 0), .inl (cI, 1800, .inl f0))] [.ref h, .int x1] 0 0 (fun (u9 : Unit) => [(h, .inr (7, oM r i j)), ((r 0), .inl (cI, 1800, .inl f0))]) (fun (r9 : Int32) (u9 : Unit) => (iR r9 0 65535) ∧ (r9 = (tb2 f0 x1.toNatClampNeg))) := by
  refine fun sz => k_enter (cc := cX7_twoBytes) (maxL := 2) (ret := some (.int)) (Qc := fun A => va_Qi (fun (r9 : Int32) (u9 : Unit) => (iR r9 0 65535) ∧ (r9 = (tb2 f0 x1.toNatClampNeg))) (fun u => k_B (dC, dI) vwCl (tyy cI cJ cZ cM) A ((fun (u9 : Unit) => [(h, .inr (7, oM r i j)), ((r 0), .inl (cI, 1800, .inl f0))]) u)) A) sz (by decide +kernel) rfl (Nat.le_of_ble_eq_true rfl) (fun p e s m args below meth c A ls H locs B hP hD hS hl => ?_)
  obtain ⟨hx, hb, hml, hown, hts, hr, hlk, hnm, hK, hA, hN, hC⟩ := id B
  have hown : s.vm.findClass RX7 = some m.cls := hown
  have hl : lv_has ls 2 [(0, .ref h), (1, .int x1)] := hl
  have w_0 : (Cond.fieldLink RX7 7 "WishSeaModel" "tape" "[I").before args s = true := hts _ (List.mem_of_getElem? (i := 1) rfl)
  have hinX7 : ∀ w ∈ u_ws RX7 TX7 92, w ∈ wsX7_twoBytes := fun _ h => List.mem_cons_of_mem _ (List.mem_append_right _ h)
  refine lv_aload_n hx hb dX7_twoBytes_0 rfl (lv_at hl 0 rfl) ?_
  refine k_get (D := (dC, dI)) (ci := 7) (v := .ref (r 0)) (C := RX7) (T := TX7) (N := 92) hx hb hts hinX7 hown hK hP 0 rfl rfl 0 (by decide) w_0 rfl rfl dX7_twoBytes_1 ?_
  refine lv_iload_n hx hb dX7_twoBytes_4 rfl (lv_at hl 1 rfl) ?_
  refine va_iald hx hb hK hP 1 0 rfl rfl (iR_vp hx1 (by decide +kernel)) dX7_twoBytes_5 ?_
  have f_5_1 : iR (f0 x1.toNatClampNeg) 0 255 := hf0 _
  refine lv_bipush (v := 8) hx hb dX7_twoBytes_6 (by decide +kernel) ?_
  refine lv_ishl hx hb dX7_twoBytes_8 ?_
  refine lv_topi (fun y_8 ey_8 => ?_)
  have f_8_2 : iR y_8 0 65280 := iR_shl 8 ey_8 f_5_1 (iR_c (n := 8) (a := 8) (b := 8) (by decide +kernel) (by decide +kernel)) (by decide +kernel)
  refine lv_aload_n hx hb dX7_twoBytes_9 rfl (lv_at hl 0 rfl) ?_
  refine k_get (D := (dC, dI)) (ci := 7) (v := .ref (r 0)) (C := RX7) (T := TX7) (N := 92) hx hb hts hinX7 hown hK hP 0 rfl rfl 0 (by decide) w_0 rfl rfl dX7_twoBytes_10 ?_
  refine lv_iload_n hx hb dX7_twoBytes_13 rfl (lv_at hl 1 rfl) ?_
  refine lv_iconst (v := 1) hx hb dX7_twoBytes_14 (by decide +kernel) ?_
  refine lv_iadd hx hb dX7_twoBytes_15 ?_
  refine lv_topi (fun y_15 ey_15 => ?_)
  have f_15_3 : iR y_15 1 1799 := iR_add ey_15 hx1 (iR_c (n := 1) (a := 1) (b := 1) (by decide +kernel) (by decide +kernel)) (by decide +kernel)
  refine va_iald hx hb hK hP 1 0 rfl rfl (iR_vp f_15_3 (by decide +kernel)) dX7_twoBytes_16 ?_
  have f_16_4 : iR (f0 y_15.toNatClampNeg) 0 255 := hf0 _
  refine lv_ior hx hb dX7_twoBytes_17 ?_
  refine lv_topi (fun y_17 ey_17 => ?_)
  have f_17_5 : iR y_17 0 65535 := iR_or 16 ey_17 f_8_2 f_16_4 (by decide +kernel)
  exact k_ri B hP hD hS dX7_twoBytes_18 () [0, 1] rfl rfl rfl (Nat.le_of_ble_eq_true rfl) (Nat.le_of_ble_eq_true rfl) ⟨f_17_5, (by rw [ey_17, ey_8]; rfl)⟩
set_option maxHeartbeats 8000000 in
set_option maxRecDepth 100000 in
theorem s_X7_writes_v0 (l : Launch) (dC : Nat → ClassId) (dI : Nat → Nat → Nat) (cI cJ cZ cM : ClassId) (h : Nat) (r : Nat → Nat) (i : Nat → Int32) (j : Nat → Int64) (x1 : Int32) (f90 : Nat → Int32) (hm91 : iR (i 91) 0 8) (hI : mR i) : k_Mv l yX7_writes wsX7_writes ({ frames := 1, cells := 0, slots := 0, locals := 40 }) (dC, dI) vwCl (tyy cI cJ cZ cM) [(h, .inr (7, oM r i j)), ((r 90), .inl (cI, 12, .inl f90))] [.ref h, .int x1] 0 0 (fun (u9 : SU) => [(h, .inr (7, oM r (upd i 91 (u9.1 0)) j)), ((r 90), .inl (cI, 12, .inl (u9.2.2.1 0)))]) (fun (u9 : SU) => (iR (u9.1 0) 1 9)) := by
  refine fun sz => k_enter (cc := cX7_writes) (maxL := 2) (ret := none) (Qc := fun A => va_Qv (fun (u9 : SU) => (iR (u9.1 0) 1 9)) (fun u => k_B (dC, dI) vwCl (tyy cI cJ cZ cM) A ((fun (u9 : SU) => [(h, .inr (7, oM r (upd i 91 (u9.1 0)) j)), ((r 90), .inl (cI, 12, .inl (u9.2.2.1 0)))]) u)) A) sz (by decide +kernel) rfl (Nat.le_of_ble_eq_true rfl) (fun p e s m args below meth c A ls H locs B hP hD hS hl => ?_)
  obtain ⟨hx, hb, hml, hown, hts, hr, hlk, hnm, hK, hA, hN, hC⟩ := id B
  have hown : s.vm.findClass RX7 = some m.cls := hown
  have hl : lv_has ls 2 [(0, .ref h), (1, .int x1)] := hl
  have w_0 : (Cond.fieldLink RX7 285 "WishSeaModel" "out" "[I").before args s = true := hts _ (List.mem_of_getElem? (i := 1) rfl)
  have w_1 : (Cond.fieldLink RX7 288 "WishSeaModel" "outs" "I").before args s = true := hts _ (List.mem_of_getElem? (i := 2) rfl)
  have hinX7 : ∀ w ∈ u_ws RX7 TX7 92, w ∈ wsX7_writes := fun _ h => List.mem_cons_of_mem _ (List.mem_append_right _ h)
  refine lv_aload_n hx hb dX7_writes_0 rfl (lv_at hl 0 rfl) ?_
  refine k_get (D := (dC, dI)) (ci := 7) (v := .ref (r 90)) (C := RX7) (T := TX7) (N := 92) hx hb hts hinX7 hown hK hP 0 rfl rfl 90 (by decide) w_0 rfl rfl dX7_writes_1 ?_
  refine lv_aload_n hx hb dX7_writes_4 rfl (lv_at hl 0 rfl) ?_
  refine k_get (D := (dC, dI)) (ci := 7) (v := .int (i 91)) (C := RX7) (T := TX7) (N := 92) hx hb hts hinX7 hown hK hP 0 rfl rfl 91 (by decide) w_1 rfl rfl dX7_writes_5 ?_
  refine lv_iload_n hx hb dX7_writes_8 rfl (lv_at hl 1 rfl) ?_
  refine lv_sipush (v := 255) hx hb dX7_writes_9 (by decide +kernel) ?_
  refine lv_iand hx hb dX7_writes_12 ?_
  refine lv_topi (fun y_12 ey_12 => ?_)
  have f_12_1 : iR y_12 0 255 := iR_andR ey_12 (iR_c (n := 255) (a := 255) (b := 255) (by decide +kernel) (by decide +kernel)) (by decide +kernel)
  refine s_iast (g := (upd f90 (i 91).toNatClampNeg y_12)) (ws' := [(h, .inr (7, oM r i j)), ((r 90), .inl (cI, 12, .inl (upd f90 (i 91).toNatClampNeg y_12)))]) hx hb hK hP hD hS 1 0 rfl rfl (iR_vp hm91 (by decide +kernel)) rfl rfl dX7_writes_13 (fun H locs hP hD hS => ?_)
  refine lv_aload_n hx hb dX7_writes_14 rfl (lv_at hl 0 rfl) ?_
  refine lv_dup hx hb dX7_writes_15 rfl ?_
  refine k_get (D := (dC, dI)) (ci := 7) (v := .int (i 91)) (C := RX7) (T := TX7) (N := 92) hx hb hts hinX7 hown hK hP 0 rfl rfl 91 (by decide) w_1 rfl rfl dX7_writes_16 ?_
  refine lv_iconst (v := 1) hx hb dX7_writes_19 (by decide +kernel) ?_
  refine lv_iadd hx hb dX7_writes_20 ?_
  refine lv_topi (fun y_20 ey_20 => ?_)
  have f_20_2 : iR y_20 1 9 := iR_add ey_20 hm91 (iR_c (n := 1) (a := 1) (b := 1) (by decide +kernel) (by decide +kernel)) (by decide +kernel)
  refine k_put (D := (dC, dI)) (ci := 7) (v := .int y_20) (C := RX7) (T := TX7) (N := 92) (ws' := [(h, .inr (7, oM r (upd i 91 y_20) j)), ((r 90), .inl (cI, 12, .inl (upd f90 (i 91).toNatClampNeg y_12)))]) hx hb hts hinX7 tyX7 tyX7_ok nmX7 hown hK hP hD hS 0 rfl rfl 91 (by decide) w_1 rfl rfl rfl rfl (Nat.le_of_ble_eq_true rfl) rfl dX7_writes_21 (fun H locs hP hD hS => ?_)
  exact k_rv B hP hD hS dX7_writes_24 ((fun k9 => match k9 with | 0 => y_20 | _ => 0), (fun _ => 0), (fun k9 => match k9 with | 0 => (upd f90 (i 91).toNatClampNeg y_12) | _ => (fun _ => 0)), (fun _ => (fun _ => 0)), (fun _ => 0)) [0, 1] rfl rfl (Nat.le_of_ble_eq_true rfl) (Nat.le_of_ble_eq_true rfl) f_20_2
set_option maxHeartbeats 8000000 in
set_option maxRecDepth 100000 in
theorem s_X7_octet_v0 (l : Launch) (dC : Nat → ClassId) (dI : Nat → Nat → Nat) (cI cJ cZ cM : ClassId) (h : Nat) (r : Nat → Nat) (i : Nat → Int32) (j : Nat → Int64) (x1 : Int32) (f90 : Nat → Int32) (hI : mR i) : k_Mi l yX7_octet wsX7_octet ({ frames := 2, cells := 0, slots := 0, locals := 62 }) (dC, dI) vwCl (tyy cI cJ cZ cM) [(h, .inr (7, oM r i j)), ((r 90), .inl (cI, 12, .inl f90))] [.ref h, .int x1] 0 0 (fun (u9 : Unit) => [(h, .inr (7, oM r i j)), ((r 90), .inl (cI, 12, .inl f90))]) (fun (r9 : Int32) (u9 : Unit) => True) := by
  refine fun sz => k_enter (cc := cX7_octet) (maxL := 2) (ret := some (.int)) (Qc := fun A => va_Qi (fun (r9 : Int32) (u9 : Unit) => True) (fun u => k_B (dC, dI) vwCl (tyy cI cJ cZ cM) A ((fun (u9 : Unit) => [(h, .inr (7, oM r i j)), ((r 90), .inl (cI, 12, .inl f90))]) u)) A) sz (by decide +kernel) rfl (Nat.le_of_ble_eq_true rfl) (fun p e s m args below meth c A ls H locs B hP hD hS hl => ?_)
  obtain ⟨hx, hb, hml, hown, hts, hr, hlk, hnm, hK, hA, hN, hC⟩ := id B
  have hown : s.vm.findClass RX7 = some m.cls := hown
  have hl : lv_has ls 2 [(0, .ref h), (1, .int x1)] := hl
  have w_0 : (Cond.fieldLink RX7 288 "WishSeaModel" "outs" "I").before args s = true := hts _ (List.mem_of_getElem? (i := 1) rfl)
  have w_1 : (Cond.fieldLink RX7 285 "WishSeaModel" "out" "[I").before args s = true := hts _ (List.mem_of_getElem? (i := 2) rfl)
  have hinX7 : ∀ w ∈ u_ws RX7 TX7 92, w ∈ wsX7_octet := fun _ h => List.mem_cons_of_mem _ (List.mem_append_right _ h)
  refine lv_iload_n hx hb dX7_octet_0 rfl (lv_at hl 1 rfl) ?_
  refine lv_iconst (v := 0) hx hb dX7_octet_1 (by decide +kernel) ?_
  refine lv_aload_n hx hb dX7_octet_2 rfl (lv_at hl 0 rfl) ?_
  have f_3_1 : iR (i 91) 0 9 := hI 91
  refine k_get (D := (dC, dI)) (ci := 7) (v := .int (i 91)) (C := RX7) (T := TX7) (N := 92) hx hb hts hinX7 hown hK hP 0 rfl rfl 91 (by decide) w_0 rfl rfl dX7_octet_3 ?_
  refine lv_iconst (v := 1) hx hb dX7_octet_6 (by decide +kernel) ?_
  refine lv_isub hx hb dX7_octet_7 ?_
  refine lv_topi (fun y_7 ey_7 => ?_)
  have f_7_2 : iR y_7 (-1) 8 := iR_sub ey_7 f_3_1 (iR_c (n := 1) (a := 1) (b := 1) (by decide +kernel) (by decide +kernel)) (by decide +kernel)
  refine k_ci (wc := []) (wr := [(h, .inr (7, oM r i j)), ((r 90), .inl (cI, 12, .inl f90))]) (fun hPc hDc hFc => va_runS (As := [.int x1, .int 0, .int y_7]) (rest := []) ⟨hx, hb, hml, hown, hts⟩ (s_X7_is_v0 l dC dI cI cJ cZ cM x1 0 y_7 H.size) (va_cwS 3 hts gX7_octet_X7_is rfl rfl rfl (by decide +kernel) ⟨(Nat.le_of_ble_eq_true rfl), (Nat.le_of_ble_eq_true rfl)⟩) (k_pS hPc hDc hK hN hC hS hFc) rfl rfl hl.1 rfl (lv_room (Nat.le_of_ble_eq_true rfl)) dX7_octet_8 ⟨(Nat.le_of_ble_eq_true rfl), (Nat.le_of_ble_eq_true rfl)⟩) hP hD hS hA [] [0, 1] rfl rfl rfl rfl (by decide) (fun _ => rfl) 0 0 rfl rfl (fun r_8 u_8 H locs hw hP hD hS => ?_)
  obtain ⟨g_8_0, g_8_1⟩ := hw
  have hP : va_P (dC, dI) vwCl [(h, .inr (7, oM r i j)), ((r 90), .inl (cI, 12, .inl f90))] H := hP
  have hD : va_D A [(h, .inr (7, oM r i j)), ((r 90), .inl (cI, 12, .inl f90))] := hD
  refine lv_if_eq (tgt := 23) hx hb dX7_octet_11 (by decide) (fun c_11 => ?_) (fun c_11 => ?_)
  · have c_11 : r_8 = 0 := c_11
    have f_23_3 : iR r_8 0 0 := iR_eqL c_11 g_8_0 (iR_c (n := 0) (a := 0) (b := 0) (by decide +kernel) (by decide +kernel)) (by decide +kernel)
    refine lv_iconst (v := (-1)) hx hb dX7_octet_23 (by decide +kernel) ?_
    exact k_ri B hP hD hS dX7_octet_24 () [0, 1] rfl rfl rfl (Nat.le_of_ble_eq_true rfl) (Nat.le_of_ble_eq_true rfl) trivial
  · have c_11 : ¬ r_8 = 0 := c_11
    have f_14_3 : iR r_8 1 1 := iR_neL c_11 g_8_0 (iR_c (n := 0) (a := 0) (b := 0) (by decide +kernel) (by decide +kernel)) (by decide +kernel)
    obtain ⟨d_11_1_0, d_11_1_1⟩ := g_8_1.resolve_left c_11
    have f_14_4 : iR x1 0 2147483647 := iR_leR d_11_1_0 (iR_c (n := 0) (a := 0) (b := 0) (by decide +kernel) (by decide +kernel)) (iR_top _) (by decide +kernel)
    have f_14_5 : iR x1 0 8 := iR_leL d_11_1_1 f_14_4 f_7_2 (by decide +kernel)
    have f_14_6 : iR y_7 0 8 := iR_leR d_11_1_1 f_14_4 f_7_2 (by decide +kernel)
    refine lv_aload_n hx hb dX7_octet_14 rfl (lv_at hl 0 rfl) ?_
    refine k_get (D := (dC, dI)) (ci := 7) (v := .ref (r 90)) (C := RX7) (T := TX7) (N := 92) hx hb hts hinX7 hown hK hP 0 rfl rfl 90 (by decide) w_1 rfl rfl dX7_octet_15 ?_
    refine lv_iload_n hx hb dX7_octet_18 rfl (lv_at hl 1 rfl) ?_
    refine va_iald hx hb hK hP 1 0 rfl rfl (iR_vp f_14_5 (by decide +kernel)) dX7_octet_19 ?_
    refine lv_goto (tgt := 24) hx hb dX7_octet_20 (by decide) ?_
    exact k_ri B hP hD hS dX7_octet_24 () [0, 1] rfl rfl rfl (Nat.le_of_ble_eq_true rfl) (Nat.le_of_ble_eq_true rfl) trivial
