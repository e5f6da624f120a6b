set_option maxHeartbeats 8000000 in
set_option maxRecDepth 100000 in
theorem s_X7_isSign_v2 (l : Launch) (dC : Nat → ClassId) (dI : Nat → Nat → Nat) (cI cJ cZ cM : ClassId) (h : Nat) (r : Nat → Nat) (i : Nat → Int32) (j : Nat → Int64) (hm3 : iR (i 3) 0 3) (hm6 : iR (i 6) 0 9999) (hI : mR i) : k_Mi l yX7_isSign wsX7_isSign ({ frames := 1, cells := 0, slots := 0, locals := 40 }) (dC, dI) vwCl (tyy cI cJ cZ cM) [(h, .inr (7, oM r i j))] [.ref h, .int 43] 0 0 (fun (u9 : Unit) => [(h, .inr (7, oM r i j))]) (fun (r9 : Int32) (u9 : Unit) => (iR r9 0 1) ∧ ((r9 = 0) ∨ (((i 3) = 3) ∧ ((i 6) = 43)))) := by
  refine fun sz => k_enter (cc := cX7_isSign) (maxL := 2) (ret := some (.boolean)) (Qc := fun A => va_Qi (fun (r9 : Int32) (u9 : Unit) => (iR r9 0 1) ∧ ((r9 = 0) ∨ (((i 3) = 3) ∧ ((i 6) = 43)))) (fun u => k_B (dC, dI) vwCl (tyy cI cJ cZ cM) A ((fun (u9 : Unit) => [(h, .inr (7, oM r i j))]) u)) A) sz (by decide +kernel) rfl (Nat.le_of_ble_eq_true rfl) (fun p e s m args below meth c A ls H locs B hP hD hS hl => ?_)
  obtain ⟨hx, hb, hml, hown, hts, hr, hlk, hnm, hK, hA, hN, hC⟩ := id B
  have hown : s.vm.findClass RX7 = some m.cls := hown
  have hl : lv_has ls 2 [(0, .ref h), (1, .int 43)] := hl
  have w_0 : (Cond.fieldLink RX7 20 "WishSeaModel" "sign" "I").before args s = true := hts _ (List.mem_of_getElem? (i := 1) rfl)
  have w_1 : (Cond.fieldLink RX7 29 "WishSeaModel" "value" "I").before args s = true := hts _ (List.mem_of_getElem? (i := 2) rfl)
  have hinX7 : ∀ w ∈ u_ws RX7 TX7 92, w ∈ wsX7_isSign := fun _ h => List.mem_cons_of_mem _ (List.mem_append_right _ h)
  refine lv_aload_n hx hb dX7_isSign_0 rfl (lv_at hl 0 rfl) ?_
  refine k_get (D := (dC, dI)) (ci := 7) (v := .int (i 3)) (C := RX7) (T := TX7) (N := 92) hx hb hts hinX7 hown hK hP 0 rfl rfl 3 (by decide) w_0 rfl rfl dX7_isSign_1 ?_
  refine lv_iconst (v := 3) hx hb dX7_isSign_4 (by decide +kernel) ?_
  have J_20 : ∀   (H : Heap) (locs : List Loc) (ls : Array Slot), va_P (dC, dI) vwCl [(h, .inr (7, oM r i j))] H → va_D A [(h, .inr (7, oM r i j))] → va_S A s.heap H locs → lv_has ls 2 [] → W p l e ({ frames := 1, cells := 0, slots := 0, locals := 40 }) s m args below meth c H locs 0 0 (MQ below (va_Qi (fun (r9 : Int32) (u9 : Unit) => (iR r9 0 1) ∧ ((r9 = 0) ∨ (((i 3) = 3) ∧ ((i 6) = 43)))) (fun u => k_B (dC, dI) vwCl (tyy cI cJ cZ cM) A ((fun (u9 : Unit) => [(h, .inr (7, oM r i j))]) u)) A) args s 0 0 A) (F0 m 20 ls []) := by
    intro   H locs ls hP hD hS hl
    refine lv_iconst (v := 0) hx hb dX7_isSign_20 (by decide +kernel) ?_
    exact k_ri B hP hD hS dX7_isSign_21 () [0] rfl rfl rfl (Nat.le_of_ble_eq_true rfl) (Nat.le_of_ble_eq_true rfl) ⟨(show iR 0 0 1 from (iR_c (n := 0) (a := 0) (b := 1) (by decide +kernel) (by decide +kernel))), (show (0 = 0) ∨ (((i 3) = 3) ∧ ((i 6) = 43)) from (Or.inl rfl))⟩
  refine lv_icmp_ne (tgt := 20) hx hb dX7_isSign_5 (by decide) (fun c_5 => ?_) (fun c_5 => ?_)
  · have c_5 : ¬ (i 3) = 3 := c_5
    have f_20_1 : iR (i 3) 0 2 := iR_neL c_5 hm3 (iR_c (n := 3) (a := 3) (b := 3) (by decide +kernel) (by decide +kernel)) (by decide +kernel)
    exact J_20   H locs ls hP hD hS (lv_sub hl [] rfl)
  · have c_5 : (i 3) = 3 := c_5
    have f_8_1 : iR (i 3) 3 3 := iR_eqL c_5 hm3 (iR_c (n := 3) (a := 3) (b := 3) (by decide +kernel) (by decide +kernel)) (by decide +kernel)
    refine lv_aload_n hx hb dX7_isSign_8 rfl (lv_at hl 0 rfl) ?_
    refine k_get (D := (dC, dI)) (ci := 7) (v := .int (i 6)) (C := RX7) (T := TX7) (N := 92) hx hb hts hinX7 hown hK hP 0 rfl rfl 6 (by decide) w_1 rfl rfl dX7_isSign_9 ?_
    refine lv_iload_n hx hb dX7_isSign_12 rfl (lv_at hl 1 rfl) ?_
    refine lv_icmp_ne (tgt := 20) hx hb dX7_isSign_13 (by decide) (fun c_13 => ?_) (fun c_13 => ?_)
    · have c_13 : ¬ (i 6) = 43 := c_13
      exact J_20   H locs ls hP hD hS (lv_sub hl [] rfl)
    · have c_13 : (i 6) = 43 := c_13
      have f_16_2 : iR (i 6) 43 43 := iR_eqL c_13 hm6 (iR_c (n := 43) (a := 43) (b := 43) (by decide +kernel) (by decide +kernel)) (by decide +kernel)
      refine lv_iconst (v := 1) hx hb dX7_isSign_16 (by decide +kernel) ?_
      refine lv_goto (tgt := 21) hx hb dX7_isSign_17 (by decide) ?_
      exact k_ri B hP hD hS dX7_isSign_21 () [0] rfl rfl rfl (Nat.le_of_ble_eq_true rfl) (Nat.le_of_ble_eq_true rfl) ⟨(show iR 1 0 1 from (iR_c (n := 1) (a := 0) (b := 1) (by decide +kernel) (by decide +kernel))), (show (1 = 0) ∨ (((i 3) = 3) ∧ ((i 6) = 43)) from (Or.inr ⟨c_5, c_13⟩))⟩
set_option maxHeartbeats 8000000 in
set_option maxRecDepth 100000 in
theorem s_X7_isSign_v3 (l : Launch) (dC : Nat → ClassId) (dI : Nat → Nat → Nat) (cI cJ cZ cM : ClassId) (h : Nat) (r : Nat → Nat) (i : Nat → Int32) (j : Nat → Int64) (hm3 : iR (i 3) 3 3) (hm6 : iR (i 6) 43 43) (hI : mR i) : k_Mi l yX7_isSign wsX7_isSign ({ frames := 1, cells := 0, slots := 0, locals := 40 }) (dC, dI) vwCl (tyy cI cJ cZ cM) [(h, .inr (7, oM r i j))] [.ref h, .int 43] 0 0 (fun (u9 : Unit) => [(h, .inr (7, oM r i j))]) (fun (r9 : Int32) (u9 : Unit) => (r9 = 1) ∧ ((r9 = 0) ∨ (((i 3) = 3) ∧ ((i 6) = 43)))) := by
  refine fun sz => k_enter (cc := cX7_isSign) (maxL := 2) (ret := some (.boolean)) (Qc := fun A => va_Qi (fun (r9 : Int32) (u9 : Unit) => (r9 = 1) ∧ ((r9 = 0) ∨ (((i 3) = 3) ∧ ((i 6) = 43)))) (fun u => k_B (dC, dI) vwCl (tyy cI cJ cZ cM) A ((fun (u9 : Unit) => [(h, .inr (7, oM r i j))]) u)) A) sz (by decide +kernel) rfl (Nat.le_of_ble_eq_true rfl) (fun p e s m args below meth c A ls H locs B hP hD hS hl => ?_)
  obtain ⟨hx, hb, hml, hown, hts, hr, hlk, hnm, hK, hA, hN, hC⟩ := id B
  have hown : s.vm.findClass RX7 = some m.cls := hown
  have hl : lv_has ls 2 [(0, .ref h), (1, .int 43)] := hl
  have w_0 : (Cond.fieldLink RX7 20 "WishSeaModel" "sign" "I").before args s = true := hts _ (List.mem_of_getElem? (i := 1) rfl)
  have w_1 : (Cond.fieldLink RX7 29 "WishSeaModel" "value" "I").before args s = true := hts _ (List.mem_of_getElem? (i := 2) rfl)
  have hinX7 : ∀ w ∈ u_ws RX7 TX7 92, w ∈ wsX7_isSign := fun _ h => List.mem_cons_of_mem _ (List.mem_append_right _ h)
  refine lv_aload_n hx hb dX7_isSign_0 rfl (lv_at hl 0 rfl) ?_
  refine k_get (D := (dC, dI)) (ci := 7) (v := .int (i 3)) (C := RX7) (T := TX7) (N := 92) hx hb hts hinX7 hown hK hP 0 rfl rfl 3 (by decide) w_0 rfl rfl dX7_isSign_1 ?_
  refine lv_iconst (v := 3) hx hb dX7_isSign_4 (by decide +kernel) ?_
  refine lv_icmp_ne (tgt := 20) hx hb dX7_isSign_5 (by decide) (fun c_5 => ?_) (fun c_5 => ?_)
  · exact absurd (i_eqc hm3 (iR_c (n := 3) (a := 3) (b := 3) (by decide +kernel) (by decide +kernel))) c_5
  · have c_5 : (i 3) = 3 := c_5
    refine lv_aload_n hx hb dX7_isSign_8 rfl (lv_at hl 0 rfl) ?_
    refine k_get (D := (dC, dI)) (ci := 7) (v := .int (i 6)) (C := RX7) (T := TX7) (N := 92) hx hb hts hinX7 hown hK hP 0 rfl rfl 6 (by decide) w_1 rfl rfl dX7_isSign_9 ?_
    refine lv_iload_n hx hb dX7_isSign_12 rfl (lv_at hl 1 rfl) ?_
    refine lv_icmp_ne (tgt := 20) hx hb dX7_isSign_13 (by decide) (fun c_13 => ?_) (fun c_13 => ?_)
    · exact absurd (i_eqc hm6 (iR_c (n := 43) (a := 43) (b := 43) (by decide +kernel) (by decide +kernel))) c_13
    · have c_13 : (i 6) = 43 := c_13
      refine lv_iconst (v := 1) hx hb dX7_isSign_16 (by decide +kernel) ?_
      refine lv_goto (tgt := 21) hx hb dX7_isSign_17 (by decide) ?_
      exact k_ri B hP hD hS dX7_isSign_21 () [0] rfl rfl rfl (Nat.le_of_ble_eq_true rfl) (Nat.le_of_ble_eq_true rfl) ⟨rfl, (show (1 = 0) ∨ (((i 3) = 3) ∧ ((i 6) = 43)) from (Or.inr ⟨c_5, c_13⟩))⟩
set_option maxHeartbeats 8000000 in
set_option maxRecDepth 100000 in
theorem s_X7_isSign_v4 (l : Launch) (dC : Nat → ClassId) (dI : Nat → Nat → Nat) (cI cJ cZ cM : ClassId) (h : Nat) (r : Nat → Nat) (i : Nat → Int32) (j : Nat → Int64) (hm3 : iR (i 3) 0 3) (hm6 : iR (i 6) 0 9999) (hI : mR i) : k_Mi l yX7_isSign wsX7_isSign ({ frames := 1, cells := 0, slots := 0, locals := 40 }) (dC, dI) vwCl (tyy cI cJ cZ cM) [(h, .inr (7, oM r i j))] [.ref h, .int 45] 0 0 (fun (u9 : Unit) => [(h, .inr (7, oM r i j))]) (fun (r9 : Int32) (u9 : Unit) => (iR r9 0 1) ∧ ((r9 = 0) ∨ (((i 3) = 3) ∧ ((i 6) = 45)))) := by
  refine fun sz => k_enter (cc := cX7_isSign) (maxL := 2) (ret := some (.boolean)) (Qc := fun A => va_Qi (fun (r9 : Int32) (u9 : Unit) => (iR r9 0 1) ∧ ((r9 = 0) ∨ (((i 3) = 3) ∧ ((i 6) = 45)))) (fun u => k_B (dC, dI) vwCl (tyy cI cJ cZ cM) A ((fun (u9 : Unit) => [(h, .inr (7, oM r i j))]) u)) A) sz (by decide +kernel) rfl (Nat.le_of_ble_eq_true rfl) (fun p e s m args below meth c A ls H locs B hP hD hS hl => ?_)
  obtain ⟨hx, hb, hml, hown, hts, hr, hlk, hnm, hK, hA, hN, hC⟩ := id B
  have hown : s.vm.findClass RX7 = some m.cls := hown
  have hl : lv_has ls 2 [(0, .ref h), (1, .int 45)] := hl
  have w_0 : (Cond.fieldLink RX7 20 "WishSeaModel" "sign" "I").before args s = true := hts _ (List.mem_of_getElem? (i := 1) rfl)
  have w_1 : (Cond.fieldLink RX7 29 "WishSeaModel" "value" "I").before args s = true := hts _ (List.mem_of_getElem? (i := 2) rfl)
  have hinX7 : ∀ w ∈ u_ws RX7 TX7 92, w ∈ wsX7_isSign := fun _ h => List.mem_cons_of_mem _ (List.mem_append_right _ h)
  refine lv_aload_n hx hb dX7_isSign_0 rfl (lv_at hl 0 rfl) ?_
  refine k_get (D := (dC, dI)) (ci := 7) (v := .int (i 3)) (C := RX7) (T := TX7) (N := 92) hx hb hts hinX7 hown hK hP 0 rfl rfl 3 (by decide) w_0 rfl rfl dX7_isSign_1 ?_
  refine lv_iconst (v := 3) hx hb dX7_isSign_4 (by decide +kernel) ?_
  have J_20 : ∀   (H : Heap) (locs : List Loc) (ls : Array Slot), va_P (dC, dI) vwCl [(h, .inr (7, oM r i j))] H → va_D A [(h, .inr (7, oM r i j))] → va_S A s.heap H locs → lv_has ls 2 [] → W p l e ({ frames := 1, cells := 0, slots := 0, locals := 40 }) s m args below meth c H locs 0 0 (MQ below (va_Qi (fun (r9 : Int32) (u9 : Unit) => (iR r9 0 1) ∧ ((r9 = 0) ∨ (((i 3) = 3) ∧ ((i 6) = 45)))) (fun u => k_B (dC, dI) vwCl (tyy cI cJ cZ cM) A ((fun (u9 : Unit) => [(h, .inr (7, oM r i j))]) u)) A) args s 0 0 A) (F0 m 20 ls []) := by
    intro   H locs ls hP hD hS hl
    refine lv_iconst (v := 0) hx hb dX7_isSign_20 (by decide +kernel) ?_
    exact k_ri B hP hD hS dX7_isSign_21 () [0] rfl rfl rfl (Nat.le_of_ble_eq_true rfl) (Nat.le_of_ble_eq_true rfl) ⟨(show iR 0 0 1 from (iR_c (n := 0) (a := 0) (b := 1) (by decide +kernel) (by decide +kernel))), (show (0 = 0) ∨ (((i 3) = 3) ∧ ((i 6) = 45)) from (Or.inl rfl))⟩
  refine lv_icmp_ne (tgt := 20) hx hb dX7_isSign_5 (by decide) (fun c_5 => ?_) (fun c_5 => ?_)
  · have c_5 : ¬ (i 3) = 3 := c_5
    have f_20_1 : iR (i 3) 0 2 := iR_neL c_5 hm3 (iR_c (n := 3) (a := 3) (b := 3) (by decide +kernel) (by decide +kernel)) (by decide +kernel)
    exact J_20   H locs ls hP hD hS (lv_sub hl [] rfl)
  · have c_5 : (i 3) = 3 := c_5
    have f_8_1 : iR (i 3) 3 3 := iR_eqL c_5 hm3 (iR_c (n := 3) (a := 3) (b := 3) (by decide +kernel) (by decide +kernel)) (by decide +kernel)
    refine lv_aload_n hx hb dX7_isSign_8 rfl (lv_at hl 0 rfl) ?_
    refine k_get (D := (dC, dI)) (ci := 7) (v := .int (i 6)) (C := RX7) (T := TX7) (N := 92) hx hb hts hinX7 hown hK hP 0 rfl rfl 6 (by decide) w_1 rfl rfl dX7_isSign_9 ?_
    refine lv_iload_n hx hb dX7_isSign_12 rfl (lv_at hl 1 rfl) ?_
    refine lv_icmp_ne (tgt := 20) hx hb dX7_isSign_13 (by decide) (fun c_13 => ?_) (fun c_13 => ?_)
    · have c_13 : ¬ (i 6) = 45 := c_13
      exact J_20   H locs ls hP hD hS (lv_sub hl [] rfl)
    · have c_13 : (i 6) = 45 := c_13
      have f_16_2 : iR (i 6) 45 45 := iR_eqL c_13 hm6 (iR_c (n := 45) (a := 45) (b := 45) (by decide +kernel) (by decide +kernel)) (by decide +kernel)
      refine lv_iconst (v := 1) hx hb dX7_isSign_16 (by decide +kernel) ?_
      refine lv_goto (tgt := 21) hx hb dX7_isSign_17 (by decide) ?_
      exact k_ri B hP hD hS dX7_isSign_21 () [0] rfl rfl rfl (Nat.le_of_ble_eq_true rfl) (Nat.le_of_ble_eq_true rfl) ⟨(show iR 1 0 1 from (iR_c (n := 1) (a := 0) (b := 1) (by decide +kernel) (by decide +kernel))), (show (1 = 0) ∨ (((i 3) = 3) ∧ ((i 6) = 45)) from (Or.inr ⟨c_5, c_13⟩))⟩
set_option maxHeartbeats 8000000 in
set_option maxRecDepth 100000 in
theorem s_X7_isSign_v5 (l : Launch) (dC : Nat → ClassId) (dI : Nat → Nat → Nat) (cI cJ cZ cM : ClassId) (h : Nat) (r : Nat → Nat) (i : Nat → Int32) (j : Nat → Int64) (hm3 : iR (i 3) 3 3) (hm6 : iR (i 6) 45 45) (hI : mR i) : k_Mi l yX7_isSign wsX7_isSign ({ frames := 1, cells := 0, slots := 0, locals := 40 }) (dC, dI) vwCl (tyy cI cJ cZ cM) [(h, .inr (7, oM r i j))] [.ref h, .int 43] 0 0 (fun (u9 : Unit) => [(h, .inr (7, oM r i j))]) (fun (r9 : Int32) (u9 : Unit) => (r9 = 0)) := by
  refine fun sz => k_enter (cc := cX7_isSign) (maxL := 2) (ret := some (.boolean)) (Qc := fun A => va_Qi (fun (r9 : Int32) (u9 : Unit) => (r9 = 0)) (fun u => k_B (dC, dI) vwCl (tyy cI cJ cZ cM) A ((fun (u9 : Unit) => [(h, .inr (7, oM r i j))]) u)) A) sz (by decide +kernel) rfl (Nat.le_of_ble_eq_true rfl) (fun p e s m args below meth c A ls H locs B hP hD hS hl => ?_)
  obtain ⟨hx, hb, hml, hown, hts, hr, hlk, hnm, hK, hA, hN, hC⟩ := id B
  have hown : s.vm.findClass RX7 = some m.cls := hown
  have hl : lv_has ls 2 [(0, .ref h), (1, .int 43)] := hl
  have w_0 : (Cond.fieldLink RX7 20 "WishSeaModel" "sign" "I").before args s = true := hts _ (List.mem_of_getElem? (i := 1) rfl)
  have w_1 : (Cond.fieldLink RX7 29 "WishSeaModel" "value" "I").before args s = true := hts _ (List.mem_of_getElem? (i := 2) rfl)
  have hinX7 : ∀ w ∈ u_ws RX7 TX7 92, w ∈ wsX7_isSign := fun _ h => List.mem_cons_of_mem _ (List.mem_append_right _ h)
  refine lv_aload_n hx hb dX7_isSign_0 rfl (lv_at hl 0 rfl) ?_
  refine k_get (D := (dC, dI)) (ci := 7) (v := .int (i 3)) (C := RX7) (T := TX7) (N := 92) hx hb hts hinX7 hown hK hP 0 rfl rfl 3 (by decide) w_0 rfl rfl dX7_isSign_1 ?_
  refine lv_iconst (v := 3) hx hb dX7_isSign_4 (by decide +kernel) ?_
  have J_20 : ∀  (q20_0 : (i 3) = 3) (q20_1 : ¬ (i 6) = 43) (q20_2 : 3 = (i 3)) (H : Heap) (locs : List Loc) (ls : Array Slot), va_P (dC, dI) vwCl [(h, .inr (7, oM r i j))] H → va_D A [(h, .inr (7, oM r i j))] → va_S A s.heap H locs → lv_has ls 2 [] → W p l e ({ frames := 1, cells := 0, slots := 0, locals := 40 }) s m args below meth c H locs 0 0 (MQ below (va_Qi (fun (r9 : Int32) (u9 : Unit) => (r9 = 0)) (fun u => k_B (dC, dI) vwCl (tyy cI cJ cZ cM) A ((fun (u9 : Unit) => [(h, .inr (7, oM r i j))]) u)) A) args s 0 0 A) (F0 m 20 ls []) := by
    intro  q20_0 q20_1 q20_2 H locs ls hP hD hS hl
    refine lv_iconst (v := 0) hx hb dX7_isSign_20 (by decide +kernel) ?_
    exact k_ri B hP hD hS dX7_isSign_21 () [0] rfl rfl rfl (Nat.le_of_ble_eq_true rfl) (Nat.le_of_ble_eq_true rfl) rfl
  refine lv_icmp_ne (tgt := 20) hx hb dX7_isSign_5 (by decide) (fun c_5 => ?_) (fun c_5 => ?_)
  · exact absurd (i_eqc hm3 (iR_c (n := 3) (a := 3) (b := 3) (by decide +kernel) (by decide +kernel))) c_5
  · have c_5 : (i 3) = 3 := c_5
    refine lv_aload_n hx hb dX7_isSign_8 rfl (lv_at hl 0 rfl) ?_
    refine k_get (D := (dC, dI)) (ci := 7) (v := .int (i 6)) (C := RX7) (T := TX7) (N := 92) hx hb hts hinX7 hown hK hP 0 rfl rfl 6 (by decide) w_1 rfl rfl dX7_isSign_9 ?_
    refine lv_iload_n hx hb dX7_isSign_12 rfl (lv_at hl 1 rfl) ?_
    refine lv_icmp_ne (tgt := 20) hx hb dX7_isSign_13 (by decide) (fun c_13 => ?_) (fun c_13 => ?_)
    · have c_13 : ¬ (i 6) = 43 := c_13
      exact J_20  c_5 c_13 c_5.symm H locs ls hP hD hS (lv_sub hl [] rfl)
    · exact iR_cl (iR_eqL (a' := 45) (b' := 43) c_13 hm6 (iR_c (n := 43) (a := 43) (b := 43) (by decide +kernel) (by decide +kernel)) (by decide +kernel)) (by decide +kernel)
set_option maxHeartbeats 8000000 in
set_option maxRecDepth 100000 in
theorem s_X7_isSign_v6 (l : Launch) (dC : Nat → ClassId) (dI : Nat → Nat → Nat) (cI cJ cZ cM : ClassId) (h : Nat) (r : Nat → Nat) (i : Nat → Int32) (j : Nat → Int64) (hm3 : iR (i 3) 3 3) (hm6 : iR (i 6) 45 45) (hI : mR i) : k_Mi l yX7_isSign wsX7_isSign ({ frames := 1, cells := 0, slots := 0, locals := 40 }) (dC, dI) vwCl (tyy cI cJ cZ cM) [(h, .inr (7, oM r i j))] [.ref h, .int 45] 0 0 (fun (u9 : Unit) => [(h, .inr (7, oM r i j))]) (fun (r9 : Int32) (u9 : Unit) => (r9 = 1) ∧ ((r9 = 0) ∨ (((i 3) = 3) ∧ ((i 6) = 45)))) := by
  refine fun sz => k_enter (cc := cX7_isSign) (maxL := 2) (ret := some (.boolean)) (Qc := fun A => va_Qi (fun (r9 : Int32) (u9 : Unit) => (r9 = 1) ∧ ((r9 = 0) ∨ (((i 3) = 3) ∧ ((i 6) = 45)))) (fun u => k_B (dC, dI) vwCl (tyy cI cJ cZ cM) A ((fun (u9 : Unit) => [(h, .inr (7, oM r i j))]) u)) A) sz (by decide +kernel) rfl (Nat.le_of_ble_eq_true rfl) (fun p e s m args below meth c A ls H locs B hP hD hS hl => ?_)
  obtain ⟨hx, hb, hml, hown, hts, hr, hlk, hnm, hK, hA, hN, hC⟩ := id B
  have hown : s.vm.findClass RX7 = some m.cls := hown
  have hl : lv_has ls 2 [(0, .ref h), (1, .int 45)] := hl
  have w_0 : (Cond.fieldLink RX7 20 "WishSeaModel" "sign" "I").before args s = true := hts _ (List.mem_of_getElem? (i := 1) rfl)
  have w_1 : (Cond.fieldLink RX7 29 "WishSeaModel" "value" "I").before args s = true := hts _ (List.mem_of_getElem? (i := 2) rfl)
  have hinX7 : ∀ w ∈ u_ws RX7 TX7 92, w ∈ wsX7_isSign := fun _ h => List.mem_cons_of_mem _ (List.mem_append_right _ h)
  refine lv_aload_n hx hb dX7_isSign_0 rfl (lv_at hl 0 rfl) ?_
  refine k_get (D := (dC, dI)) (ci := 7) (v := .int (i 3)) (C := RX7) (T := TX7) (N := 92) hx hb hts hinX7 hown hK hP 0 rfl rfl 3 (by decide) w_0 rfl rfl dX7_isSign_1 ?_
  refine lv_iconst (v := 3) hx hb dX7_isSign_4 (by decide +kernel) ?_
  refine lv_icmp_ne (tgt := 20) hx hb dX7_isSign_5 (by decide) (fun c_5 => ?_) (fun c_5 => ?_)
  · exact absurd (i_eqc hm3 (iR_c (n := 3) (a := 3) (b := 3) (by decide +kernel) (by decide +kernel))) c_5
  · have c_5 : (i 3) = 3 := c_5
    refine lv_aload_n hx hb dX7_isSign_8 rfl (lv_at hl 0 rfl) ?_
    refine k_get (D := (dC, dI)) (ci := 7) (v := .int (i 6)) (C := RX7) (T := TX7) (N := 92) hx hb hts hinX7 hown hK hP 0 rfl rfl 6 (by decide) w_1 rfl rfl dX7_isSign_9 ?_
    refine lv_iload_n hx hb dX7_isSign_12 rfl (lv_at hl 1 rfl) ?_
    refine lv_icmp_ne (tgt := 20) hx hb dX7_isSign_13 (by decide) (fun c_13 => ?_) (fun c_13 => ?_)
    · exact absurd (i_eqc hm6 (iR_c (n := 45) (a := 45) (b := 45) (by decide +kernel) (by decide +kernel))) c_13
    · have c_13 : (i 6) = 45 := c_13
      refine lv_iconst (v := 1) hx hb dX7_isSign_16 (by decide +kernel) ?_
      refine lv_goto (tgt := 21) hx hb dX7_isSign_17 (by decide) ?_
      exact k_ri B hP hD hS dX7_isSign_21 () [0] rfl rfl rfl (Nat.le_of_ble_eq_true rfl) (Nat.le_of_ble_eq_true rfl) ⟨rfl, (show (1 = 0) ∨ (((i 3) = 3) ∧ ((i 6) = 45)) from (Or.inr ⟨c_5, c_13⟩))⟩
set_option maxHeartbeats 8000000 in
set_option maxRecDepth 100000 in
theorem s_X7_isSign_v7 (l : Launch) (dC : Nat → ClassId) (dI : Nat → Nat → Nat) (cI cJ cZ cM : ClassId) (h : Nat) (r : Nat → Nat) (i : Nat → Int32) (j : Nat → Int64) (hm3 : iR (i 3) 0 3) (hm6 : iR (i 6) 0 9999) (hI : mR i) : k_Mi l yX7_isSign wsX7_isSign ({ frames := 1, cells := 0, slots := 0, locals := 40 }) (dC, dI) vwCl (tyy cI cJ cZ cM) [(h, .inr (7, oM r i j))] [.ref h, .int 42] 0 0 (fun (u9 : Unit) => [(h, .inr (7, oM r i j))]) (fun (r9 : Int32) (u9 : Unit) => (iR r9 0 1) ∧ ((r9 = 0) ∨ (((i 3) = 3) ∧ ((i 6) = 42)))) := by
  refine fun sz => k_enter (cc := cX7_isSign) (maxL := 2) (ret := some (.boolean)) (Qc := fun A => va_Qi (fun (r9 : Int32) (u9 : Unit) => (iR r9 0 1) ∧ ((r9 = 0) ∨ (((i 3) = 3) ∧ ((i 6) = 42)))) (fun u => k_B (dC, dI) vwCl (tyy cI cJ cZ cM) A ((fun (u9 : Unit) => [(h, .inr (7, oM r i j))]) u)) A) sz (by decide +kernel) rfl (Nat.le_of_ble_eq_true rfl) (fun p e s m args below meth c A ls H locs B hP hD hS hl => ?_)
  obtain ⟨hx, hb, hml, hown, hts, hr, hlk, hnm, hK, hA, hN, hC⟩ := id B
  have hown : s.vm.findClass RX7 = some m.cls := hown
  have hl : lv_has ls 2 [(0, .ref h), (1, .int 42)] := hl
  have w_0 : (Cond.fieldLink RX7 20 "WishSeaModel" "sign" "I").before args s = true := hts _ (List.mem_of_getElem? (i := 1) rfl)
  have w_1 : (Cond.fieldLink RX7 29 "WishSeaModel" "value" "I").before args s = true := hts _ (List.mem_of_getElem? (i := 2) rfl)
  have hinX7 : ∀ w ∈ u_ws RX7 TX7 92, w ∈ wsX7_isSign := fun _ h => List.mem_cons_of_mem _ (List.mem_append_right _ h)
  refine lv_aload_n hx hb dX7_isSign_0 rfl (lv_at hl 0 rfl) ?_
  refine k_get (D := (dC, dI)) (ci := 7) (v := .int (i 3)) (C := RX7) (T := TX7) (N := 92) hx hb hts hinX7 hown hK hP 0 rfl rfl 3 (by decide) w_0 rfl rfl dX7_isSign_1 ?_
  refine lv_iconst (v := 3) hx hb dX7_isSign_4 (by decide +kernel) ?_
  have J_20 : ∀   (H : Heap) (locs : List Loc) (ls : Array Slot), va_P (dC, dI) vwCl [(h, .inr (7, oM r i j))] H → va_D A [(h, .inr (7, oM r i j))] → va_S A s.heap H locs → lv_has ls 2 [] → W p l e ({ frames := 1, cells := 0, slots := 0, locals := 40 }) s m args below meth c H locs 0 0 (MQ below (va_Qi (fun (r9 : Int32) (u9 : Unit) => (iR r9 0 1) ∧ ((r9 = 0) ∨ (((i 3) = 3) ∧ ((i 6) = 42)))) (fun u => k_B (dC, dI) vwCl (tyy cI cJ cZ cM) A ((fun (u9 : Unit) => [(h, .inr (7, oM r i j))]) u)) A) args s 0 0 A) (F0 m 20 ls []) := by
    intro   H locs ls hP hD hS hl
    refine lv_iconst (v := 0) hx hb dX7_isSign_20 (by decide +kernel) ?_
    exact k_ri B hP hD hS dX7_isSign_21 () [0] rfl rfl rfl (Nat.le_of_ble_eq_true rfl) (Nat.le_of_ble_eq_true rfl) ⟨(show iR 0 0 1 from (iR_c (n := 0) (a := 0) (b := 1) (by decide +kernel) (by decide +kernel))), (show (0 = 0) ∨ (((i 3) = 3) ∧ ((i 6) = 42)) from (Or.inl rfl))⟩
  refine lv_icmp_ne (tgt := 20) hx hb dX7_isSign_5 (by decide) (fun c_5 => ?_) (fun c_5 => ?_)
  · have c_5 : ¬ (i 3) = 3 := c_5
    have f_20_1 : iR (i 3) 0 2 := iR_neL c_5 hm3 (iR_c (n := 3) (a := 3) (b := 3) (by decide +kernel) (by decide +kernel)) (by decide +kernel)
    exact J_20   H locs ls hP hD hS (lv_sub hl [] rfl)
  · have c_5 : (i 3) = 3 := c_5
    have f_8_1 : iR (i 3) 3 3 := iR_eqL c_5 hm3 (iR_c (n := 3) (a := 3) (b := 3) (by decide +kernel) (by decide +kernel)) (by decide +kernel)
    refine lv_aload_n hx hb dX7_isSign_8 rfl (lv_at hl 0 rfl) ?_
    refine k_get (D := (dC, dI)) (ci := 7) (v := .int (i 6)) (C := RX7) (T := TX7) (N := 92) hx hb hts hinX7 hown hK hP 0 rfl rfl 6 (by decide) w_1 rfl rfl dX7_isSign_9 ?_
    refine lv_iload_n hx hb dX7_isSign_12 rfl (lv_at hl 1 rfl) ?_
    refine lv_icmp_ne (tgt := 20) hx hb dX7_isSign_13 (by decide) (fun c_13 => ?_) (fun c_13 => ?_)
    · have c_13 : ¬ (i 6) = 42 := c_13
      exact J_20   H locs ls hP hD hS (lv_sub hl [] rfl)
    · have c_13 : (i 6) = 42 := c_13
      have f_16_2 : iR (i 6) 42 42 := iR_eqL c_13 hm6 (iR_c (n := 42) (a := 42) (b := 42) (by decide +kernel) (by decide +kernel)) (by decide +kernel)
      refine lv_iconst (v := 1) hx hb dX7_isSign_16 (by decide +kernel) ?_
      refine lv_goto (tgt := 21) hx hb dX7_isSign_17 (by decide) ?_
      exact k_ri B hP hD hS dX7_isSign_21 () [0] rfl rfl rfl (Nat.le_of_ble_eq_true rfl) (Nat.le_of_ble_eq_true rfl) ⟨(show iR 1 0 1 from (iR_c (n := 1) (a := 0) (b := 1) (by decide +kernel) (by decide +kernel))), (show (1 = 0) ∨ (((i 3) = 3) ∧ ((i 6) = 42)) from (Or.inr ⟨c_5, c_13⟩))⟩
set_option maxHeartbeats 8000000 in
set_option maxRecDepth 100000 in
theorem s_X7_isSign_v8 (l : Launch) (dC : Nat → ClassId) (dI : Nat → Nat → Nat) (cI cJ cZ cM : ClassId) (h : Nat) (r : Nat → Nat) (i : Nat → Int32) (j : Nat → Int64) (hm3 : iR (i 3) 3 3) (hm6 : iR (i 6) 42 42) (hI : mR i) : k_Mi l yX7_isSign wsX7_isSign ({ frames := 1, cells := 0, slots := 0, locals := 40 }) (dC, dI) vwCl (tyy cI cJ cZ cM) [(h, .inr (7, oM r i j))] [.ref h, .int 43] 0 0 (fun (u9 : Unit) => [(h, .inr (7, oM r i j))]) (fun (r9 : Int32) (u9 : Unit) => (r9 = 0)) := by
  refine fun sz => k_enter (cc := cX7_isSign) (maxL := 2) (ret := some (.boolean)) (Qc := fun A => va_Qi (fun (r9 : Int32) (u9 : Unit) => (r9 = 0)) (fun u => k_B (dC, dI) vwCl (tyy cI cJ cZ cM) A ((fun (u9 : Unit) => [(h, .inr (7, oM r i j))]) u)) A) sz (by decide +kernel) rfl (Nat.le_of_ble_eq_true rfl) (fun p e s m args below meth c A ls H locs B hP hD hS hl => ?_)
  obtain ⟨hx, hb, hml, hown, hts, hr, hlk, hnm, hK, hA, hN, hC⟩ := id B
  have hown : s.vm.findClass RX7 = some m.cls := hown
  have hl : lv_has ls 2 [(0, .ref h), (1, .int 43)] := hl
  have w_0 : (Cond.fieldLink RX7 20 "WishSeaModel" "sign" "I").before args s = true := hts _ (List.mem_of_getElem? (i := 1) rfl)
  have w_1 : (Cond.fieldLink RX7 29 "WishSeaModel" "value" "I").before args s = true := hts _ (List.mem_of_getElem? (i := 2) rfl)
  have hinX7 : ∀ w ∈ u_ws RX7 TX7 92, w ∈ wsX7_isSign := fun _ h => List.mem_cons_of_mem _ (List.mem_append_right _ h)
  refine lv_aload_n hx hb dX7_isSign_0 rfl (lv_at hl 0 rfl) ?_
  refine k_get (D := (dC, dI)) (ci := 7) (v := .int (i 3)) (C := RX7) (T := TX7) (N := 92) hx hb hts hinX7 hown hK hP 0 rfl rfl 3 (by decide) w_0 rfl rfl dX7_isSign_1 ?_
  refine lv_iconst (v := 3) hx hb dX7_isSign_4 (by decide +kernel) ?_
  have J_20 : ∀  (q20_0 : (i 3) = 3) (q20_1 : ¬ (i 6) = 43) (q20_2 : 3 = (i 3)) (H : Heap) (locs : List Loc) (ls : Array Slot), va_P (dC, dI) vwCl [(h, .inr (7, oM r i j))] H → va_D A [(h, .inr (7, oM r i j))] → va_S A s.heap H locs → lv_has ls 2 [] → W p l e ({ frames := 1, cells := 0, slots := 0, locals := 40 }) s m args below meth c H locs 0 0 (MQ below (va_Qi (fun (r9 : Int32) (u9 : Unit) => (r9 = 0)) (fun u => k_B (dC, dI) vwCl (tyy cI cJ cZ cM) A ((fun (u9 : Unit) => [(h, .inr (7, oM r i j))]) u)) A) args s 0 0 A) (F0 m 20 ls []) := by
    intro  q20_0 q20_1 q20_2 H locs ls hP hD hS hl
    refine lv_iconst (v := 0) hx hb dX7_isSign_20 (by decide +kernel) ?_
    exact k_ri B hP hD hS dX7_isSign_21 () [0] rfl rfl rfl (Nat.le_of_ble_eq_true rfl) (Nat.le_of_ble_eq_true rfl) rfl
  refine lv_icmp_ne (tgt := 20) hx hb dX7_isSign_5 (by decide) (fun c_5 => ?_) (fun c_5 => ?_)
  · exact absurd (i_eqc hm3 (iR_c (n := 3) (a := 3) (b := 3) (by decide +kernel) (by decide +kernel))) c_5
  · have c_5 : (i 3) = 3 := c_5
    refine lv_aload_n hx hb dX7_isSign_8 rfl (lv_at hl 0 rfl) ?_
    refine k_get (D := (dC, dI)) (ci := 7) (v := .int (i 6)) (C := RX7) (T := TX7) (N := 92) hx hb hts hinX7 hown hK hP 0 rfl rfl 6 (by decide) w_1 rfl rfl dX7_isSign_9 ?_
    refine lv_iload_n hx hb dX7_isSign_12 rfl (lv_at hl 1 rfl) ?_
    refine lv_icmp_ne (tgt := 20) hx hb dX7_isSign_13 (by decide) (fun c_13 => ?_) (fun c_13 => ?_)
    · have c_13 : ¬ (i 6) = 43 := c_13
      exact J_20  c_5 c_13 c_5.symm H locs ls hP hD hS (lv_sub hl [] rfl)
    · exact iR_cl (iR_eqL (a' := 43) (b' := 42) c_13 hm6 (iR_c (n := 43) (a := 43) (b := 43) (by decide +kernel) (by decide +kernel)) (by decide +kernel)) (by decide +kernel)
set_option maxHeartbeats 8000000 in
set_option maxRecDepth 100000 in
theorem s_X7_isSign_v9 (l : Launch) (dC : Nat → ClassId) (dI : Nat → Nat → Nat) (cI cJ cZ cM : ClassId) (h : Nat) (r : Nat → Nat) (i : Nat → Int32) (j : Nat → Int64) (hm3 : iR (i 3) 3 3) (hm6 : iR (i 6) 42 42) (hI : mR i) : k_Mi l yX7_isSign wsX7_isSign ({ frames := 1, cells := 0, slots := 0, locals := 40 }) (dC, dI) vwCl (tyy cI cJ cZ cM) [(h, .inr (7, oM r i j))] [.ref h, .int 45] 0 0 (fun (u9 : Unit) => [(h, .inr (7, oM r i j))]) (fun (r9 : Int32) (u9 : Unit) => (r9 = 0)) := by
  refine fun sz => k_enter (cc := cX7_isSign) (maxL := 2) (ret := some (.boolean)) (Qc := fun A => va_Qi (fun (r9 : Int32) (u9 : Unit) => (r9 = 0)) (fun u => k_B (dC, dI) vwCl (tyy cI cJ cZ cM) A ((fun (u9 : Unit) => [(h, .inr (7, oM r i j))]) u)) A) sz (by decide +kernel) rfl (Nat.le_of_ble_eq_true rfl) (fun p e s m args below meth c A ls H locs B hP hD hS hl => ?_)
  obtain ⟨hx, hb, hml, hown, hts, hr, hlk, hnm, hK, hA, hN, hC⟩ := id B
  have hown : s.vm.findClass RX7 = some m.cls := hown
  have hl : lv_has ls 2 [(0, .ref h), (1, .int 45)] := hl
  have w_0 : (Cond.fieldLink RX7 20 "WishSeaModel" "sign" "I").before args s = true := hts _ (List.mem_of_getElem? (i := 1) rfl)
  have w_1 : (Cond.fieldLink RX7 29 "WishSeaModel" "value" "I").before args s = true := hts _ (List.mem_of_getElem? (i := 2) rfl)
  have hinX7 : ∀ w ∈ u_ws RX7 TX7 92, w ∈ wsX7_isSign := fun _ h => List.mem_cons_of_mem _ (List.mem_append_right _ h)
  refine lv_aload_n hx hb dX7_isSign_0 rfl (lv_at hl 0 rfl) ?_
  refine k_get (D := (dC, dI)) (ci := 7) (v := .int (i 3)) (C := RX7) (T := TX7) (N := 92) hx hb hts hinX7 hown hK hP 0 rfl rfl 3 (by decide) w_0 rfl rfl dX7_isSign_1 ?_
  refine lv_iconst (v := 3) hx hb dX7_isSign_4 (by decide +kernel) ?_
  have J_20 : ∀  (q20_0 : (i 3) = 3) (q20_1 : ¬ (i 6) = 45) (q20_2 : 3 = (i 3)) (H : Heap) (locs : List Loc) (ls : Array Slot), va_P (dC, dI) vwCl [(h, .inr (7, oM r i j))] H → va_D A [(h, .inr (7, oM r i j))] → va_S A s.heap H locs → lv_has ls 2 [] → W p l e ({ frames := 1, cells := 0, slots := 0, locals := 40 }) s m args below meth c H locs 0 0 (MQ below (va_Qi (fun (r9 : Int32) (u9 : Unit) => (r9 = 0)) (fun u => k_B (dC, dI) vwCl (tyy cI cJ cZ cM) A ((fun (u9 : Unit) => [(h, .inr (7, oM r i j))]) u)) A) args s 0 0 A) (F0 m 20 ls []) := by
    intro  q20_0 q20_1 q20_2 H locs ls hP hD hS hl
    refine lv_iconst (v := 0) hx hb dX7_isSign_20 (by decide +kernel) ?_
    exact k_ri B hP hD hS dX7_isSign_21 () [0] rfl rfl rfl (Nat.le_of_ble_eq_true rfl) (Nat.le_of_ble_eq_true rfl) rfl
  refine lv_icmp_ne (tgt := 20) hx hb dX7_isSign_5 (by decide) (fun c_5 => ?_) (fun c_5 => ?_)
  · exact absurd (i_eqc hm3 (iR_c (n := 3) (a := 3) (b := 3) (by decide +kernel) (by decide +kernel))) c_5
  · have c_5 : (i 3) = 3 := c_5
    refine lv_aload_n hx hb dX7_isSign_8 rfl (lv_at hl 0 rfl) ?_
    refine k_get (D := (dC, dI)) (ci := 7) (v := .int (i 6)) (C := RX7) (T := TX7) (N := 92) hx hb hts hinX7 hown hK hP 0 rfl rfl 6 (by decide) w_1 rfl rfl dX7_isSign_9 ?_
    refine lv_iload_n hx hb dX7_isSign_12 rfl (lv_at hl 1 rfl) ?_
    refine lv_icmp_ne (tgt := 20) hx hb dX7_isSign_13 (by decide) (fun c_13 => ?_) (fun c_13 => ?_)
    · have c_13 : ¬ (i 6) = 45 := c_13
      exact J_20  c_5 c_13 c_5.symm H locs ls hP hD hS (lv_sub hl [] rfl)
    · exact iR_cl (iR_eqL (a' := 45) (b' := 42) c_13 hm6 (iR_c (n := 45) (a := 45) (b := 45) (by decide +kernel) (by decide +kernel)) (by decide +kernel)) (by decide +kernel)
set_option maxHeartbeats 8000000 in
set_option maxRecDepth 100000 in
theorem s_X7_isSign_v10 (l : Launch) (dC : Nat → ClassId) (dI : Nat → Nat → Nat) (cI cJ cZ cM : ClassId) (h : Nat) (r : Nat → Nat) (i : Nat → Int32) (j : Nat → Int64) (hm3 : iR (i 3) 0 3) (hm6 : iR (i 6) 0 9999) (hI : mR i) : k_Mi l yX7_isSign wsX7_isSign ({ frames := 1, cells := 0, slots := 0, locals := 40 }) (dC, dI) vwCl (tyy cI cJ cZ cM) [(h, .inr (7, oM r i j))] [.ref h, .int 47] 0 0 (fun (u9 : Unit) => [(h, .inr (7, oM r i j))]) (fun (r9 : Int32) (u9 : Unit) => (iR r9 0 1) ∧ ((r9 = 0) ∨ (((i 3) = 3) ∧ ((i 6) = 47)))) := by
  refine fun sz => k_enter (cc := cX7_isSign) (maxL := 2) (ret := some (.boolean)) (Qc := fun A => va_Qi (fun (r9 : Int32) (u9 : Unit) => (iR r9 0 1) ∧ ((r9 = 0) ∨ (((i 3) = 3) ∧ ((i 6) = 47)))) (fun u => k_B (dC, dI) vwCl (tyy cI cJ cZ cM) A ((fun (u9 : Unit) => [(h, .inr (7, oM r i j))]) u)) A) sz (by decide +kernel) rfl (Nat.le_of_ble_eq_true rfl) (fun p e s m args below meth c A ls H locs B hP hD hS hl => ?_)
  obtain ⟨hx, hb, hml, hown, hts, hr, hlk, hnm, hK, hA, hN, hC⟩ := id B
  have hown : s.vm.findClass RX7 = some m.cls := hown
  have hl : lv_has ls 2 [(0, .ref h), (1, .int 47)] := hl
  have w_0 : (Cond.fieldLink RX7 20 "WishSeaModel" "sign" "I").before args s = true := hts _ (List.mem_of_getElem? (i := 1) rfl)
  have w_1 : (Cond.fieldLink RX7 29 "WishSeaModel" "value" "I").before args s = true := hts _ (List.mem_of_getElem? (i := 2) rfl)
  have hinX7 : ∀ w ∈ u_ws RX7 TX7 92, w ∈ wsX7_isSign := fun _ h => List.mem_cons_of_mem _ (List.mem_append_right _ h)
  refine lv_aload_n hx hb dX7_isSign_0 rfl (lv_at hl 0 rfl) ?_
  refine k_get (D := (dC, dI)) (ci := 7) (v := .int (i 3)) (C := RX7) (T := TX7) (N := 92) hx hb hts hinX7 hown hK hP 0 rfl rfl 3 (by decide) w_0 rfl rfl dX7_isSign_1 ?_
  refine lv_iconst (v := 3) hx hb dX7_isSign_4 (by decide +kernel) ?_
  have J_20 : ∀   (H : Heap) (locs : List Loc) (ls : Array Slot), va_P (dC, dI) vwCl [(h, .inr (7, oM r i j))] H → va_D A [(h, .inr (7, oM r i j))] → va_S A s.heap H locs → lv_has ls 2 [] → W p l e ({ frames := 1, cells := 0, slots := 0, locals := 40 }) s m args below meth c H locs 0 0 (MQ below (va_Qi (fun (r9 : Int32) (u9 : Unit) => (iR r9 0 1) ∧ ((r9 = 0) ∨ (((i 3) = 3) ∧ ((i 6) = 47)))) (fun u => k_B (dC, dI) vwCl (tyy cI cJ cZ cM) A ((fun (u9 : Unit) => [(h, .inr (7, oM r i j))]) u)) A) args s 0 0 A) (F0 m 20 ls []) := by
    intro   H locs ls hP hD hS hl
    refine lv_iconst (v := 0) hx hb dX7_isSign_20 (by decide +kernel) ?_
    exact k_ri B hP hD hS dX7_isSign_21 () [0] rfl rfl rfl (Nat.le_of_ble_eq_true rfl) (Nat.le_of_ble_eq_true rfl) ⟨(show iR 0 0 1 from (iR_c (n := 0) (a := 0) (b := 1) (by decide +kernel) (by decide +kernel))), (show (0 = 0) ∨ (((i 3) = 3) ∧ ((i 6) = 47)) from (Or.inl rfl))⟩
  refine lv_icmp_ne (tgt := 20) hx hb dX7_isSign_5 (by decide) (fun c_5 => ?_) (fun c_5 => ?_)
  · have c_5 : ¬ (i 3) = 3 := c_5
    have f_20_1 : iR (i 3) 0 2 := iR_neL c_5 hm3 (iR_c (n := 3) (a := 3) (b := 3) (by decide +kernel) (by decide +kernel)) (by decide +kernel)
    exact J_20   H locs ls hP hD hS (lv_sub hl [] rfl)
  · have c_5 : (i 3) = 3 := c_5
    have f_8_1 : iR (i 3) 3 3 := iR_eqL c_5 hm3 (iR_c (n := 3) (a := 3) (b := 3) (by decide +kernel) (by decide +kernel)) (by decide +kernel)
    refine lv_aload_n hx hb dX7_isSign_8 rfl (lv_at hl 0 rfl) ?_
    refine k_get (D := (dC, dI)) (ci := 7) (v := .int (i 6)) (C := RX7) (T := TX7) (N := 92) hx hb hts hinX7 hown hK hP 0 rfl rfl 6 (by decide) w_1 rfl rfl dX7_isSign_9 ?_
    refine lv_iload_n hx hb dX7_isSign_12 rfl (lv_at hl 1 rfl) ?_
    refine lv_icmp_ne (tgt := 20) hx hb dX7_isSign_13 (by decide) (fun c_13 => ?_) (fun c_13 => ?_)
    · have c_13 : ¬ (i 6) = 47 := c_13
      exact J_20   H locs ls hP hD hS (lv_sub hl [] rfl)
    · have c_13 : (i 6) = 47 := c_13
      have f_16_2 : iR (i 6) 47 47 := iR_eqL c_13 hm6 (iR_c (n := 47) (a := 47) (b := 47) (by decide +kernel) (by decide +kernel)) (by decide +kernel)
      refine lv_iconst (v := 1) hx hb dX7_isSign_16 (by decide +kernel) ?_
      refine lv_goto (tgt := 21) hx hb dX7_isSign_17 (by decide) ?_
      exact k_ri B hP hD hS dX7_isSign_21 () [0] rfl rfl rfl (Nat.le_of_ble_eq_true rfl) (Nat.le_of_ble_eq_true rfl) ⟨(show iR 1 0 1 from (iR_c (n := 1) (a := 0) (b := 1) (by decide +kernel) (by decide +kernel))), (show (1 = 0) ∨ (((i 3) = 3) ∧ ((i 6) = 47)) from (Or.inr ⟨c_5, c_13⟩))⟩
set_option maxHeartbeats 8000000 in
set_option maxRecDepth 100000 in
theorem s_X7_isSign_v11 (l : Launch) (dC : Nat → ClassId) (dI : Nat → Nat → Nat) (cI cJ cZ cM : ClassId) (h : Nat) (r : Nat → Nat) (i : Nat → Int32) (j : Nat → Int64) (hm3 : iR (i 3) 3 3) (hm6 : iR (i 6) 47 47) (hI : mR i) : k_Mi l yX7_isSign wsX7_isSign ({ frames := 1, cells := 0, slots := 0, locals := 40 }) (dC, dI) vwCl (tyy cI cJ cZ cM) [(h, .inr (7, oM r i j))] [.ref h, .int 43] 0 0 (fun (u9 : Unit) => [(h, .inr (7, oM r i j))]) (fun (r9 : Int32) (u9 : Unit) => (r9 = 0)) := by
  refine fun sz => k_enter (cc := cX7_isSign) (maxL := 2) (ret := some (.boolean)) (Qc := fun A => va_Qi (fun (r9 : Int32) (u9 : Unit) => (r9 = 0)) (fun u => k_B (dC, dI) vwCl (tyy cI cJ cZ cM) A ((fun (u9 : Unit) => [(h, .inr (7, oM r i j))]) u)) A) sz (by decide +kernel) rfl (Nat.le_of_ble_eq_true rfl) (fun p e s m args below meth c A ls H locs B hP hD hS hl => ?_)
  obtain ⟨hx, hb, hml, hown, hts, hr, hlk, hnm, hK, hA, hN, hC⟩ := id B
  have hown : s.vm.findClass RX7 = some m.cls := hown
  have hl : lv_has ls 2 [(0, .ref h), (1, .int 43)] := hl
  have w_0 : (Cond.fieldLink RX7 20 "WishSeaModel" "sign" "I").before args s = true := hts _ (List.mem_of_getElem? (i := 1) rfl)
  have w_1 : (Cond.fieldLink RX7 29 "WishSeaModel" "value" "I").before args s = true := hts _ (List.mem_of_getElem? (i := 2) rfl)
  have hinX7 : ∀ w ∈ u_ws RX7 TX7 92, w ∈ wsX7_isSign := fun _ h => List.mem_cons_of_mem _ (List.mem_append_right _ h)
  refine lv_aload_n hx hb dX7_isSign_0 rfl (lv_at hl 0 rfl) ?_
  refine k_get (D := (dC, dI)) (ci := 7) (v := .int (i 3)) (C := RX7) (T := TX7) (N := 92) hx hb hts hinX7 hown hK hP 0 rfl rfl 3 (by decide) w_0 rfl rfl dX7_isSign_1 ?_
  refine lv_iconst (v := 3) hx hb dX7_isSign_4 (by decide +kernel) ?_
  have J_20 : ∀  (q20_0 : (i 3) = 3) (q20_1 : ¬ (i 6) = 43) (q20_2 : 3 = (i 3)) (H : Heap) (locs : List Loc) (ls : Array Slot), va_P (dC, dI) vwCl [(h, .inr (7, oM r i j))] H → va_D A [(h, .inr (7, oM r i j))] → va_S A s.heap H locs → lv_has ls 2 [] → W p l e ({ frames := 1, cells := 0, slots := 0, locals := 40 }) s m args below meth c H locs 0 0 (MQ below (va_Qi (fun (r9 : Int32) (u9 : Unit) => (r9 = 0)) (fun u => k_B (dC, dI) vwCl (tyy cI cJ cZ cM) A ((fun (u9 : Unit) => [(h, .inr (7, oM r i j))]) u)) A) args s 0 0 A) (F0 m 20 ls []) := by
    intro  q20_0 q20_1 q20_2 H locs ls hP hD hS hl
    refine lv_iconst (v := 0) hx hb dX7_isSign_20 (by decide +kernel) ?_
    exact k_ri B hP hD hS dX7_isSign_21 () [0] rfl rfl rfl (Nat.le_of_ble_eq_true rfl) (Nat.le_of_ble_eq_true rfl) rfl
  refine lv_icmp_ne (tgt := 20) hx hb dX7_isSign_5 (by decide) (fun c_5 => ?_) (fun c_5 => ?_)
  · exact absurd (i_eqc hm3 (iR_c (n := 3) (a := 3) (b := 3) (by decide +kernel) (by decide +kernel))) c_5
  · have c_5 : (i 3) = 3 := c_5
    refine lv_aload_n hx hb dX7_isSign_8 rfl (lv_at hl 0 rfl) ?_
    refine k_get (D := (dC, dI)) (ci := 7) (v := .int (i 6)) (C := RX7) (T := TX7) (N := 92) hx hb hts hinX7 hown hK hP 0 rfl rfl 6 (by decide) w_1 rfl rfl dX7_isSign_9 ?_
    refine lv_iload_n hx hb dX7_isSign_12 rfl (lv_at hl 1 rfl) ?_
    refine lv_icmp_ne (tgt := 20) hx hb dX7_isSign_13 (by decide) (fun c_13 => ?_) (fun c_13 => ?_)
    · have c_13 : ¬ (i 6) = 43 := c_13
      exact J_20  c_5 c_13 c_5.symm H locs ls hP hD hS (lv_sub hl [] rfl)
    · exact iR_cl (iR_eqL (a' := 47) (b' := 43) c_13 hm6 (iR_c (n := 43) (a := 43) (b := 43) (by decide +kernel) (by decide +kernel)) (by decide +kernel)) (by decide +kernel)
set_option maxHeartbeats 8000000 in
set_option maxRecDepth 100000 in
theorem s_X7_isSign_v12 (l : Launch) (dC : Nat → ClassId) (dI : Nat → Nat → Nat) (cI cJ cZ cM : ClassId) (h : Nat) (r : Nat → Nat) (i : Nat → Int32) (j : Nat → Int64) (hm3 : iR (i 3) 3 3) (hm6 : iR (i 6) 47 47) (hI : mR i) : k_Mi l yX7_isSign wsX7_isSign ({ frames := 1, cells := 0, slots := 0, locals := 40 }) (dC, dI) vwCl (tyy cI cJ cZ cM) [(h, .inr (7, oM r i j))] [.ref h, .int 45] 0 0 (fun (u9 : Unit) => [(h, .inr (7, oM r i j))]) (fun (r9 : Int32) (u9 : Unit) => (r9 = 0)) := by
  refine fun sz => k_enter (cc := cX7_isSign) (maxL := 2) (ret := some (.boolean)) (Qc := fun A => va_Qi (fun (r9 : Int32) (u9 : Unit) => (r9 = 0)) (fun u => k_B (dC, dI) vwCl (tyy cI cJ cZ cM) A ((fun (u9 : Unit) => [(h, .inr (7, oM r i j))]) u)) A) sz (by decide +kernel) rfl (Nat.le_of_ble_eq_true rfl) (fun p e s m args below meth c A ls H locs B hP hD hS hl => ?_)
  obtain ⟨hx, hb, hml, hown, hts, hr, hlk, hnm, hK, hA, hN, hC⟩ := id B
  have hown : s.vm.findClass RX7 = some m.cls := hown
  have hl : lv_has ls 2 [(0, .ref h), (1, .int 45)] := hl
  have w_0 : (Cond.fieldLink RX7 20 "WishSeaModel" "sign" "I").before args s = true := hts _ (List.mem_of_getElem? (i := 1) rfl)
  have w_1 : (Cond.fieldLink RX7 29 "WishSeaModel" "value" "I").before args s = true := hts _ (List.mem_of_getElem? (i := 2) rfl)
  have hinX7 : ∀ w ∈ u_ws RX7 TX7 92, w ∈ wsX7_isSign := fun _ h => List.mem_cons_of_mem _ (List.mem_append_right _ h)
  refine lv_aload_n hx hb dX7_isSign_0 rfl (lv_at hl 0 rfl) ?_
  refine k_get (D := (dC, dI)) (ci := 7) (v := .int (i 3)) (C := RX7) (T := TX7) (N := 92) hx hb hts hinX7 hown hK hP 0 rfl rfl 3 (by decide) w_0 rfl rfl dX7_isSign_1 ?_
  refine lv_iconst (v := 3) hx hb dX7_isSign_4 (by decide +kernel) ?_
  have J_20 : ∀  (q20_0 : (i 3) = 3) (q20_1 : ¬ (i 6) = 45) (q20_2 : 3 = (i 3)) (H : Heap) (locs : List Loc) (ls : Array Slot), va_P (dC, dI) vwCl [(h, .inr (7, oM r i j))] H → va_D A [(h, .inr (7, oM r i j))] → va_S A s.heap H locs → lv_has ls 2 [] → W p l e ({ frames := 1, cells := 0, slots := 0, locals := 40 }) s m args below meth c H locs 0 0 (MQ below (va_Qi (fun (r9 : Int32) (u9 : Unit) => (r9 = 0)) (fun u => k_B (dC, dI) vwCl (tyy cI cJ cZ cM) A ((fun (u9 : Unit) => [(h, .inr (7, oM r i j))]) u)) A) args s 0 0 A) (F0 m 20 ls []) := by
    intro  q20_0 q20_1 q20_2 H locs ls hP hD hS hl
    refine lv_iconst (v := 0) hx hb dX7_isSign_20 (by decide +kernel) ?_
    exact k_ri B hP hD hS dX7_isSign_21 () [0] rfl rfl rfl (Nat.le_of_ble_eq_true rfl) (Nat.le_of_ble_eq_true rfl) rfl
  refine lv_icmp_ne (tgt := 20) hx hb dX7_isSign_5 (by decide) (fun c_5 => ?_) (fun c_5 => ?_)
  · exact absurd (i_eqc hm3 (iR_c (n := 3) (a := 3) (b := 3) (by decide +kernel) (by decide +kernel))) c_5
  · have c_5 : (i 3) = 3 := c_5
    refine lv_aload_n hx hb dX7_isSign_8 rfl (lv_at hl 0 rfl) ?_
    refine k_get (D := (dC, dI)) (ci := 7) (v := .int (i 6)) (C := RX7) (T := TX7) (N := 92) hx hb hts hinX7 hown hK hP 0 rfl rfl 6 (by decide) w_1 rfl rfl dX7_isSign_9 ?_
    refine lv_iload_n hx hb dX7_isSign_12 rfl (lv_at hl 1 rfl) ?_
    refine lv_icmp_ne (tgt := 20) hx hb dX7_isSign_13 (by decide) (fun c_13 => ?_) (fun c_13 => ?_)
    · have c_13 : ¬ (i 6) = 45 := c_13
      exact J_20  c_5 c_13 c_5.symm H locs ls hP hD hS (lv_sub hl [] rfl)
    · exact iR_cl (iR_eqL (a' := 47) (b' := 45) c_13 hm6 (iR_c (n := 45) (a := 45) (b := 45) (by decide +kernel) (by decide +kernel)) (by decide +kernel)) (by decide +kernel)
set_option maxHeartbeats 8000000 in
set_option maxRecDepth 100000 in
theorem s_X7_isSign_v13 (l : Launch) (dC : Nat → ClassId) (dI : Nat → Nat → Nat) (cI cJ cZ cM : ClassId) (h : Nat) (r : Nat → Nat) (i : Nat → Int32) (j : Nat → Int64) (hm3 : iR (i 3) 0 3) (hm6 : iR (i 6) 0 9999) (hI : mR i) : k_Mi l yX7_isSign wsX7_isSign ({ frames := 1, cells := 0, slots := 0, locals := 40 }) (dC, dI) vwCl (tyy cI cJ cZ cM) [(h, .inr (7, oM r i j))] [.ref h, .int 37] 0 0 (fun (u9 : Unit) => [(h, .inr (7, oM r i j))]) (fun (r9 : Int32) (u9 : Unit) => (iR r9 0 1) ∧ ((r9 = 0) ∨ (((i 3) = 3) ∧ ((i 6) = 37)))) := by
  refine fun sz => k_enter (cc := cX7_isSign) (maxL := 2) (ret := some (.boolean)) (Qc := fun A => va_Qi (fun (r9 : Int32) (u9 : Unit) => (iR r9 0 1) ∧ ((r9 = 0) ∨ (((i 3) = 3) ∧ ((i 6) = 37)))) (fun u => k_B (dC, dI) vwCl (tyy cI cJ cZ cM) A ((fun (u9 : Unit) => [(h, .inr (7, oM r i j))]) u)) A) sz (by decide +kernel) rfl (Nat.le_of_ble_eq_true rfl) (fun p e s m args below meth c A ls H locs B hP hD hS hl => ?_)
  obtain ⟨hx, hb, hml, hown, hts, hr, hlk, hnm, hK, hA, hN, hC⟩ := id B
  have hown : s.vm.findClass RX7 = some m.cls := hown
  have hl : lv_has ls 2 [(0, .ref h), (1, .int 37)] := hl
  have w_0 : (Cond.fieldLink RX7 20 "WishSeaModel" "sign" "I").before args s = true := hts _ (List.mem_of_getElem? (i := 1) rfl)
  have w_1 : (Cond.fieldLink RX7 29 "WishSeaModel" "value" "I").before args s = true := hts _ (List.mem_of_getElem? (i := 2) rfl)
  have hinX7 : ∀ w ∈ u_ws RX7 TX7 92, w ∈ wsX7_isSign := fun _ h => List.mem_cons_of_mem _ (List.mem_append_right _ h)
  refine lv_aload_n hx hb dX7_isSign_0 rfl (lv_at hl 0 rfl) ?_
  refine k_get (D := (dC, dI)) (ci := 7) (v := .int (i 3)) (C := RX7) (T := TX7) (N := 92) hx hb hts hinX7 hown hK hP 0 rfl rfl 3 (by decide) w_0 rfl rfl dX7_isSign_1 ?_
  refine lv_iconst (v := 3) hx hb dX7_isSign_4 (by decide +kernel) ?_
  have J_20 : ∀   (H : Heap) (locs : List Loc) (ls : Array Slot), va_P (dC, dI) vwCl [(h, .inr (7, oM r i j))] H → va_D A [(h, .inr (7, oM r i j))] → va_S A s.heap H locs → lv_has ls 2 [] → W p l e ({ frames := 1, cells := 0, slots := 0, locals := 40 }) s m args below meth c H locs 0 0 (MQ below (va_Qi (fun (r9 : Int32) (u9 : Unit) => (iR r9 0 1) ∧ ((r9 = 0) ∨ (((i 3) = 3) ∧ ((i 6) = 37)))) (fun u => k_B (dC, dI) vwCl (tyy cI cJ cZ cM) A ((fun (u9 : Unit) => [(h, .inr (7, oM r i j))]) u)) A) args s 0 0 A) (F0 m 20 ls []) := by
    intro   H locs ls hP hD hS hl
    refine lv_iconst (v := 0) hx hb dX7_isSign_20 (by decide +kernel) ?_
    exact k_ri B hP hD hS dX7_isSign_21 () [0] rfl rfl rfl (Nat.le_of_ble_eq_true rfl) (Nat.le_of_ble_eq_true rfl) ⟨(show iR 0 0 1 from (iR_c (n := 0) (a := 0) (b := 1) (by decide +kernel) (by decide +kernel))), (show (0 = 0) ∨ (((i 3) = 3) ∧ ((i 6) = 37)) from (Or.inl rfl))⟩
  refine lv_icmp_ne (tgt := 20) hx hb dX7_isSign_5 (by decide) (fun c_5 => ?_) (fun c_5 => ?_)
  · have c_5 : ¬ (i 3) = 3 := c_5
    have f_20_1 : iR (i 3) 0 2 := iR_neL c_5 hm3 (iR_c (n := 3) (a := 3) (b := 3) (by decide +kernel) (by decide +kernel)) (by decide +kernel)
    exact J_20   H locs ls hP hD hS (lv_sub hl [] rfl)
  · have c_5 : (i 3) = 3 := c_5
    have f_8_1 : iR (i 3) 3 3 := iR_eqL c_5 hm3 (iR_c (n := 3) (a := 3) (b := 3) (by decide +kernel) (by decide +kernel)) (by decide +kernel)
    refine lv_aload_n hx hb dX7_isSign_8 rfl (lv_at hl 0 rfl) ?_
    refine k_get (D := (dC, dI)) (ci := 7) (v := .int (i 6)) (C := RX7) (T := TX7) (N := 92) hx hb hts hinX7 hown hK hP 0 rfl rfl 6 (by decide) w_1 rfl rfl dX7_isSign_9 ?_
    refine lv_iload_n hx hb dX7_isSign_12 rfl (lv_at hl 1 rfl) ?_
    refine lv_icmp_ne (tgt := 20) hx hb dX7_isSign_13 (by decide) (fun c_13 => ?_) (fun c_13 => ?_)
    · have c_13 : ¬ (i 6) = 37 := c_13
      exact J_20   H locs ls hP hD hS (lv_sub hl [] rfl)
    · have c_13 : (i 6) = 37 := c_13
      have f_16_2 : iR (i 6) 37 37 := iR_eqL c_13 hm6 (iR_c (n := 37) (a := 37) (b := 37) (by decide +kernel) (by decide +kernel)) (by decide +kernel)
      refine lv_iconst (v := 1) hx hb dX7_isSign_16 (by decide +kernel) ?_
      refine lv_goto (tgt := 21) hx hb dX7_isSign_17 (by decide) ?_
      exact k_ri B hP hD hS dX7_isSign_21 () [0] rfl rfl rfl (Nat.le_of_ble_eq_true rfl) (Nat.le_of_ble_eq_true rfl) ⟨(show iR 1 0 1 from (iR_c (n := 1) (a := 0) (b := 1) (by decide +kernel) (by decide +kernel))), (show (1 = 0) ∨ (((i 3) = 3) ∧ ((i 6) = 37)) from (Or.inr ⟨c_5, c_13⟩))⟩
set_option maxHeartbeats 8000000 in
set_option maxRecDepth 100000 in
theorem s_X7_isSign_v14 (l : Launch) (dC : Nat → ClassId) (dI : Nat → Nat → Nat) (cI cJ cZ cM : ClassId) (h : Nat) (r : Nat → Nat) (i : Nat → Int32) (j : Nat → Int64) (hm3 : iR (i 3) 3 3) (hm6 : iR (i 6) 37 37) (hI : mR i) : k_Mi l yX7_isSign wsX7_isSign ({ frames := 1, cells := 0, slots := 0, locals := 40 }) (dC, dI) vwCl (tyy cI cJ cZ cM) [(h, .inr (7, oM r i j))] [.ref h, .int 43] 0 0 (fun (u9 : Unit) => [(h, .inr (7, oM r i j))]) (fun (r9 : Int32) (u9 : Unit) => (r9 = 0)) := by
  refine fun sz => k_enter (cc := cX7_isSign) (maxL := 2) (ret := some (.boolean)) (Qc := fun A => va_Qi (fun (r9 : Int32) (u9 : Unit) => (r9 = 0)) (fun u => k_B (dC, dI) vwCl (tyy cI cJ cZ cM) A ((fun (u9 : Unit) => [(h, .inr (7, oM r i j))]) u)) A) sz (by decide +kernel) rfl (Nat.le_of_ble_eq_true rfl) (fun p e s m args below meth c A ls H locs B hP hD hS hl => ?_)
  obtain ⟨hx, hb, hml, hown, hts, hr, hlk, hnm, hK, hA, hN, hC⟩ := id B
  have hown : s.vm.findClass RX7 = some m.cls := hown
  have hl : lv_has ls 2 [(0, .ref h), (1, .int 43)] := hl
  have w_0 : (Cond.fieldLink RX7 20 "WishSeaModel" "sign" "I").before args s = true := hts _ (List.mem_of_getElem? (i := 1) rfl)
  have w_1 : (Cond.fieldLink RX7 29 "WishSeaModel" "value" "I").before args s = true := hts _ (List.mem_of_getElem? (i := 2) rfl)
  have hinX7 : ∀ w ∈ u_ws RX7 TX7 92, w ∈ wsX7_isSign := fun _ h => List.mem_cons_of_mem _ (List.mem_append_right _ h)
  refine lv_aload_n hx hb dX7_isSign_0 rfl (lv_at hl 0 rfl) ?_
  refine k_get (D := (dC, dI)) (ci := 7) (v := .int (i 3)) (C := RX7) (T := TX7) (N := 92) hx hb hts hinX7 hown hK hP 0 rfl rfl 3 (by decide) w_0 rfl rfl dX7_isSign_1 ?_
  refine lv_iconst (v := 3) hx hb dX7_isSign_4 (by decide +kernel) ?_
  have J_20 : ∀  (q20_0 : (i 3) = 3) (q20_1 : ¬ (i 6) = 43) (q20_2 : 3 = (i 3)) (H : Heap) (locs : List Loc) (ls : Array Slot), va_P (dC, dI) vwCl [(h, .inr (7, oM r i j))] H → va_D A [(h, .inr (7, oM r i j))] → va_S A s.heap H locs → lv_has ls 2 [] → W p l e ({ frames := 1, cells := 0, slots := 0, locals := 40 }) s m args below meth c H locs 0 0 (MQ below (va_Qi (fun (r9 : Int32) (u9 : Unit) => (r9 = 0)) (fun u => k_B (dC, dI) vwCl (tyy cI cJ cZ cM) A ((fun (u9 : Unit) => [(h, .inr (7, oM r i j))]) u)) A) args s 0 0 A) (F0 m 20 ls []) := by
    intro  q20_0 q20_1 q20_2 H locs ls hP hD hS hl
    refine lv_iconst (v := 0) hx hb dX7_isSign_20 (by decide +kernel) ?_
    exact k_ri B hP hD hS dX7_isSign_21 () [0] rfl rfl rfl (Nat.le_of_ble_eq_true rfl) (Nat.le_of_ble_eq_true rfl) rfl
  refine lv_icmp_ne (tgt := 20) hx hb dX7_isSign_5 (by decide) (fun c_5 => ?_) (fun c_5 => ?_)
  · exact absurd (i_eqc hm3 (iR_c (n := 3) (a := 3) (b := 3) (by decide +kernel) (by decide +kernel))) c_5
  · have c_5 : (i 3) = 3 := c_5
    refine lv_aload_n hx hb dX7_isSign_8 rfl (lv_at hl 0 rfl) ?_
    refine k_get (D := (dC, dI)) (ci := 7) (v := .int (i 6)) (C := RX7) (T := TX7) (N := 92) hx hb hts hinX7 hown hK hP 0 rfl rfl 6 (by decide) w_1 rfl rfl dX7_isSign_9 ?_
    refine lv_iload_n hx hb dX7_isSign_12 rfl (lv_at hl 1 rfl) ?_
    refine lv_icmp_ne (tgt := 20) hx hb dX7_isSign_13 (by decide) (fun c_13 => ?_) (fun c_13 => ?_)
    · have c_13 : ¬ (i 6) = 43 := c_13
      exact J_20  c_5 c_13 c_5.symm H locs ls hP hD hS (lv_sub hl [] rfl)
    · exact iR_cl (iR_eqL (a' := 43) (b' := 37) c_13 hm6 (iR_c (n := 43) (a := 43) (b := 43) (by decide +kernel) (by decide +kernel)) (by decide +kernel)) (by decide +kernel)
set_option maxHeartbeats 8000000 in
set_option maxRecDepth 100000 in
theorem s_X7_isSign_v15 (l : Launch) (dC : Nat → ClassId) (dI : Nat → Nat → Nat) (cI cJ cZ cM : ClassId) (h : Nat) (r : Nat → Nat) (i : Nat → Int32) (j : Nat → Int64) (hm3 : iR (i 3) 3 3) (hm6 : iR (i 6) 37 37) (hI : mR i) : k_Mi l yX7_isSign wsX7_isSign ({ frames := 1, cells := 0, slots := 0, locals := 40 }) (dC, dI) vwCl (tyy cI cJ cZ cM) [(h, .inr (7, oM r i j))] [.ref h, .int 45] 0 0 (fun (u9 : Unit) => [(h, .inr (7, oM r i j))]) (fun (r9 : Int32) (u9 : Unit) => (r9 = 0)) := by
  refine fun sz => k_enter (cc := cX7_isSign) (maxL := 2) (ret := some (.boolean)) (Qc := fun A => va_Qi (fun (r9 : Int32) (u9 : Unit) => (r9 = 0)) (fun u => k_B (dC, dI) vwCl (tyy cI cJ cZ cM) A ((fun (u9 : Unit) => [(h, .inr (7, oM r i j))]) u)) A) sz (by decide +kernel) rfl (Nat.le_of_ble_eq_true rfl) (fun p e s m args below meth c A ls H locs B hP hD hS hl => ?_)
  obtain ⟨hx, hb, hml, hown, hts, hr, hlk, hnm, hK, hA, hN, hC⟩ := id B
  have hown : s.vm.findClass RX7 = some m.cls := hown
  have hl : lv_has ls 2 [(0, .ref h), (1, .int 45)] := hl
  have w_0 : (Cond.fieldLink RX7 20 "WishSeaModel" "sign" "I").before args s = true := hts _ (List.mem_of_getElem? (i := 1) rfl)
  have w_1 : (Cond.fieldLink RX7 29 "WishSeaModel" "value" "I").before args s = true := hts _ (List.mem_of_getElem? (i := 2) rfl)
  have hinX7 : ∀ w ∈ u_ws RX7 TX7 92, w ∈ wsX7_isSign := fun _ h => List.mem_cons_of_mem _ (List.mem_append_right _ h)
  refine lv_aload_n hx hb dX7_isSign_0 rfl (lv_at hl 0 rfl) ?_
  refine k_get (D := (dC, dI)) (ci := 7) (v := .int (i 3)) (C := RX7) (T := TX7) (N := 92) hx hb hts hinX7 hown hK hP 0 rfl rfl 3 (by decide) w_0 rfl rfl dX7_isSign_1 ?_
  refine lv_iconst (v := 3) hx hb dX7_isSign_4 (by decide +kernel) ?_
  have J_20 : ∀  (q20_0 : (i 3) = 3) (q20_1 : ¬ (i 6) = 45) (q20_2 : 3 = (i 3)) (H : Heap) (locs : List Loc) (ls : Array Slot), va_P (dC, dI) vwCl [(h, .inr (7, oM r i j))] H → va_D A [(h, .inr (7, oM r i j))] → va_S A s.heap H locs → lv_has ls 2 [] → W p l e ({ frames := 1, cells := 0, slots := 0, locals := 40 }) s m args below meth c H locs 0 0 (MQ below (va_Qi (fun (r9 : Int32) (u9 : Unit) => (r9 = 0)) (fun u => k_B (dC, dI) vwCl (tyy cI cJ cZ cM) A ((fun (u9 : Unit) => [(h, .inr (7, oM r i j))]) u)) A) args s 0 0 A) (F0 m 20 ls []) := by
    intro  q20_0 q20_1 q20_2 H locs ls hP hD hS hl
    refine lv_iconst (v := 0) hx hb dX7_isSign_20 (by decide +kernel) ?_
    exact k_ri B hP hD hS dX7_isSign_21 () [0] rfl rfl rfl (Nat.le_of_ble_eq_true rfl) (Nat.le_of_ble_eq_true rfl) rfl
  refine lv_icmp_ne (tgt := 20) hx hb dX7_isSign_5 (by decide) (fun c_5 => ?_) (fun c_5 => ?_)
  · exact absurd (i_eqc hm3 (iR_c (n := 3) (a := 3) (b := 3) (by decide +kernel) (by decide +kernel))) c_5
  · have c_5 : (i 3) = 3 := c_5
    refine lv_aload_n hx hb dX7_isSign_8 rfl (lv_at hl 0 rfl) ?_
    refine k_get (D := (dC, dI)) (ci := 7) (v := .int (i 6)) (C := RX7) (T := TX7) (N := 92) hx hb hts hinX7 hown hK hP 0 rfl rfl 6 (by decide) w_1 rfl rfl dX7_isSign_9 ?_
    refine lv_iload_n hx hb dX7_isSign_12 rfl (lv_at hl 1 rfl) ?_
    refine lv_icmp_ne (tgt := 20) hx hb dX7_isSign_13 (by decide) (fun c_13 => ?_) (fun c_13 => ?_)
    · have c_13 : ¬ (i 6) = 45 := c_13
      exact J_20  c_5 c_13 c_5.symm H locs ls hP hD hS (lv_sub hl [] rfl)
    · exact iR_cl (iR_eqL (a' := 45) (b' := 37) c_13 hm6 (iR_c (n := 45) (a := 45) (b := 45) (by decide +kernel) (by decide +kernel)) (by decide +kernel)) (by decide +kernel)
set_option maxHeartbeats 8000000 in
set_option maxRecDepth 100000 in
theorem s_X7_rank_v0 (l : Launch) (dC : Nat → ClassId) (dI : Nat → Nat → Nat) (cI cJ cZ cM : ClassId) (x0 : Int32)  : k_Mi l yX7_rank wsX7_rank ({ frames := 1, cells := 0, slots := 0, locals := 40 }) (dC, dI) vwCl (tyy cI cJ cZ cM) [] [.int x0] 0 0 (fun (u9 : Unit) => []) (fun (r9 : Int32) (u9 : Unit) => (iR r9 1 6) ∧ (r9.toInt = rkz x0.toInt)) := by
  refine fun sz => k_enter (cc := cX7_rank) (maxL := 1) (ret := some (.int)) (Qc := fun A => va_Qi (fun (r9 : Int32) (u9 : Unit) => (iR r9 1 6) ∧ (r9.toInt = rkz x0.toInt)) (fun u => k_B (dC, dI) vwCl (tyy cI cJ cZ cM) A ((fun (u9 : Unit) => []) u)) A) sz (by decide +kernel) rfl (Nat.le_of_ble_eq_true rfl) (fun p e s m args below meth c A ls H locs B hP hD hS hl => ?_)
  obtain ⟨hx, hb, hml, hown, hts, hr, hlk, hnm, hK, hA, hN, hC⟩ := id B
  have hown : s.vm.findClass RX7 = some m.cls := hown
  have hl : lv_has ls 1 [(0, .int x0)] := hl
  refine lv_iload_n hx hb dX7_rank_0 rfl (lv_at hl 0 rfl) ?_
  refine lv_bipush (v := 21) hx hb dX7_rank_1 (by decide +kernel) ?_
  refine lv_icmp_ne (tgt := 10) hx hb dX7_rank_3 (by decide) (fun c_3 => ?_) (fun c_3 => ?_)
  · have c_3 : ¬ x0 = 21 := c_3
    refine lv_iload_n hx hb dX7_rank_10 rfl (lv_at hl 0 rfl) ?_
    refine lv_bipush (v := 20) hx hb dX7_rank_11 (by decide +kernel) ?_
    refine lv_icmp_ne (tgt := 20) hx hb dX7_rank_13 (by decide) (fun c_13 => ?_) (fun c_13 => ?_)
    · have c_13 : ¬ x0 = 20 := c_13
      refine lv_iload_n hx hb dX7_rank_20 rfl (lv_at hl 0 rfl) ?_
      refine lv_bipush (v := 22) hx hb dX7_rank_21 (by decide +kernel) ?_
      refine lv_icmp_ne (tgt := 30) hx hb dX7_rank_23 (by decide) (fun c_23 => ?_) (fun c_23 => ?_)
      · have c_23 : ¬ x0 = 22 := c_23
        refine lv_iload_n hx hb dX7_rank_30 rfl (lv_at hl 0 rfl) ?_
        refine lv_bipush (v := 17) hx hb dX7_rank_31 (by decide +kernel) ?_
        refine lv_icmp_eq (tgt := 48) hx hb dX7_rank_33 (by decide) (fun c_33 => ?_) (fun c_33 => ?_)
        · have c_33 : x0 = 17 := c_33
          have f_48_1 : iR x0 17 17 := iR_eqL c_33 (iR_top _) (iR_c (n := 17) (a := 17) (b := 17) (by decide +kernel) (by decide +kernel)) (by decide +kernel)
          refine lv_iconst (v := 4) hx hb dX7_rank_48 (by decide +kernel) ?_
          refine lv_goto (tgt := 70) hx hb dX7_rank_49 (by decide) ?_
          exact k_ri B hP hD hS dX7_rank_70 () [] rfl rfl rfl (Nat.le_of_ble_eq_true rfl) (Nat.le_of_ble_eq_true rfl) ⟨(show iR 4 1 6 from (iR_c (n := 4) (a := 1) (b := 6) (by decide +kernel) (by decide +kernel))), (show (4 : Int32).toInt = rkz x0.toInt from (by have r0 : ¬ x0.toInt = 21 := i_ti_ne rfl (by decide) c_3; have r1 : ¬ x0.toInt = 20 := i_ti_ne rfl (by decide) c_13; have r2 : ¬ x0.toInt = 22 := i_ti_ne rfl (by decide) c_23; have r3 : x0.toInt = 17 := i_ti_eq rfl (by decide) c_33; show ((4 : Int32).toInt) = rkz x0.toInt; unfold rkz; (repeat' split) <;> first | rfl | (exfalso; omega) | decide))⟩
        · have c_33 : ¬ x0 = 17 := c_33
          refine lv_iload_n hx hb dX7_rank_36 rfl (lv_at hl 0 rfl) ?_
          refine lv_bipush (v := 18) hx hb dX7_rank_37 (by decide +kernel) ?_
          refine lv_icmp_eq (tgt := 48) hx hb dX7_rank_39 (by decide) (fun c_39 => ?_) (fun c_39 => ?_)
          · have c_39 : x0 = 18 := c_39
            have f_48_1 : iR x0 18 18 := iR_eqL c_39 (iR_top _) (iR_c (n := 18) (a := 18) (b := 18) (by decide +kernel) (by decide +kernel)) (by decide +kernel)
            refine lv_iconst (v := 4) hx hb dX7_rank_48 (by decide +kernel) ?_
            refine lv_goto (tgt := 70) hx hb dX7_rank_49 (by decide) ?_
            exact k_ri B hP hD hS dX7_rank_70 () [] rfl rfl rfl (Nat.le_of_ble_eq_true rfl) (Nat.le_of_ble_eq_true rfl) ⟨(show iR 4 1 6 from (iR_c (n := 4) (a := 1) (b := 6) (by decide +kernel) (by decide +kernel))), (show (4 : Int32).toInt = rkz x0.toInt from (by have r0 : ¬ x0.toInt = 21 := i_ti_ne rfl (by decide) c_3; have r1 : ¬ x0.toInt = 20 := i_ti_ne rfl (by decide) c_13; have r2 : ¬ x0.toInt = 22 := i_ti_ne rfl (by decide) c_23; have r3 : ¬ x0.toInt = 17 := i_ti_ne rfl (by decide) c_33; have r4 : x0.toInt = 18 := i_ti_eq rfl (by decide) c_39; show ((4 : Int32).toInt) = rkz x0.toInt; unfold rkz; (repeat' split) <;> first | rfl | (exfalso; omega) | decide))⟩
          · have c_39 : ¬ x0 = 18 := c_39
            refine lv_iload_n hx hb dX7_rank_42 rfl (lv_at hl 0 rfl) ?_
            refine lv_bipush (v := 19) hx hb dX7_rank_43 (by decide +kernel) ?_
            refine lv_icmp_ne (tgt := 52) hx hb dX7_rank_45 (by decide) (fun c_45 => ?_) (fun c_45 => ?_)
            · have c_45 : ¬ x0 = 19 := c_45
              refine lv_iload_n hx hb dX7_rank_52 rfl (lv_at hl 0 rfl) ?_
              refine lv_bipush (v := 10) hx hb dX7_rank_53 (by decide +kernel) ?_
              refine lv_icmp_eq (tgt := 64) hx hb dX7_rank_55 (by decide) (fun c_55 => ?_) (fun c_55 => ?_)
              · have c_55 : x0 = 10 := c_55
                have f_64_1 : iR x0 10 10 := iR_eqL c_55 (iR_top _) (iR_c (n := 10) (a := 10) (b := 10) (by decide +kernel) (by decide +kernel)) (by decide +kernel)
                refine lv_iconst (v := 5) hx hb dX7_rank_64 (by decide +kernel) ?_
                refine lv_goto (tgt := 70) hx hb dX7_rank_65 (by decide) ?_
                exact k_ri B hP hD hS dX7_rank_70 () [] rfl rfl rfl (Nat.le_of_ble_eq_true rfl) (Nat.le_of_ble_eq_true rfl) ⟨(show iR 5 1 6 from (iR_c (n := 5) (a := 1) (b := 6) (by decide +kernel) (by decide +kernel))), (show (5 : Int32).toInt = rkz x0.toInt from (by have r0 : ¬ x0.toInt = 21 := i_ti_ne rfl (by decide) c_3; have r1 : ¬ x0.toInt = 20 := i_ti_ne rfl (by decide) c_13; have r2 : ¬ x0.toInt = 22 := i_ti_ne rfl (by decide) c_23; have r3 : ¬ x0.toInt = 17 := i_ti_ne rfl (by decide) c_33; have r4 : ¬ x0.toInt = 18 := i_ti_ne rfl (by decide) c_39; have r5 : ¬ x0.toInt = 19 := i_ti_ne rfl (by decide) c_45; have r6 : x0.toInt = 10 := i_ti_eq rfl (by decide) c_55; show ((5 : Int32).toInt) = rkz x0.toInt; unfold rkz; (repeat' split) <;> first | rfl | (exfalso; omega) | decide))⟩
              · have c_55 : ¬ x0 = 10 := c_55
                refine lv_iload_n hx hb dX7_rank_58 rfl (lv_at hl 0 rfl) ?_
                refine lv_bipush (v := 11) hx hb dX7_rank_59 (by decide +kernel) ?_
                refine lv_icmp_ne (tgt := 68) hx hb dX7_rank_61 (by decide) (fun c_61 => ?_) (fun c_61 => ?_)
                · have c_61 : ¬ x0 = 11 := c_61
                  refine lv_bipush (v := 6) hx hb dX7_rank_68 (by decide +kernel) ?_
                  exact k_ri B hP hD hS dX7_rank_70 () [] rfl rfl rfl (Nat.le_of_ble_eq_true rfl) (Nat.le_of_ble_eq_true rfl) ⟨(show iR 6 1 6 from (iR_c (n := 6) (a := 1) (b := 6) (by decide +kernel) (by decide +kernel))), (show (6 : Int32).toInt = rkz x0.toInt from (by have r0 : ¬ x0.toInt = 21 := i_ti_ne rfl (by decide) c_3; have r1 : ¬ x0.toInt = 20 := i_ti_ne rfl (by decide) c_13; have r2 : ¬ x0.toInt = 22 := i_ti_ne rfl (by decide) c_23; have r3 : ¬ x0.toInt = 17 := i_ti_ne rfl (by decide) c_33; have r4 : ¬ x0.toInt = 18 := i_ti_ne rfl (by decide) c_39; have r5 : ¬ x0.toInt = 19 := i_ti_ne rfl (by decide) c_45; have r6 : ¬ x0.toInt = 10 := i_ti_ne rfl (by decide) c_55; have r7 : ¬ x0.toInt = 11 := i_ti_ne rfl (by decide) c_61; show ((6 : Int32).toInt) = rkz x0.toInt; unfold rkz; (repeat' split) <;> first | rfl | (exfalso; omega) | decide))⟩
                · have c_61 : x0 = 11 := c_61
                  have f_64_1 : iR x0 11 11 := iR_eqL c_61 (iR_top _) (iR_c (n := 11) (a := 11) (b := 11) (by decide +kernel) (by decide +kernel)) (by decide +kernel)
                  refine lv_iconst (v := 5) hx hb dX7_rank_64 (by decide +kernel) ?_
                  refine lv_goto (tgt := 70) hx hb dX7_rank_65 (by decide) ?_
                  exact k_ri B hP hD hS dX7_rank_70 () [] rfl rfl rfl (Nat.le_of_ble_eq_true rfl) (Nat.le_of_ble_eq_true rfl) ⟨(show iR 5 1 6 from (iR_c (n := 5) (a := 1) (b := 6) (by decide +kernel) (by decide +kernel))), (show (5 : Int32).toInt = rkz x0.toInt from (by have r0 : ¬ x0.toInt = 21 := i_ti_ne rfl (by decide) c_3; have r1 : ¬ x0.toInt = 20 := i_ti_ne rfl (by decide) c_13; have r2 : ¬ x0.toInt = 22 := i_ti_ne rfl (by decide) c_23; have r3 : ¬ x0.toInt = 17 := i_ti_ne rfl (by decide) c_33; have r4 : ¬ x0.toInt = 18 := i_ti_ne rfl (by decide) c_39; have r5 : ¬ x0.toInt = 19 := i_ti_ne rfl (by decide) c_45; have r6 : ¬ x0.toInt = 10 := i_ti_ne rfl (by decide) c_55; have r7 : x0.toInt = 11 := i_ti_eq rfl (by decide) c_61; show ((5 : Int32).toInt) = rkz x0.toInt; unfold rkz; (repeat' split) <;> first | rfl | (exfalso; omega) | decide))⟩
            · have c_45 : x0 = 19 := c_45
              have f_48_1 : iR x0 19 19 := iR_eqL c_45 (iR_top _) (iR_c (n := 19) (a := 19) (b := 19) (by decide +kernel) (by decide +kernel)) (by decide +kernel)
              refine lv_iconst (v := 4) hx hb dX7_rank_48 (by decide +kernel) ?_
              refine lv_goto (tgt := 70) hx hb dX7_rank_49 (by decide) ?_
              exact k_ri B hP hD hS dX7_rank_70 () [] rfl rfl rfl (Nat.le_of_ble_eq_true rfl) (Nat.le_of_ble_eq_true rfl) ⟨(show iR 4 1 6 from (iR_c (n := 4) (a := 1) (b := 6) (by decide +kernel) (by decide +kernel))), (show (4 : Int32).toInt = rkz x0.toInt from (by have r0 : ¬ x0.toInt = 21 := i_ti_ne rfl (by decide) c_3; have r1 : ¬ x0.toInt = 20 := i_ti_ne rfl (by decide) c_13; have r2 : ¬ x0.toInt = 22 := i_ti_ne rfl (by decide) c_23; have r3 : ¬ x0.toInt = 17 := i_ti_ne rfl (by decide) c_33; have r4 : ¬ x0.toInt = 18 := i_ti_ne rfl (by decide) c_39; have r5 : x0.toInt = 19 := i_ti_eq rfl (by decide) c_45; show ((4 : Int32).toInt) = rkz x0.toInt; unfold rkz; (repeat' split) <;> first | rfl | (exfalso; omega) | decide))⟩
      · have c_23 : x0 = 22 := c_23
        have f_26_1 : iR x0 22 22 := iR_eqL c_23 (iR_top _) (iR_c (n := 22) (a := 22) (b := 22) (by decide +kernel) (by decide +kernel)) (by decide +kernel)
        refine lv_iconst (v := 3) hx hb dX7_rank_26 (by decide +kernel) ?_
        refine lv_goto (tgt := 70) hx hb dX7_rank_27 (by decide) ?_
        exact k_ri B hP hD hS dX7_rank_70 () [] rfl rfl rfl (Nat.le_of_ble_eq_true rfl) (Nat.le_of_ble_eq_true rfl) ⟨(show iR 3 1 6 from (iR_c (n := 3) (a := 1) (b := 6) (by decide +kernel) (by decide +kernel))), (show (3 : Int32).toInt = rkz x0.toInt from (by have r0 : ¬ x0.toInt = 21 := i_ti_ne rfl (by decide) c_3; have r1 : ¬ x0.toInt = 20 := i_ti_ne rfl (by decide) c_13; have r2 : x0.toInt = 22 := i_ti_eq rfl (by decide) c_23; show ((3 : Int32).toInt) = rkz x0.toInt; unfold rkz; (repeat' split) <;> first | rfl | (exfalso; omega) | decide))⟩
    · have c_13 : x0 = 20 := c_13
      have f_16_1 : iR x0 20 20 := iR_eqL c_13 (iR_top _) (iR_c (n := 20) (a := 20) (b := 20) (by decide +kernel) (by decide +kernel)) (by decide +kernel)
      refine lv_iconst (v := 2) hx hb dX7_rank_16 (by decide +kernel) ?_
      refine lv_goto (tgt := 70) hx hb dX7_rank_17 (by decide) ?_
      exact k_ri B hP hD hS dX7_rank_70 () [] rfl rfl rfl (Nat.le_of_ble_eq_true rfl) (Nat.le_of_ble_eq_true rfl) ⟨(show iR 2 1 6 from (iR_c (n := 2) (a := 1) (b := 6) (by decide +kernel) (by decide +kernel))), (show (2 : Int32).toInt = rkz x0.toInt from (by have r0 : ¬ x0.toInt = 21 := i_ti_ne rfl (by decide) c_3; have r1 : x0.toInt = 20 := i_ti_eq rfl (by decide) c_13; show ((2 : Int32).toInt) = rkz x0.toInt; unfold rkz; (repeat' split) <;> first | rfl | (exfalso; omega) | decide))⟩
  · have c_3 : x0 = 21 := c_3
    have f_6_1 : iR x0 21 21 := iR_eqL c_3 (iR_top _) (iR_c (n := 21) (a := 21) (b := 21) (by decide +kernel) (by decide +kernel)) (by decide +kernel)
    refine lv_iconst (v := 1) hx hb dX7_rank_6 (by decide +kernel) ?_
    refine lv_goto (tgt := 70) hx hb dX7_rank_7 (by decide) ?_
    exact k_ri B hP hD hS dX7_rank_70 () [] rfl rfl rfl (Nat.le_of_ble_eq_true rfl) (Nat.le_of_ble_eq_true rfl) ⟨(show iR 1 1 6 from (iR_c (n := 1) (a := 1) (b := 6) (by decide +kernel) (by decide +kernel))), (show (1 : Int32).toInt = rkz x0.toInt from (by have r0 : x0.toInt = 21 := i_ti_eq rfl (by decide) c_3; show ((1 : Int32).toInt) = rkz x0.toInt; unfold rkz; (repeat' split) <;> first | rfl | (exfalso; omega) | decide))⟩
set_option maxHeartbeats 8000000 in
set_option maxRecDepth 100000 in
theorem s_X7_joins_v0 (l : Launch) (dC : Nat → ClassId) (dI : Nat → Nat → Nat) (cI cJ cZ cM : ClassId) (h : Nat) (r : Nat → Nat) (i : Nat → Int32) (j : Nat → Int64) (x1 : Int32) (f32 : Nat → Int32) (f33 : Nat → Int32) (f38 : Nat → Int32) (f39 : Nat → Int32) (f40 : Nat → Int32) (f41 : Nat → Int32) (f42 : Nat → Int32) (f45 : Nat → Int32) (c0 : Nat) (Z0 : Nat → Int32) (hI : mR i) (hf40 : aR f40 0 1) (hpx : PX f38 f39 f40 f41 f42 f45 f32 (i 43).toInt.toNat (i 46).toInt.toNat (i 44).toInt (i 36).toInt.toNat (i 37).toInt.toNat (i 4).toInt 1 c0 Z0) : k_Mv l yX7_joins wsX7_joins ({ frames := 2, cells := 0, slots := 0, locals := 62 }) (dC, dI) vwCl (tyy cI cJ cZ cM) [(h, .inr (7, oM r i j)), ((r 32), .inl (cI, 3200, .inl f32)), ((r 33), .inl (cI, 3200, .inl f33)), ((r 42), .inl (cI, 20, .inl f42)), ((r 45), .inl (cI, 500, .inl f45))] [.ref h, .int x1] 0 0 (fun (u9 : SU) => [(h, .inr (7, oM r (upd (upd (upd i 36 (u9.1 0)) 44 (u9.1 1)) 46 (u9.1 2)) j)), ((r 32), .inl (cI, 3200, .inl (u9.2.2.1 0))), ((r 33), .inl (cI, 3200, .inl (u9.2.2.1 1))), ((r 42), .inl (cI, 20, .inl f42)), ((r 45), .inl (cI, 500, .inl f45))]) (fun (u9 : SU) => (iR (u9.1 0) 0 1600) ∧ (iR (u9.1 1) 0 7) ∧ (iR (u9.1 2) 0 47) ∧ (PX f38 f39 f40 f41 f42 f45 (u9.2.2.1 0) (i 43).toInt.toNat (u9.1 2).toInt.toNat (u9.1 1).toInt (u9.1 0).toInt.toNat (i 37).toInt.toNat (i 4).toInt 1 c0 Z0) ∧ ((f42 ((i 43).toInt.toNat - 1)).toInt = (u9.1 2).toInt ∨ (1 ≤ (u9.1 2).toInt.toNat ∧ rkz (f45 ((u9.1 2).toInt.toNat - 1)).toInt < x1.toInt)) ∧ (FRw 1600 (u9.2.2.1 0) f32 (i 37).toInt.toNat)) := by
  refine fun sz => k_enter (cc := cX7_joins) (maxL := 2) (ret := none) (Qc := fun A => va_Qv (fun (u9 : SU) => (iR (u9.1 0) 0 1600) ∧ (iR (u9.1 1) 0 7) ∧ (iR (u9.1 2) 0 47) ∧ (PX f38 f39 f40 f41 f42 f45 (u9.2.2.1 0) (i 43).toInt.toNat (u9.1 2).toInt.toNat (u9.1 1).toInt (u9.1 0).toInt.toNat (i 37).toInt.toNat (i 4).toInt 1 c0 Z0) ∧ ((f42 ((i 43).toInt.toNat - 1)).toInt = (u9.1 2).toInt ∨ (1 ≤ (u9.1 2).toInt.toNat ∧ rkz (f45 ((u9.1 2).toInt.toNat - 1)).toInt < x1.toInt)) ∧ (FRw 1600 (u9.2.2.1 0) f32 (i 37).toInt.toNat)) (fun u => k_B (dC, dI) vwCl (tyy cI cJ cZ cM) A ((fun (u9 : SU) => [(h, .inr (7, oM r (upd (upd (upd i 36 (u9.1 0)) 44 (u9.1 1)) 46 (u9.1 2)) j)), ((r 32), .inl (cI, 3200, .inl (u9.2.2.1 0))), ((r 33), .inl (cI, 3200, .inl (u9.2.2.1 1))), ((r 42), .inl (cI, 20, .inl f42)), ((r 45), .inl (cI, 500, .inl f45))]) u)) A) sz (by decide +kernel) rfl (Nat.le_of_ble_eq_true rfl) (fun p e s m args below meth c A ls H locs B hP hD hS hl => ?_)
  obtain ⟨hx, hb, hml, hown, hts, hr, hlk, hnm, hK, hA, hN, hC⟩ := id B
  have hown : s.vm.findClass RX7 = some m.cls := hown
  have hl : lv_has ls 2 [(0, .ref h), (1, .int x1)] := hl
  have w_0 : (Cond.fieldLink RX7 152 "WishSeaModel" "opMany" "I").before args s = true := hts _ (List.mem_of_getElem? (i := 1) rfl)
  have w_1 : (Cond.fieldLink RX7 140 "WishSeaModel" "base" "[I").before args s = true := hts _ (List.mem_of_getElem? (i := 2) rfl)
  have w_2 : (Cond.fieldLink RX7 143 "WishSeaModel" "deep" "I").before args s = true := hts _ (List.mem_of_getElem? (i := 3) rfl)
  have w_3 : (Cond.fieldLink RX7 149 "WishSeaModel" "ops" "[I").before args s = true := hts _ (List.mem_of_getElem? (i := 4) rfl)
  have w_4 : (Cond.fieldLink RX7 146 "WishSeaModel" "open" "I").before args s = true := hts _ (List.mem_of_getElem? (i := 5) rfl)
  have hinX7 : ∀ w ∈ u_ws RX7 TX7 92, w ∈ wsX7_joins := fun _ h => List.mem_cons_of_mem _ (List.mem_append_right _ h)
  have J_0 : ∀ (n_0 : Nat) (j0_A1 : Nat → Int32) (j0_A2 : Nat → Int32) (j0_M0_36 : Int32) (j0_M0_44 : Int32) (j0_M0_46 : Int32) (hj0_M0_36 : iR j0_M0_36 0 1600) (hj0_M0_44 : iR j0_M0_44 (-1) 7) (hj0_M0_46 : iR j0_M0_46 0 48) (t0_fr32 : FRw 1600 j0_A1 f32 (i 37).toInt.toNat) (p0_0 : PX f38 f39 f40 f41 f42 f45 j0_A1 (i 43).toInt.toNat j0_M0_46.toInt.toNat j0_M0_44.toInt j0_M0_36.toInt.toNat (i 37).toInt.toNat (i 4).toInt 1 c0 Z0) (hm_0 : j0_M0_46.toInt.toNat < n_0) (H : Heap) (locs : List Loc) (ls : Array Slot), va_P (dC, dI) vwCl [(h, .inr (7, oM r (upd (upd (upd i 36 j0_M0_36) 44 j0_M0_44) 46 j0_M0_46) j)), ((r 32), .inl (cI, 3200, .inl j0_A1)), ((r 33), .inl (cI, 3200, .inl j0_A2)), ((r 42), .inl (cI, 20, .inl f42)), ((r 45), .inl (cI, 500, .inl f45))] H → va_D A [(h, .inr (7, oM r (upd (upd (upd i 36 j0_M0_36) 44 j0_M0_44) 46 j0_M0_46) j)), ((r 32), .inl (cI, 3200, .inl j0_A1)), ((r 33), .inl (cI, 3200, .inl j0_A2)), ((r 42), .inl (cI, 20, .inl f42)), ((r 45), .inl (cI, 500, .inl f45))] → va_S A s.heap H locs → lv_has ls 2 [(0, .ref h), (1, .int x1)] → W p l e ({ frames := 2, cells := 0, slots := 0, locals := 62 }) s m args below meth c H locs 0 0 (MQ below (va_Qv (fun (u9 : SU) => (iR (u9.1 0) 0 1600) ∧ (iR (u9.1 1) 0 7) ∧ (iR (u9.1 2) 0 47) ∧ (PX f38 f39 f40 f41 f42 f45 (u9.2.2.1 0) (i 43).toInt.toNat (u9.1 2).toInt.toNat (u9.1 1).toInt (u9.1 0).toInt.toNat (i 37).toInt.toNat (i 4).toInt 1 c0 Z0) ∧ ((f42 ((i 43).toInt.toNat - 1)).toInt = (u9.1 2).toInt ∨ (1 ≤ (u9.1 2).toInt.toNat ∧ rkz (f45 ((u9.1 2).toInt.toNat - 1)).toInt < x1.toInt)) ∧ (FRw 1600 (u9.2.2.1 0) f32 (i 37).toInt.toNat)) (fun u => k_B (dC, dI) vwCl (tyy cI cJ cZ cM) A ((fun (u9 : SU) => [(h, .inr (7, oM r (upd (upd (upd i 36 (u9.1 0)) 44 (u9.1 1)) 46 (u9.1 2)) j)), ((r 32), .inl (cI, 3200, .inl (u9.2.2.1 0))), ((r 33), .inl (cI, 3200, .inl (u9.2.2.1 1))), ((r 42), .inl (cI, 20, .inl f42)), ((r 45), .inl (cI, 500, .inl f45))]) u)) A) args s 0 0 A) (F0 m 0 ls []) := by
    intro n_0
    induction n_0 with
    | zero => intro j0_A1 j0_A2 j0_M0_36 j0_M0_44 j0_M0_46 hj0_M0_36 hj0_M0_44 hj0_M0_46 t0_fr32 p0_0 hm_0; exact absurd hm_0 (Nat.not_lt_zero _)
    | succ n_0 ih_0 =>
      intro j0_A1 j0_A2 j0_M0_36 j0_M0_44 j0_M0_46 hj0_M0_36 hj0_M0_44 hj0_M0_46 t0_fr32 p0_0 hm_0 H locs ls hP hD hS hl
      have f_0_1 : iR (i 43) 1 8 := (by have rm := PX_room p0_0; have q1 : 0 ≤ (i 43).toInt ∧ (i 43).toInt ≤ 8 := (show iR (i 43) 0 8 from hI 43); have q2 : 0 ≤ j0_M0_46.toInt ∧ j0_M0_46.toInt ≤ 48 := hj0_M0_46; have q3 : (-1) ≤ j0_M0_44.toInt ∧ j0_M0_44.toInt ≤ 7 := hj0_M0_44; have q4 : 0 ≤ j0_M0_36.toInt ∧ j0_M0_36.toInt ≤ 1600 := hj0_M0_36; show 1 ≤ (i 43).toInt ∧ (i 43).toInt ≤ 8; omega)
      have f_0_2 : iR j0_M0_46 0 47 := (by have rm := PX_room p0_0; have q1 : 0 ≤ (i 43).toInt ∧ (i 43).toInt ≤ 8 := (show iR (i 43) 0 8 from hI 43); have q2 : 0 ≤ j0_M0_46.toInt ∧ j0_M0_46.toInt ≤ 48 := hj0_M0_46; have q3 : (-1) ≤ j0_M0_44.toInt ∧ j0_M0_44.toInt ≤ 7 := hj0_M0_44; have q4 : 0 ≤ j0_M0_36.toInt ∧ j0_M0_36.toInt ≤ 1600 := hj0_M0_36; show 0 ≤ j0_M0_46.toInt ∧ j0_M0_46.toInt ≤ 47; omega)
      have f_0_3 : iR j0_M0_44 0 7 := (by have rm := PX_room p0_0; have q1 : 0 ≤ (i 43).toInt ∧ (i 43).toInt ≤ 8 := (show iR (i 43) 0 8 from hI 43); have q2 : 0 ≤ j0_M0_46.toInt ∧ j0_M0_46.toInt ≤ 48 := hj0_M0_46; have q3 : (-1) ≤ j0_M0_44.toInt ∧ j0_M0_44.toInt ≤ 7 := hj0_M0_44; have q4 : 0 ≤ j0_M0_36.toInt ∧ j0_M0_36.toInt ≤ 1600 := hj0_M0_36; show 0 ≤ j0_M0_44.toInt ∧ j0_M0_44.toInt ≤ 7; omega)
      refine lv_aload_n hx hb dX7_joins_0 rfl (lv_at hl 0 rfl) ?_
      refine k_get (D := (dC, dI)) (ci := 7) (v := .int j0_M0_46) (C := RX7) (T := TX7) (N := 92) hx hb hts hinX7 hown hK hP 0 rfl rfl 46 (by decide) w_0 rfl rfl dX7_joins_1 ?_
      refine lv_aload_n hx hb dX7_joins_4 rfl (lv_at hl 0 rfl) ?_
      refine k_get (D := (dC, dI)) (ci := 7) (v := .ref (r 42)) (C := RX7) (T := TX7) (N := 92) hx hb hts hinX7 hown hK hP 0 rfl rfl 42 (by decide) w_1 rfl rfl dX7_joins_5 ?_
      refine lv_aload_n hx hb dX7_joins_8 rfl (lv_at hl 0 rfl) ?_
      refine k_get (D := (dC, dI)) (ci := 7) (v := .int (i 43)) (C := RX7) (T := TX7) (N := 92) hx hb hts hinX7 hown hK hP 0 rfl rfl 43 (by decide) w_2 rfl rfl dX7_joins_9 ?_
      refine lv_iconst (v := 1) hx hb dX7_joins_12 (by decide +kernel) ?_
      refine lv_isub hx hb dX7_joins_13 ?_
      refine lv_topi (fun y_13 ey_13 => ?_)
      have xy_13 : y_13.toInt = (i 43).toInt - 1 := i_sub ey_13 f_0_1 (iR_c (n := 1) (a := 1) (b := 1) (by decide +kernel) (by decide +kernel)) (by decide +kernel)
      have f_13_4 : iR y_13 0 7 := iR_sub ey_13 f_0_1 (iR_c (n := 1) (a := 1) (b := 1) (by decide +kernel) (by decide +kernel)) (by decide +kernel)
      refine va_iald hx hb hK hP 3 0 rfl rfl (iR_vp f_13_4 (by decide +kernel)) dX7_joins_14 ?_
      have f_15_5 : iR (f42 y_13.toNatClampNeg) 0 47 := (by have rm := PX_room p0_0; have ei : y_13.toNatClampNeg = (i 43).toInt.toNat - 1 := (by have q0 := iR_cn f_13_4 (by decide +kernel); have q1 : 1 ≤ (i 43).toInt ∧ (i 43).toInt ≤ 8 := f_0_1; omega); rw [← ei] at rm; have q2 : 0 ≤ j0_M0_46.toInt ∧ j0_M0_46.toInt ≤ 47 := f_0_2; show 0 ≤ (f42 y_13.toNatClampNeg).toInt ∧ (f42 y_13.toNatClampNeg).toInt ≤ 47; omega)
      refine lv_icmp_le (tgt := 87) hx hb dX7_joins_15 (by decide) (fun c_15 => ?_) (fun c_15 => ?_)
      · have c_15 : j0_M0_46 ≤ (f42 y_13.toNatClampNeg) := c_15
        exact k_rv B hP hD hS dX7_joins_87 ((fun k9 => match k9 with | 0 => j0_M0_36 | 1 => j0_M0_44 | 2 => j0_M0_46 | _ => 0), (fun _ => 0), (fun k9 => match k9 with | 0 => j0_A1 | 1 => j0_A2 | _ => (fun _ => 0)), (fun _ => (fun _ => 0)), (fun _ => 0)) [0, 1, 2, 3, 4] rfl rfl (Nat.le_of_ble_eq_true rfl) (Nat.le_of_ble_eq_true rfl) ⟨(show iR j0_M0_36 0 1600 from hj0_M0_36), (show iR j0_M0_44 0 7 from f_0_3), (show iR j0_M0_46 0 47 from f_0_2), (show PX f38 f39 f40 f41 f42 f45 j0_A1 (i 43).toInt.toNat j0_M0_46.toInt.toNat j0_M0_44.toInt j0_M0_36.toInt.toNat (i 37).toInt.toNat (i 4).toInt 1 c0 Z0 from p0_0), (show (f42 ((i 43).toInt.toNat - 1)).toInt = j0_M0_46.toInt ∨ (1 ≤ j0_M0_46.toInt.toNat ∧ rkz (f45 (j0_M0_46.toInt.toNat - 1)).toInt < x1.toInt) from (Or.inl (by have rm := PX_room p0_0; have ei : y_13.toNatClampNeg = (i 43).toInt.toNat - 1 := (by have q0 := iR_cn f_13_4 (by decide +kernel); have q1 : 1 ≤ (i 43).toInt ∧ (i 43).toInt ≤ 8 := f_0_1; omega); rw [← ei] at rm ⊢; have r1 := i_ti_le rfl rfl c_15; have q2 : 0 ≤ j0_M0_46.toInt ∧ j0_M0_46.toInt ≤ 47 := f_0_2; omega))), (show FRw 1600 j0_A1 f32 (i 37).toInt.toNat from t0_fr32)⟩
      · have c_15 : (f42 y_13.toNatClampNeg) < j0_M0_46 := i_nle c_15
        have f_18_6 : iR (f42 y_13.toNatClampNeg) 0 46 := iR_ltL c_15 f_15_5 f_0_2 (by decide +kernel)
        have f_18_7 : iR j0_M0_46 1 47 := iR_ltR c_15 f_15_5 f_0_2 (by decide +kernel)
        refine lv_aload_n hx hb dX7_joins_18 rfl (lv_at hl 0 rfl) ?_
        refine k_get (D := (dC, dI)) (ci := 7) (v := .ref (r 45)) (C := RX7) (T := TX7) (N := 92) hx hb hts hinX7 hown hK hP 0 rfl rfl 45 (by decide) w_3 rfl rfl dX7_joins_19 ?_
        refine lv_aload_n hx hb dX7_joins_22 rfl (lv_at hl 0 rfl) ?_
        refine k_get (D := (dC, dI)) (ci := 7) (v := .int j0_M0_46) (C := RX7) (T := TX7) (N := 92) hx hb hts hinX7 hown hK hP 0 rfl rfl 46 (by decide) w_0 rfl rfl dX7_joins_23 ?_
        refine lv_iconst (v := 1) hx hb dX7_joins_26 (by decide +kernel) ?_
        refine lv_isub hx hb dX7_joins_27 ?_
        refine lv_topi (fun y_27 ey_27 => ?_)
        have xy_27 : y_27.toInt = j0_M0_46.toInt - 1 := i_sub ey_27 f_18_7 (iR_c (n := 1) (a := 1) (b := 1) (by decide +kernel) (by decide +kernel)) (by decide +kernel)
        have f_27_8 : iR y_27 0 46 := iR_sub ey_27 f_18_7 (iR_c (n := 1) (a := 1) (b := 1) (by decide +kernel) (by decide +kernel)) (by decide +kernel)
        refine va_iald hx hb hK hP 4 0 rfl rfl (iR_vp f_27_8 (by decide +kernel)) dX7_joins_28 ?_
        refine k_ci (wc := []) (wr := [(h, .inr (7, oM r (upd (upd (upd i 36 j0_M0_36) 44 j0_M0_44) 46 j0_M0_46) j)), ((r 32), .inl (cI, 3200, .inl j0_A1)), ((r 33), .inl (cI, 3200, .inl j0_A2)), ((r 42), .inl (cI, 20, .inl f42)), ((r 45), .inl (cI, 500, .inl f45))]) (fun hPc hDc hFc => va_runS (As := [.int (f45 y_27.toNatClampNeg)]) (rest := []) ⟨hx, hb, hml, hown, hts⟩ (s_X7_rank_v0 l dC dI cI cJ cZ cM (f45 y_27.toNatClampNeg) H.size) (va_cwS 1 hts gX7_joins_X7_rank rfl rfl rfl (by decide +kernel) ⟨(Nat.le_of_ble_eq_true rfl), (Nat.le_of_ble_eq_true rfl)⟩) (k_pS hPc hDc hK hN hC hS hFc) rfl rfl hl.1 rfl (lv_room (Nat.le_of_ble_eq_true rfl)) dX7_joins_29 ⟨(Nat.le_of_ble_eq_true rfl), (Nat.le_of_ble_eq_true rfl)⟩) hP hD hS hA [] [0, 1, 2, 3, 4] rfl rfl rfl rfl (by decide) (fun _ => rfl) 0 0 rfl rfl (fun r_29 u_29 H locs hw hP hD hS => ?_)
        obtain ⟨g_29_0, g_29_1⟩ := hw
        have hP : va_P (dC, dI) vwCl [(h, .inr (7, oM r (upd (upd (upd i 36 j0_M0_36) 44 j0_M0_44) 46 j0_M0_46) j)), ((r 32), .inl (cI, 3200, .inl j0_A1)), ((r 33), .inl (cI, 3200, .inl j0_A2)), ((r 42), .inl (cI, 20, .inl f42)), ((r 45), .inl (cI, 500, .inl f45))] H := hP
        have hD : va_D A [(h, .inr (7, oM r (upd (upd (upd i 36 j0_M0_36) 44 j0_M0_44) 46 j0_M0_46) j)), ((r 32), .inl (cI, 3200, .inl j0_A1)), ((r 33), .inl (cI, 3200, .inl j0_A2)), ((r 42), .inl (cI, 20, .inl f42)), ((r 45), .inl (cI, 500, .inl f45))] := hD
        have g_29_1 : r_29.toInt = rkz (f45 y_27.toNatClampNeg).toInt := g_29_1
        refine lv_iload_n hx hb dX7_joins_32 rfl (lv_at hl 1 rfl) ?_
        refine lv_icmp_lt (tgt := 87) hx hb dX7_joins_33 (by decide) (fun c_33 => ?_) (fun c_33 => ?_)
        · have c_33 : r_29 < x1 := c_33
          have f_87_9 : iR x1 2 2147483647 := iR_ltR c_33 g_29_0 (iR_top _) (by decide +kernel)
          exact k_rv B hP hD hS dX7_joins_87 ((fun k9 => match k9 with | 0 => j0_M0_36 | 1 => j0_M0_44 | 2 => j0_M0_46 | _ => 0), (fun _ => 0), (fun k9 => match k9 with | 0 => j0_A1 | 1 => j0_A2 | _ => (fun _ => 0)), (fun _ => (fun _ => 0)), (fun _ => 0)) [0, 1, 2, 3, 4] rfl rfl (Nat.le_of_ble_eq_true rfl) (Nat.le_of_ble_eq_true rfl) ⟨(show iR j0_M0_36 0 1600 from hj0_M0_36), (show iR j0_M0_44 0 7 from f_0_3), (show iR j0_M0_46 0 47 from (iR_w f_18_7 (by decide +kernel))), (show PX f38 f39 f40 f41 f42 f45 j0_A1 (i 43).toInt.toNat j0_M0_46.toInt.toNat j0_M0_44.toInt j0_M0_36.toInt.toNat (i 37).toInt.toNat (i 4).toInt 1 c0 Z0 from p0_0), (show (f42 ((i 43).toInt.toNat - 1)).toInt = j0_M0_46.toInt ∨ (1 ≤ j0_M0_46.toInt.toNat ∧ rkz (f45 (j0_M0_46.toInt.toNat - 1)).toInt < x1.toInt) from (Or.inr (by have ey : y_27.toNatClampNeg = j0_M0_46.toInt.toNat - 1 := (by have q0 := iR_cn f_27_8 (by decide +kernel); have q2 : 1 ≤ j0_M0_46.toInt ∧ j0_M0_46.toInt ≤ 47 := f_18_7; omega); rw [← ey, ← g_29_1]; have r1 := i_ti_lt rfl rfl c_33; have q2 : 1 ≤ j0_M0_46.toInt ∧ j0_M0_46.toInt ≤ 47 := f_18_7; omega))), (show FRw 1600 j0_A1 f32 (i 37).toInt.toNat from t0_fr32)⟩
        · have c_33 : x1 ≤ r_29 := i_nlt c_33
          have f_36_9 : iR x1 (-2147483648) 6 := iR_leL c_33 (iR_top _) g_29_0 (by decide +kernel)
          have f_36_10 : iR j0_M0_36 0 1599 := (by have rm := PX_room p0_0; have q2 : 1 ≤ j0_M0_46.toInt ∧ j0_M0_46.toInt ≤ 47 := f_18_7; have q4 : 0 ≤ j0_M0_36.toInt ∧ j0_M0_36.toInt ≤ 1600 := hj0_M0_36; show 0 ≤ j0_M0_36.toInt ∧ j0_M0_36.toInt ≤ 1599; omega)
          refine lv_aload_n hx hb dX7_joins_36 rfl (lv_at hl 0 rfl) ?_
          refine lv_dup hx hb dX7_joins_37 rfl ?_
          refine k_get (D := (dC, dI)) (ci := 7) (v := .int j0_M0_46) (C := RX7) (T := TX7) (N := 92) hx hb hts hinX7 hown hK hP 0 rfl rfl 46 (by decide) w_0 rfl rfl dX7_joins_38 ?_
          refine lv_iconst (v := 1) hx hb dX7_joins_41 (by decide +kernel) ?_
          refine lv_isub hx hb dX7_joins_42 ?_
          refine lv_topi (fun y_42 ey_42 => ?_)
          have xy_42 : y_42.toInt = j0_M0_46.toInt - 1 := i_sub ey_42 f_18_7 (iR_c (n := 1) (a := 1) (b := 1) (by decide +kernel) (by decide +kernel)) (by decide +kernel)
          have f_42_11 : iR y_42 0 46 := iR_sub ey_42 f_18_7 (iR_c (n := 1) (a := 1) (b := 1) (by decide +kernel) (by decide +kernel)) (by decide +kernel)
          refine k_put (D := (dC, dI)) (ci := 7) (v := .int y_42) (C := RX7) (T := TX7) (N := 92) (ws' := [(h, .inr (7, oM r (upd (upd (upd i 36 j0_M0_36) 44 j0_M0_44) 46 y_42) j)), ((r 32), .inl (cI, 3200, .inl j0_A1)), ((r 33), .inl (cI, 3200, .inl j0_A2)), ((r 42), .inl (cI, 20, .inl f42)), ((r 45), .inl (cI, 500, .inl f45))]) hx hb hts hinX7 tyX7 tyX7_ok nmX7 hown hK hP hD hS 0 rfl rfl 46 (by decide) w_0 rfl rfl rfl rfl (Nat.le_of_ble_eq_true rfl) rfl dX7_joins_43 (fun H locs hP hD hS => ?_)
          refine lv_aload_n hx hb dX7_joins_46 rfl (lv_at hl 0 rfl) ?_
          refine lv_aload_n hx hb dX7_joins_47 rfl (lv_at hl 0 rfl) ?_
          refine k_get (D := (dC, dI)) (ci := 7) (v := .ref (r 45)) (C := RX7) (T := TX7) (N := 92) hx hb hts hinX7 hown hK hP 0 rfl rfl 45 (by decide) w_3 rfl rfl dX7_joins_48 ?_
          refine lv_aload_n hx hb dX7_joins_51 rfl (lv_at hl 0 rfl) ?_
          refine k_get (D := (dC, dI)) (ci := 7) (v := .int y_42) (C := RX7) (T := TX7) (N := 92) hx hb hts hinX7 hown hK hP 0 rfl rfl 46 (by decide) w_0 rfl rfl dX7_joins_52 ?_
          refine va_iald hx hb hK hP 4 0 rfl rfl (iR_vp f_42_11 (by decide +kernel)) dX7_joins_55 ?_
          refine lv_iconst (v := 0) hx hb dX7_joins_56 (by decide +kernel) ?_
          refine k_cv (wc := [(h, .inr (7, oM r (upd (upd (upd i 36 j0_M0_36) 44 j0_M0_44) 46 y_42) j)), ((r 32), .inl (cI, 3200, .inl j0_A1)), ((r 33), .inl (cI, 3200, .inl j0_A2))]) (wr := [((r 42), .inl (cI, 20, .inl f42)), ((r 45), .inl (cI, 500, .inl f45))]) (fun hPc hDc hFc => va_runV (As := [.int (f45 y_42.toNatClampNeg), .int 0]) (rest := []) ⟨hx, hb, hml, hown, hts⟩ (s_X7_add_v0 l dC dI cI cJ cZ cM h r (upd (upd (upd i 36 j0_M0_36) 44 j0_M0_44) 46 y_42) j (f45 y_42.toNatClampNeg) 0 j0_A1 j0_A2 (show iR j0_M0_36 0 1599 from f_36_10) (mR_upd 46 (mR_upd 44 (mR_upd 36 hI (show iR _ (loI 36) (hiI 36) from (iR_w f_36_10 (by decide +kernel)))) (show iR _ (loI 44) (hiI 44) from f_0_3)) (show iR _ (loI 46) (hiI 46) from (iR_w f_42_11 (by decide +kernel)))) H.size) (cwV 2 hts gX7_joins_X7_add rfl rfl rfl (by decide +kernel) ⟨(Nat.le_of_ble_eq_true rfl), (Nat.le_of_ble_eq_true rfl)⟩) (k_pV hPc hDc hK hN hC hS hFc hP (q0 := 0) (ci := 7) rfl rfl) rfl rfl hl.1 rfl (lv_room (Nat.le_of_ble_eq_true rfl)) dX7_joins_57 ⟨(Nat.le_of_ble_eq_true rfl), (Nat.le_of_ble_eq_true rfl)⟩) hP hD hS hA [0, 1, 2] [3, 4] rfl rfl rfl rfl (by decide) (fun _ => rfl) 0 0 rfl rfl (fun u_57 H locs hw hP hD hS => ?_)
          obtain ⟨g_57_0, g_57_1, g_57_2, g_57_3⟩ := hw
          have hP : va_P (dC, dI) vwCl [((r 42), .inl (cI, 20, .inl f42)), ((r 45), .inl (cI, 500, .inl f45)), (h, .inr (7, oM r (upd (upd (upd i 36 (u_57.1 0)) 44 j0_M0_44) 46 y_42) j)), ((r 32), .inl (cI, 3200, .inl (u_57.2.2.1 0))), ((r 33), .inl (cI, 3200, .inl (u_57.2.2.1 1)))] H := hP
          have hD : va_D A [((r 42), .inl (cI, 20, .inl f42)), ((r 45), .inl (cI, 500, .inl f45)), (h, .inr (7, oM r (upd (upd (upd i 36 (u_57.1 0)) 44 j0_M0_44) 46 y_42) j)), ((r 32), .inl (cI, 3200, .inl (u_57.2.2.1 0))), ((r 33), .inl (cI, 3200, .inl (u_57.2.2.1 1)))] := hD
          have g_57_1 : (u_57.2.2.1 0) = upd j0_A1 (1600 * (i 37).toInt.toNat + j0_M0_36.toInt.toNat) (f45 y_42.toNatClampNeg) := g_57_1
          have g_57_2 : (u_57.1 0).toInt = j0_M0_36.toInt + 1 := g_57_2
          have g_57_3 : FRw 1600 (u_57.2.2.1 0) j0_A1 (i 37).toInt.toNat := g_57_3
          refine lv_aload_n hx hb dX7_joins_60 rfl (lv_at hl 0 rfl) ?_
          refine k_get (D := (dC, dI)) (ci := 7) (v := .ref (r 45)) (C := RX7) (T := TX7) (N := 92) hx hb hts hinX7 hown hK hP 2 rfl rfl 45 (by decide) w_3 rfl rfl dX7_joins_61 ?_
          refine lv_aload_n hx hb dX7_joins_64 rfl (lv_at hl 0 rfl) ?_
          refine k_get (D := (dC, dI)) (ci := 7) (v := .int y_42) (C := RX7) (T := TX7) (N := 92) hx hb hts hinX7 hown hK hP 2 rfl rfl 46 (by decide) w_0 rfl rfl dX7_joins_65 ?_
          refine va_iald hx hb hK hP 1 0 rfl rfl (iR_vp f_42_11 (by decide +kernel)) dX7_joins_68 ?_
          refine lv_bipush (v := 22) hx hb dX7_joins_69 (by decide +kernel) ?_
          refine lv_icmp_ne (tgt := 0) hx hb dX7_joins_71 (by decide) (fun c_71 => ?_) (fun c_71 => ?_)
          · have c_71 : ¬ (f45 y_42.toNatClampNeg) = 22 := c_71
            exact ih_0 (u_57.2.2.1 0) (u_57.2.2.1 1) (u_57.1 0) j0_M0_44 y_42 (iR_w g_57_0 (by decide +kernel)) (iR_w f_0_3 (by decide +kernel)) (iR_w f_42_11 (by decide +kernel)) (FRw_tr g_57_3 t0_fr32) (show PX f38 f39 f40 f41 f42 f45 (u_57.2.2.1 0) (i 43).toInt.toNat y_42.toInt.toNat j0_M0_44.toInt (u_57.1 0).toInt.toNat (i 37).toInt.toNat (i 4).toInt 1 c0 Z0 from (by have em : j0_M0_46.toInt.toNat = y_42.toInt.toNat + 1 := (by have q1 : 1 ≤ j0_M0_46.toInt ∧ j0_M0_46.toInt ≤ 47 := f_18_7; omega); have ei : y_13.toNatClampNeg = (i 43).toInt.toNat - 1 := (by have q0 := iR_cn f_13_4 (by decide +kernel); have q1 : 1 ≤ (i 43).toInt ∧ (i 43).toInt ≤ 8 := f_0_1; omega); have p0 := p0_0; rw [em] at p0; have ey : y_42.toNatClampNeg = y_42.toInt.toNat := (by have q0 := iR_cn f_42_11 (by decide +kernel); omega); have hb : (f42 ((i 43).toInt.toNat - 1)).toInt < ((y_42.toInt.toNat + 1 : Nat) : Int) := (by rw [← ei, ← em]; have r1 := i_ti_lt rfl rfl c_15; have q1 : 1 ≤ j0_M0_46.toInt ∧ j0_M0_46.toInt ≤ 47 := f_18_7; omega); have p := PX_pop (C' := (u_57.2.2.1 0)) p0 hb (by rw [← ey]; exact g_57_1); have ec : (u_57.1 0).toInt.toNat = j0_M0_36.toInt.toNat + 1 := (by have q4 : 0 ≤ j0_M0_36.toInt ∧ j0_M0_36.toInt ≤ 1599 := f_36_10; omega); rw [if_neg (by rw [← ey]; exact i_ti_ne rfl (by decide) c_71), Int.sub_zero] at p; rw [ec]; exact p)) (by have q1 : 0 ≤ y_42.toInt ∧ y_42.toInt ≤ 46 := f_42_11; have q2 : 1 ≤ j0_M0_46.toInt ∧ j0_M0_46.toInt ≤ 47 := f_18_7; have h9 := hm_0; omega) H locs ls (hP.sub [2, 3, 4, 0, 1] rfl) (hD.sub [2, 3, 4, 0, 1] (by decide +kernel) rfl) hS (lv_sub hl [0, 1] rfl)
          · have c_71 : (f45 y_42.toNatClampNeg) = 22 := c_71
            have f_74_12 : iR (f45 y_42.toNatClampNeg) 22 22 := iR_eqL c_71 (iR_top _) (iR_c (n := 22) (a := 22) (b := 22) (by decide +kernel) (by decide +kernel)) (by decide +kernel)
            refine lv_aload_n hx hb dX7_joins_74 rfl (lv_at hl 0 rfl) ?_
            refine lv_dup hx hb dX7_joins_75 rfl ?_
            refine k_get (D := (dC, dI)) (ci := 7) (v := .int j0_M0_44) (C := RX7) (T := TX7) (N := 92) hx hb hts hinX7 hown hK hP 2 rfl rfl 44 (by decide) w_4 rfl rfl dX7_joins_76 ?_
            refine lv_iconst (v := 1) hx hb dX7_joins_79 (by decide +kernel) ?_
            refine lv_isub hx hb dX7_joins_80 ?_
            refine lv_topi (fun y_80 ey_80 => ?_)
            have xy_80 : y_80.toInt = j0_M0_44.toInt - 1 := i_sub ey_80 f_0_3 (iR_c (n := 1) (a := 1) (b := 1) (by decide +kernel) (by decide +kernel)) (by decide +kernel)
            have f_80_13 : iR y_80 (-1) 6 := iR_sub ey_80 f_0_3 (iR_c (n := 1) (a := 1) (b := 1) (by decide +kernel) (by decide +kernel)) (by decide +kernel)
            refine k_put (D := (dC, dI)) (ci := 7) (v := .int y_80) (C := RX7) (T := TX7) (N := 92) (ws' := [((r 42), .inl (cI, 20, .inl f42)), ((r 45), .inl (cI, 500, .inl f45)), (h, .inr (7, oM r (upd (upd (upd i 36 (u_57.1 0)) 44 y_80) 46 y_42) j)), ((r 32), .inl (cI, 3200, .inl (u_57.2.2.1 0))), ((r 33), .inl (cI, 3200, .inl (u_57.2.2.1 1)))]) hx hb hts hinX7 tyX7 tyX7_ok nmX7 hown hK hP hD hS 2 rfl rfl 44 (by decide) w_4 rfl rfl rfl rfl (Nat.le_of_ble_eq_true rfl) rfl dX7_joins_81 (fun H locs hP hD hS => ?_)
            refine lv_goto (tgt := 0) hx hb dX7_joins_84 (by decide) ?_
            exact ih_0 (u_57.2.2.1 0) (u_57.2.2.1 1) (u_57.1 0) y_80 y_42 (iR_w g_57_0 (by decide +kernel)) (iR_w f_80_13 (by decide +kernel)) (iR_w f_42_11 (by decide +kernel)) (FRw_tr g_57_3 t0_fr32) (show PX f38 f39 f40 f41 f42 f45 (u_57.2.2.1 0) (i 43).toInt.toNat y_42.toInt.toNat y_80.toInt (u_57.1 0).toInt.toNat (i 37).toInt.toNat (i 4).toInt 1 c0 Z0 from (by have em : j0_M0_46.toInt.toNat = y_42.toInt.toNat + 1 := (by have q1 : 1 ≤ j0_M0_46.toInt ∧ j0_M0_46.toInt ≤ 47 := f_18_7; omega); have ei : y_13.toNatClampNeg = (i 43).toInt.toNat - 1 := (by have q0 := iR_cn f_13_4 (by decide +kernel); have q1 : 1 ≤ (i 43).toInt ∧ (i 43).toInt ≤ 8 := f_0_1; omega); have p0 := p0_0; rw [em] at p0; have ey : y_42.toNatClampNeg = y_42.toInt.toNat := (by have q0 := iR_cn f_42_11 (by decide +kernel); omega); have hb : (f42 ((i 43).toInt.toNat - 1)).toInt < ((y_42.toInt.toNat + 1 : Nat) : Int) := (by rw [← ei, ← em]; have r1 := i_ti_lt rfl rfl c_15; have q1 : 1 ≤ j0_M0_46.toInt ∧ j0_M0_46.toInt ≤ 47 := f_18_7; omega); have p := PX_pop (C' := (u_57.2.2.1 0)) p0 hb (by rw [← ey]; exact g_57_1); have ec : (u_57.1 0).toInt.toNat = j0_M0_36.toInt.toNat + 1 := (by have q4 : 0 ≤ j0_M0_36.toInt ∧ j0_M0_36.toInt ≤ 1599 := f_36_10; omega); rw [if_pos (by rw [← ey]; exact i_ti_eq rfl (by decide) c_71)] at p; rw [ec, xy_80]; exact p)) (by have q1 : 0 ≤ y_42.toInt ∧ y_42.toInt ≤ 46 := f_42_11; have q2 : 1 ≤ j0_M0_46.toInt ∧ j0_M0_46.toInt ≤ 47 := f_18_7; have h9 := hm_0; omega) H locs ls (hP.sub [2, 3, 4, 0, 1] rfl) (hD.sub [2, 3, 4, 0, 1] (by decide +kernel) rfl) hS (lv_sub hl [0, 1] rfl)
  exact J_0 _ f32 f33 (i 36) (i 44) (i 46) (show iR (i 36) 0 1600 from hI 36) (iR_w (show iR (i 44) 0 7 from hI 44) (by decide +kernel)) (show iR (i 46) 0 48 from hI 46) FRw_refl (show PX f38 f39 f40 f41 f42 f45 f32 (i 43).toInt.toNat (i 46).toInt.toNat (i 44).toInt (i 36).toInt.toNat (i 37).toInt.toNat (i 4).toInt 1 c0 Z0 from hpx) (Nat.lt_succ_self _) H locs ls hP hD hS (lv_sub hl [0, 1] rfl)
set_option maxHeartbeats 8000000 in
set_option maxRecDepth 100000 in
theorem s_X7_isSign_v16 (l : Launch) (dC : Nat → ClassId) (dI : Nat → Nat → Nat) (cI cJ cZ cM : ClassId) (h : Nat) (r : Nat → Nat) (i : Nat → Int32) (j : Nat → Int64) (hm3 : iR (i 3) 3 3) (hm6 : iR (i 6) 42 42) (hI : mR i) : k_Mi l yX7_isSign wsX7_isSign ({ frames := 1, cells := 0, slots := 0, locals := 40 }) (dC, dI) vwCl (tyy cI cJ cZ cM) [(h, .inr (7, oM r i j))] [.ref h, .int 42] 0 0 (fun (u9 : Unit) => [(h, .inr (7, oM r i j))]) (fun (r9 : Int32) (u9 : Unit) => (r9 = 1) ∧ ((r9 = 0) ∨ (((i 3) = 3) ∧ ((i 6) = 42)))) := by
  refine fun sz => k_enter (cc := cX7_isSign) (maxL := 2) (ret := some (.boolean)) (Qc := fun A => va_Qi (fun (r9 : Int32) (u9 : Unit) => (r9 = 1) ∧ ((r9 = 0) ∨ (((i 3) = 3) ∧ ((i 6) = 42)))) (fun u => k_B (dC, dI) vwCl (tyy cI cJ cZ cM) A ((fun (u9 : Unit) => [(h, .inr (7, oM r i j))]) u)) A) sz (by decide +kernel) rfl (Nat.le_of_ble_eq_true rfl) (fun p e s m args below meth c A ls H locs B hP hD hS hl => ?_)
  obtain ⟨hx, hb, hml, hown, hts, hr, hlk, hnm, hK, hA, hN, hC⟩ := id B
  have hown : s.vm.findClass RX7 = some m.cls := hown
  have hl : lv_has ls 2 [(0, .ref h), (1, .int 42)] := hl
  have w_0 : (Cond.fieldLink RX7 20 "WishSeaModel" "sign" "I").before args s = true := hts _ (List.mem_of_getElem? (i := 1) rfl)
  have w_1 : (Cond.fieldLink RX7 29 "WishSeaModel" "value" "I").before args s = true := hts _ (List.mem_of_getElem? (i := 2) rfl)
  have hinX7 : ∀ w ∈ u_ws RX7 TX7 92, w ∈ wsX7_isSign := fun _ h => List.mem_cons_of_mem _ (List.mem_append_right _ h)
  refine lv_aload_n hx hb dX7_isSign_0 rfl (lv_at hl 0 rfl) ?_
  refine k_get (D := (dC, dI)) (ci := 7) (v := .int (i 3)) (C := RX7) (T := TX7) (N := 92) hx hb hts hinX7 hown hK hP 0 rfl rfl 3 (by decide) w_0 rfl rfl dX7_isSign_1 ?_
  refine lv_iconst (v := 3) hx hb dX7_isSign_4 (by decide +kernel) ?_
  refine lv_icmp_ne (tgt := 20) hx hb dX7_isSign_5 (by decide) (fun c_5 => ?_) (fun c_5 => ?_)
  · exact absurd (i_eqc hm3 (iR_c (n := 3) (a := 3) (b := 3) (by decide +kernel) (by decide +kernel))) c_5
  · have c_5 : (i 3) = 3 := c_5
    refine lv_aload_n hx hb dX7_isSign_8 rfl (lv_at hl 0 rfl) ?_
    refine k_get (D := (dC, dI)) (ci := 7) (v := .int (i 6)) (C := RX7) (T := TX7) (N := 92) hx hb hts hinX7 hown hK hP 0 rfl rfl 6 (by decide) w_1 rfl rfl dX7_isSign_9 ?_
    refine lv_iload_n hx hb dX7_isSign_12 rfl (lv_at hl 1 rfl) ?_
    refine lv_icmp_ne (tgt := 20) hx hb dX7_isSign_13 (by decide) (fun c_13 => ?_) (fun c_13 => ?_)
    · exact absurd (i_eqc hm6 (iR_c (n := 42) (a := 42) (b := 42) (by decide +kernel) (by decide +kernel))) c_13
    · have c_13 : (i 6) = 42 := c_13
      refine lv_iconst (v := 1) hx hb dX7_isSign_16 (by decide +kernel) ?_
      refine lv_goto (tgt := 21) hx hb dX7_isSign_17 (by decide) ?_
      exact k_ri B hP hD hS dX7_isSign_21 () [0] rfl rfl rfl (Nat.le_of_ble_eq_true rfl) (Nat.le_of_ble_eq_true rfl) ⟨rfl, (show (1 = 0) ∨ (((i 3) = 3) ∧ ((i 6) = 42)) from (Or.inr ⟨c_5, c_13⟩))⟩
set_option maxHeartbeats 8000000 in
set_option maxRecDepth 100000 in
theorem s_X7_isSign_v17 (l : Launch) (dC : Nat → ClassId) (dI : Nat → Nat → Nat) (cI cJ cZ cM : ClassId) (h : Nat) (r : Nat → Nat) (i : Nat → Int32) (j : Nat → Int64) (hm3 : iR (i 3) 3 3) (hm6 : iR (i 6) 47 47) (hI : mR i) : k_Mi l yX7_isSign wsX7_isSign ({ frames := 1, cells := 0, slots := 0, locals := 40 }) (dC, dI) vwCl (tyy cI cJ cZ cM) [(h, .inr (7, oM r i j))] [.ref h, .int 42] 0 0 (fun (u9 : Unit) => [(h, .inr (7, oM r i j))]) (fun (r9 : Int32) (u9 : Unit) => (r9 = 0)) := by
  refine fun sz => k_enter (cc := cX7_isSign) (maxL := 2) (ret := some (.boolean)) (Qc := fun A => va_Qi (fun (r9 : Int32) (u9 : Unit) => (r9 = 0)) (fun u => k_B (dC, dI) vwCl (tyy cI cJ cZ cM) A ((fun (u9 : Unit) => [(h, .inr (7, oM r i j))]) u)) A) sz (by decide +kernel) rfl (Nat.le_of_ble_eq_true rfl) (fun p e s m args below meth c A ls H locs B hP hD hS hl => ?_)
  obtain ⟨hx, hb, hml, hown, hts, hr, hlk, hnm, hK, hA, hN, hC⟩ := id B
  have hown : s.vm.findClass RX7 = some m.cls := hown
  have hl : lv_has ls 2 [(0, .ref h), (1, .int 42)] := hl
  have w_0 : (Cond.fieldLink RX7 20 "WishSeaModel" "sign" "I").before args s = true := hts _ (List.mem_of_getElem? (i := 1) rfl)
  have w_1 : (Cond.fieldLink RX7 29 "WishSeaModel" "value" "I").before args s = true := hts _ (List.mem_of_getElem? (i := 2) rfl)
  have hinX7 : ∀ w ∈ u_ws RX7 TX7 92, w ∈ wsX7_isSign := fun _ h => List.mem_cons_of_mem _ (List.mem_append_right _ h)
  refine lv_aload_n hx hb dX7_isSign_0 rfl (lv_at hl 0 rfl) ?_
  refine k_get (D := (dC, dI)) (ci := 7) (v := .int (i 3)) (C := RX7) (T := TX7) (N := 92) hx hb hts hinX7 hown hK hP 0 rfl rfl 3 (by decide) w_0 rfl rfl dX7_isSign_1 ?_
  refine lv_iconst (v := 3) hx hb dX7_isSign_4 (by decide +kernel) ?_
  have J_20 : ∀  (q20_0 : (i 3) = 3) (q20_1 : ¬ (i 6) = 42) (q20_2 : 3 = (i 3)) (H : Heap) (locs : List Loc) (ls : Array Slot), va_P (dC, dI) vwCl [(h, .inr (7, oM r i j))] H → va_D A [(h, .inr (7, oM r i j))] → va_S A s.heap H locs → lv_has ls 2 [] → W p l e ({ frames := 1, cells := 0, slots := 0, locals := 40 }) s m args below meth c H locs 0 0 (MQ below (va_Qi (fun (r9 : Int32) (u9 : Unit) => (r9 = 0)) (fun u => k_B (dC, dI) vwCl (tyy cI cJ cZ cM) A ((fun (u9 : Unit) => [(h, .inr (7, oM r i j))]) u)) A) args s 0 0 A) (F0 m 20 ls []) := by
    intro  q20_0 q20_1 q20_2 H locs ls hP hD hS hl
    refine lv_iconst (v := 0) hx hb dX7_isSign_20 (by decide +kernel) ?_
    exact k_ri B hP hD hS dX7_isSign_21 () [0] rfl rfl rfl (Nat.le_of_ble_eq_true rfl) (Nat.le_of_ble_eq_true rfl) rfl
  refine lv_icmp_ne (tgt := 20) hx hb dX7_isSign_5 (by decide) (fun c_5 => ?_) (fun c_5 => ?_)
  · exact absurd (i_eqc hm3 (iR_c (n := 3) (a := 3) (b := 3) (by decide +kernel) (by decide +kernel))) c_5
  · have c_5 : (i 3) = 3 := c_5
    refine lv_aload_n hx hb dX7_isSign_8 rfl (lv_at hl 0 rfl) ?_
    refine k_get (D := (dC, dI)) (ci := 7) (v := .int (i 6)) (C := RX7) (T := TX7) (N := 92) hx hb hts hinX7 hown hK hP 0 rfl rfl 6 (by decide) w_1 rfl rfl dX7_isSign_9 ?_
    refine lv_iload_n hx hb dX7_isSign_12 rfl (lv_at hl 1 rfl) ?_
    refine lv_icmp_ne (tgt := 20) hx hb dX7_isSign_13 (by decide) (fun c_13 => ?_) (fun c_13 => ?_)
    · have c_13 : ¬ (i 6) = 42 := c_13
      exact J_20  c_5 c_13 c_5.symm H locs ls hP hD hS (lv_sub hl [] rfl)
    · exact iR_cl (iR_eqL (a' := 47) (b' := 42) c_13 hm6 (iR_c (n := 42) (a := 42) (b := 42) (by decide +kernel) (by decide +kernel)) (by decide +kernel)) (by decide +kernel)
set_option maxHeartbeats 8000000 in
set_option maxRecDepth 100000 in
theorem s_X7_isSign_v18 (l : Launch) (dC : Nat → ClassId) (dI : Nat → Nat → Nat) (cI cJ cZ cM : ClassId) (h : Nat) (r : Nat → Nat) (i : Nat → Int32) (j : Nat → Int64) (hm3 : iR (i 3) 3 3) (hm6 : iR (i 6) 47 47) (hI : mR i) : k_Mi l yX7_isSign wsX7_isSign ({ frames := 1, cells := 0, slots := 0, locals := 40 }) (dC, dI) vwCl (tyy cI cJ cZ cM) [(h, .inr (7, oM r i j))] [.ref h, .int 47] 0 0 (fun (u9 : Unit) => [(h, .inr (7, oM r i j))]) (fun (r9 : Int32) (u9 : Unit) => (r9 = 1) ∧ ((r9 = 0) ∨ (((i 3) = 3) ∧ ((i 6) = 47)))) := by
  refine fun sz => k_enter (cc := cX7_isSign) (maxL := 2) (ret := some (.boolean)) (Qc := fun A => va_Qi (fun (r9 : Int32) (u9 : Unit) => (r9 = 1) ∧ ((r9 = 0) ∨ (((i 3) = 3) ∧ ((i 6) = 47)))) (fun u => k_B (dC, dI) vwCl (tyy cI cJ cZ cM) A ((fun (u9 : Unit) => [(h, .inr (7, oM r i j))]) u)) A) sz (by decide +kernel) rfl (Nat.le_of_ble_eq_true rfl) (fun p e s m args below meth c A ls H locs B hP hD hS hl => ?_)
  obtain ⟨hx, hb, hml, hown, hts, hr, hlk, hnm, hK, hA, hN, hC⟩ := id B
  have hown : s.vm.findClass RX7 = some m.cls := hown
  have hl : lv_has ls 2 [(0, .ref h), (1, .int 47)] := hl
  have w_0 : (Cond.fieldLink RX7 20 "WishSeaModel" "sign" "I").before args s = true := hts _ (List.mem_of_getElem? (i := 1) rfl)
  have w_1 : (Cond.fieldLink RX7 29 "WishSeaModel" "value" "I").before args s = true := hts _ (List.mem_of_getElem? (i := 2) rfl)
  have hinX7 : ∀ w ∈ u_ws RX7 TX7 92, w ∈ wsX7_isSign := fun _ h => List.mem_cons_of_mem _ (List.mem_append_right _ h)
  refine lv_aload_n hx hb dX7_isSign_0 rfl (lv_at hl 0 rfl) ?_
  refine k_get (D := (dC, dI)) (ci := 7) (v := .int (i 3)) (C := RX7) (T := TX7) (N := 92) hx hb hts hinX7 hown hK hP 0 rfl rfl 3 (by decide) w_0 rfl rfl dX7_isSign_1 ?_
  refine lv_iconst (v := 3) hx hb dX7_isSign_4 (by decide +kernel) ?_
  refine lv_icmp_ne (tgt := 20) hx hb dX7_isSign_5 (by decide) (fun c_5 => ?_) (fun c_5 => ?_)
  · exact absurd (i_eqc hm3 (iR_c (n := 3) (a := 3) (b := 3) (by decide +kernel) (by decide +kernel))) c_5
  · have c_5 : (i 3) = 3 := c_5
    refine lv_aload_n hx hb dX7_isSign_8 rfl (lv_at hl 0 rfl) ?_
    refine k_get (D := (dC, dI)) (ci := 7) (v := .int (i 6)) (C := RX7) (T := TX7) (N := 92) hx hb hts hinX7 hown hK hP 0 rfl rfl 6 (by decide) w_1 rfl rfl dX7_isSign_9 ?_
    refine lv_iload_n hx hb dX7_isSign_12 rfl (lv_at hl 1 rfl) ?_
    refine lv_icmp_ne (tgt := 20) hx hb dX7_isSign_13 (by decide) (fun c_13 => ?_) (fun c_13 => ?_)
    · exact absurd (i_eqc hm6 (iR_c (n := 47) (a := 47) (b := 47) (by decide +kernel) (by decide +kernel))) c_13
    · have c_13 : (i 6) = 47 := c_13
      refine lv_iconst (v := 1) hx hb dX7_isSign_16 (by decide +kernel) ?_
      refine lv_goto (tgt := 21) hx hb dX7_isSign_17 (by decide) ?_
      exact k_ri B hP hD hS dX7_isSign_21 () [0] rfl rfl rfl (Nat.le_of_ble_eq_true rfl) (Nat.le_of_ble_eq_true rfl) ⟨rfl, (show (1 = 0) ∨ (((i 3) = 3) ∧ ((i 6) = 47)) from (Or.inr ⟨c_5, c_13⟩))⟩
set_option maxHeartbeats 8000000 in
set_option maxRecDepth 100000 in
theorem s_X7_isSign_v19 (l : Launch) (dC : Nat → ClassId) (dI : Nat → Nat → Nat) (cI cJ cZ cM : ClassId) (h : Nat) (r : Nat → Nat) (i : Nat → Int32) (j : Nat → Int64) (hm3 : iR (i 3) 3 3) (hm6 : iR (i 6) 37 37) (hI : mR i) : k_Mi l yX7_isSign wsX7_isSign ({ frames := 1, cells := 0, slots := 0, locals := 40 }) (dC, dI) vwCl (tyy cI cJ cZ cM) [(h, .inr (7, oM r i j))] [.ref h, .int 42] 0 0 (fun (u9 : Unit) => [(h, .inr (7, oM r i j))]) (fun (r9 : Int32) (u9 : Unit) => (r9 = 0)) := by
  refine fun sz => k_enter (cc := cX7_isSign) (maxL := 2) (ret := some (.boolean)) (Qc := fun A => va_Qi (fun (r9 : Int32) (u9 : Unit) => (r9 = 0)) (fun u => k_B (dC, dI) vwCl (tyy cI cJ cZ cM) A ((fun (u9 : Unit) => [(h, .inr (7, oM r i j))]) u)) A) sz (by decide +kernel) rfl (Nat.le_of_ble_eq_true rfl) (fun p e s m args below meth c A ls H locs B hP hD hS hl => ?_)
  obtain ⟨hx, hb, hml, hown, hts, hr, hlk, hnm, hK, hA, hN, hC⟩ := id B
  have hown : s.vm.findClass RX7 = some m.cls := hown
  have hl : lv_has ls 2 [(0, .ref h), (1, .int 42)] := hl
  have w_0 : (Cond.fieldLink RX7 20 "WishSeaModel" "sign" "I").before args s = true := hts _ (List.mem_of_getElem? (i := 1) rfl)
  have w_1 : (Cond.fieldLink RX7 29 "WishSeaModel" "value" "I").before args s = true := hts _ (List.mem_of_getElem? (i := 2) rfl)
  have hinX7 : ∀ w ∈ u_ws RX7 TX7 92, w ∈ wsX7_isSign := fun _ h => List.mem_cons_of_mem _ (List.mem_append_right _ h)
  refine lv_aload_n hx hb dX7_isSign_0 rfl (lv_at hl 0 rfl) ?_
  refine k_get (D := (dC, dI)) (ci := 7) (v := .int (i 3)) (C := RX7) (T := TX7) (N := 92) hx hb hts hinX7 hown hK hP 0 rfl rfl 3 (by decide) w_0 rfl rfl dX7_isSign_1 ?_
  refine lv_iconst (v := 3) hx hb dX7_isSign_4 (by decide +kernel) ?_
  have J_20 : ∀  (q20_0 : (i 3) = 3) (q20_1 : ¬ (i 6) = 42) (q20_2 : 3 = (i 3)) (H : Heap) (locs : List Loc) (ls : Array Slot), va_P (dC, dI) vwCl [(h, .inr (7, oM r i j))] H → va_D A [(h, .inr (7, oM r i j))] → va_S A s.heap H locs → lv_has ls 2 [] → W p l e ({ frames := 1, cells := 0, slots := 0, locals := 40 }) s m args below meth c H locs 0 0 (MQ below (va_Qi (fun (r9 : Int32) (u9 : Unit) => (r9 = 0)) (fun u => k_B (dC, dI) vwCl (tyy cI cJ cZ cM) A ((fun (u9 : Unit) => [(h, .inr (7, oM r i j))]) u)) A) args s 0 0 A) (F0 m 20 ls []) := by
    intro  q20_0 q20_1 q20_2 H locs ls hP hD hS hl
    refine lv_iconst (v := 0) hx hb dX7_isSign_20 (by decide +kernel) ?_
    exact k_ri B hP hD hS dX7_isSign_21 () [0] rfl rfl rfl (Nat.le_of_ble_eq_true rfl) (Nat.le_of_ble_eq_true rfl) rfl
  refine lv_icmp_ne (tgt := 20) hx hb dX7_isSign_5 (by decide) (fun c_5 => ?_) (fun c_5 => ?_)
  · exact absurd (i_eqc hm3 (iR_c (n := 3) (a := 3) (b := 3) (by decide +kernel) (by decide +kernel))) c_5
  · have c_5 : (i 3) = 3 := c_5
    refine lv_aload_n hx hb dX7_isSign_8 rfl (lv_at hl 0 rfl) ?_
    refine k_get (D := (dC, dI)) (ci := 7) (v := .int (i 6)) (C := RX7) (T := TX7) (N := 92) hx hb hts hinX7 hown hK hP 0 rfl rfl 6 (by decide) w_1 rfl rfl dX7_isSign_9 ?_
    refine lv_iload_n hx hb dX7_isSign_12 rfl (lv_at hl 1 rfl) ?_
    refine lv_icmp_ne (tgt := 20) hx hb dX7_isSign_13 (by decide) (fun c_13 => ?_) (fun c_13 => ?_)
    · have c_13 : ¬ (i 6) = 42 := c_13
      exact J_20  c_5 c_13 c_5.symm H locs ls hP hD hS (lv_sub hl [] rfl)
    · exact iR_cl (iR_eqL (a' := 42) (b' := 37) c_13 hm6 (iR_c (n := 42) (a := 42) (b := 42) (by decide +kernel) (by decide +kernel)) (by decide +kernel)) (by decide +kernel)
set_option maxHeartbeats 8000000 in
set_option maxRecDepth 100000 in
theorem s_X7_isSign_v20 (l : Launch) (dC : Nat → ClassId) (dI : Nat → Nat → Nat) (cI cJ cZ cM : ClassId) (h : Nat) (r : Nat → Nat) (i : Nat → Int32) (j : Nat → Int64) (hm3 : iR (i 3) 3 3) (hm6 : iR (i 6) 37 37) (hI : mR i) : k_Mi l yX7_isSign wsX7_isSign ({ frames := 1, cells := 0, slots := 0, locals := 40 }) (dC, dI) vwCl (tyy cI cJ cZ cM) [(h, .inr (7, oM r i j))] [.ref h, .int 47] 0 0 (fun (u9 : Unit) => [(h, .inr (7, oM r i j))]) (fun (r9 : Int32) (u9 : Unit) => (r9 = 0)) := by
  refine fun sz => k_enter (cc := cX7_isSign) (maxL := 2) (ret := some (.boolean)) (Qc := fun A => va_Qi (fun (r9 : Int32) (u9 : Unit) => (r9 = 0)) (fun u => k_B (dC, dI) vwCl (tyy cI cJ cZ cM) A ((fun (u9 : Unit) => [(h, .inr (7, oM r i j))]) u)) A) sz (by decide +kernel) rfl (Nat.le_of_ble_eq_true rfl) (fun p e s m args below meth c A ls H locs B hP hD hS hl => ?_)
  obtain ⟨hx, hb, hml, hown, hts, hr, hlk, hnm, hK, hA, hN, hC⟩ := id B
  have hown : s.vm.findClass RX7 = some m.cls := hown
  have hl : lv_has ls 2 [(0, .ref h), (1, .int 47)] := hl
  have w_0 : (Cond.fieldLink RX7 20 "WishSeaModel" "sign" "I").before args s = true := hts _ (List.mem_of_getElem? (i := 1) rfl)
  have w_1 : (Cond.fieldLink RX7 29 "WishSeaModel" "value" "I").before args s = true := hts _ (List.mem_of_getElem? (i := 2) rfl)
  have hinX7 : ∀ w ∈ u_ws RX7 TX7 92, w ∈ wsX7_isSign := fun _ h => List.mem_cons_of_mem _ (List.mem_append_right _ h)
  refine lv_aload_n hx hb dX7_isSign_0 rfl (lv_at hl 0 rfl) ?_
  refine k_get (D := (dC, dI)) (ci := 7) (v := .int (i 3)) (C := RX7) (T := TX7) (N := 92) hx hb hts hinX7 hown hK hP 0 rfl rfl 3 (by decide) w_0 rfl rfl dX7_isSign_1 ?_
  refine lv_iconst (v := 3) hx hb dX7_isSign_4 (by decide +kernel) ?_
  have J_20 : ∀  (q20_0 : (i 3) = 3) (q20_1 : ¬ (i 6) = 47) (q20_2 : 3 = (i 3)) (H : Heap) (locs : List Loc) (ls : Array Slot), va_P (dC, dI) vwCl [(h, .inr (7, oM r i j))] H → va_D A [(h, .inr (7, oM r i j))] → va_S A s.heap H locs → lv_has ls 2 [] → W p l e ({ frames := 1, cells := 0, slots := 0, locals := 40 }) s m args below meth c H locs 0 0 (MQ below (va_Qi (fun (r9 : Int32) (u9 : Unit) => (r9 = 0)) (fun u => k_B (dC, dI) vwCl (tyy cI cJ cZ cM) A ((fun (u9 : Unit) => [(h, .inr (7, oM r i j))]) u)) A) args s 0 0 A) (F0 m 20 ls []) := by
    intro  q20_0 q20_1 q20_2 H locs ls hP hD hS hl
    refine lv_iconst (v := 0) hx hb dX7_isSign_20 (by decide +kernel) ?_
    exact k_ri B hP hD hS dX7_isSign_21 () [0] rfl rfl rfl (Nat.le_of_ble_eq_true rfl) (Nat.le_of_ble_eq_true rfl) rfl
  refine lv_icmp_ne (tgt := 20) hx hb dX7_isSign_5 (by decide) (fun c_5 => ?_) (fun c_5 => ?_)
  · exact absurd (i_eqc hm3 (iR_c (n := 3) (a := 3) (b := 3) (by decide +kernel) (by decide +kernel))) c_5
  · have c_5 : (i 3) = 3 := c_5
    refine lv_aload_n hx hb dX7_isSign_8 rfl (lv_at hl 0 rfl) ?_
    refine k_get (D := (dC, dI)) (ci := 7) (v := .int (i 6)) (C := RX7) (T := TX7) (N := 92) hx hb hts hinX7 hown hK hP 0 rfl rfl 6 (by decide) w_1 rfl rfl dX7_isSign_9 ?_
    refine lv_iload_n hx hb dX7_isSign_12 rfl (lv_at hl 1 rfl) ?_
    refine lv_icmp_ne (tgt := 20) hx hb dX7_isSign_13 (by decide) (fun c_13 => ?_) (fun c_13 => ?_)
    · have c_13 : ¬ (i 6) = 47 := c_13
      exact J_20  c_5 c_13 c_5.symm H locs ls hP hD hS (lv_sub hl [] rfl)
    · exact iR_cl (iR_eqL (a' := 47) (b' := 37) c_13 hm6 (iR_c (n := 47) (a := 47) (b := 47) (by decide +kernel) (by decide +kernel)) (by decide +kernel)) (by decide +kernel)
set_option maxHeartbeats 8000000 in
set_option maxRecDepth 100000 in
theorem s_X7_isSign_v21 (l : Launch) (dC : Nat → ClassId) (dI : Nat → Nat → Nat) (cI cJ cZ cM : ClassId) (h : Nat) (r : Nat → Nat) (i : Nat → Int32) (j : Nat → Int64) (hm3 : iR (i 3) 0 3) (hm6 : iR (i 6) 0 9999) (hI : mR i) : k_Mi l yX7_isSign wsX7_isSign ({ frames := 1, cells := 0, slots := 0, locals := 40 }) (dC, dI) vwCl (tyy cI cJ cZ cM) [(h, .inr (7, oM r i j))] [.ref h, .int 60] 0 0 (fun (u9 : Unit) => [(h, .inr (7, oM r i j))]) (fun (r9 : Int32) (u9 : Unit) => (iR r9 0 1) ∧ ((r9 = 0) ∨ (((i 3) = 3) ∧ ((i 6) = 60)))) := by
  refine fun sz => k_enter (cc := cX7_isSign) (maxL := 2) (ret := some (.boolean)) (Qc := fun A => va_Qi (fun (r9 : Int32) (u9 : Unit) => (iR r9 0 1) ∧ ((r9 = 0) ∨ (((i 3) = 3) ∧ ((i 6) = 60)))) (fun u => k_B (dC, dI) vwCl (tyy cI cJ cZ cM) A ((fun (u9 : Unit) => [(h, .inr (7, oM r i j))]) u)) A) sz (by decide +kernel) rfl (Nat.le_of_ble_eq_true rfl) (fun p e s m args below meth c A ls H locs B hP hD hS hl => ?_)
  obtain ⟨hx, hb, hml, hown, hts, hr, hlk, hnm, hK, hA, hN, hC⟩ := id B
  have hown : s.vm.findClass RX7 = some m.cls := hown
  have hl : lv_has ls 2 [(0, .ref h), (1, .int 60)] := hl
  have w_0 : (Cond.fieldLink RX7 20 "WishSeaModel" "sign" "I").before args s = true := hts _ (List.mem_of_getElem? (i := 1) rfl)
  have w_1 : (Cond.fieldLink RX7 29 "WishSeaModel" "value" "I").before args s = true := hts _ (List.mem_of_getElem? (i := 2) rfl)
  have hinX7 : ∀ w ∈ u_ws RX7 TX7 92, w ∈ wsX7_isSign := fun _ h => List.mem_cons_of_mem _ (List.mem_append_right _ h)
  refine lv_aload_n hx hb dX7_isSign_0 rfl (lv_at hl 0 rfl) ?_
  refine k_get (D := (dC, dI)) (ci := 7) (v := .int (i 3)) (C := RX7) (T := TX7) (N := 92) hx hb hts hinX7 hown hK hP 0 rfl rfl 3 (by decide) w_0 rfl rfl dX7_isSign_1 ?_
  refine lv_iconst (v := 3) hx hb dX7_isSign_4 (by decide +kernel) ?_
  have J_20 : ∀   (H : Heap) (locs : List Loc) (ls : Array Slot), va_P (dC, dI) vwCl [(h, .inr (7, oM r i j))] H → va_D A [(h, .inr (7, oM r i j))] → va_S A s.heap H locs → lv_has ls 2 [] → W p l e ({ frames := 1, cells := 0, slots := 0, locals := 40 }) s m args below meth c H locs 0 0 (MQ below (va_Qi (fun (r9 : Int32) (u9 : Unit) => (iR r9 0 1) ∧ ((r9 = 0) ∨ (((i 3) = 3) ∧ ((i 6) = 60)))) (fun u => k_B (dC, dI) vwCl (tyy cI cJ cZ cM) A ((fun (u9 : Unit) => [(h, .inr (7, oM r i j))]) u)) A) args s 0 0 A) (F0 m 20 ls []) := by
    intro   H locs ls hP hD hS hl
    refine lv_iconst (v := 0) hx hb dX7_isSign_20 (by decide +kernel) ?_
    exact k_ri B hP hD hS dX7_isSign_21 () [0] rfl rfl rfl (Nat.le_of_ble_eq_true rfl) (Nat.le_of_ble_eq_true rfl) ⟨(show iR 0 0 1 from (iR_c (n := 0) (a := 0) (b := 1) (by decide +kernel) (by decide +kernel))), (show (0 = 0) ∨ (((i 3) = 3) ∧ ((i 6) = 60)) from (Or.inl rfl))⟩
  refine lv_icmp_ne (tgt := 20) hx hb dX7_isSign_5 (by decide) (fun c_5 => ?_) (fun c_5 => ?_)
  · have c_5 : ¬ (i 3) = 3 := c_5
    have f_20_1 : iR (i 3) 0 2 := iR_neL c_5 hm3 (iR_c (n := 3) (a := 3) (b := 3) (by decide +kernel) (by decide +kernel)) (by decide +kernel)
    exact J_20   H locs ls hP hD hS (lv_sub hl [] rfl)
  · have c_5 : (i 3) = 3 := c_5
    have f_8_1 : iR (i 3) 3 3 := iR_eqL c_5 hm3 (iR_c (n := 3) (a := 3) (b := 3) (by decide +kernel) (by decide +kernel)) (by decide +kernel)
    refine lv_aload_n hx hb dX7_isSign_8 rfl (lv_at hl 0 rfl) ?_
    refine k_get (D := (dC, dI)) (ci := 7) (v := .int (i 6)) (C := RX7) (T := TX7) (N := 92) hx hb hts hinX7 hown hK hP 0 rfl rfl 6 (by decide) w_1 rfl rfl dX7_isSign_9 ?_
    refine lv_iload_n hx hb dX7_isSign_12 rfl (lv_at hl 1 rfl) ?_
    refine lv_icmp_ne (tgt := 20) hx hb dX7_isSign_13 (by decide) (fun c_13 => ?_) (fun c_13 => ?_)
    · have c_13 : ¬ (i 6) = 60 := c_13
      exact J_20   H locs ls hP hD hS (lv_sub hl [] rfl)
    · have c_13 : (i 6) = 60 := c_13
      have f_16_2 : iR (i 6) 60 60 := iR_eqL c_13 hm6 (iR_c (n := 60) (a := 60) (b := 60) (by decide +kernel) (by decide +kernel)) (by decide +kernel)
      refine lv_iconst (v := 1) hx hb dX7_isSign_16 (by decide +kernel) ?_
      refine lv_goto (tgt := 21) hx hb dX7_isSign_17 (by decide) ?_
      exact k_ri B hP hD hS dX7_isSign_21 () [0] rfl rfl rfl (Nat.le_of_ble_eq_true rfl) (Nat.le_of_ble_eq_true rfl) ⟨(show iR 1 0 1 from (iR_c (n := 1) (a := 0) (b := 1) (by decide +kernel) (by decide +kernel))), (show (1 = 0) ∨ (((i 3) = 3) ∧ ((i 6) = 60)) from (Or.inr ⟨c_5, c_13⟩))⟩
set_option maxHeartbeats 8000000 in
set_option maxRecDepth 100000 in
theorem s_X7_isSign_v22 (l : Launch) (dC : Nat → ClassId) (dI : Nat → Nat → Nat) (cI cJ cZ cM : ClassId) (h : Nat) (r : Nat → Nat) (i : Nat → Int32) (j : Nat → Int64) (hm3 : iR (i 3) 0 3) (hm6 : iR (i 6) 0 9999) (hI : mR i) : k_Mi l yX7_isSign wsX7_isSign ({ frames := 1, cells := 0, slots := 0, locals := 40 }) (dC, dI) vwCl (tyy cI cJ cZ cM) [(h, .inr (7, oM r i j))] [.ref h, .int 62] 0 0 (fun (u9 : Unit) => [(h, .inr (7, oM r i j))]) (fun (r9 : Int32) (u9 : Unit) => (iR r9 0 1) ∧ ((r9 = 0) ∨ (((i 3) = 3) ∧ ((i 6) = 62)))) := by
  refine fun sz => k_enter (cc := cX7_isSign) (maxL := 2) (ret := some (.boolean)) (Qc := fun A => va_Qi (fun (r9 : Int32) (u9 : Unit) => (iR r9 0 1) ∧ ((r9 = 0) ∨ (((i 3) = 3) ∧ ((i 6) = 62)))) (fun u => k_B (dC, dI) vwCl (tyy cI cJ cZ cM) A ((fun (u9 : Unit) => [(h, .inr (7, oM r i j))]) u)) A) sz (by decide +kernel) rfl (Nat.le_of_ble_eq_true rfl) (fun p e s m args below meth c A ls H locs B hP hD hS hl => ?_)
  obtain ⟨hx, hb, hml, hown, hts, hr, hlk, hnm, hK, hA, hN, hC⟩ := id B
  have hown : s.vm.findClass RX7 = some m.cls := hown
  have hl : lv_has ls 2 [(0, .ref h), (1, .int 62)] := hl
  have w_0 : (Cond.fieldLink RX7 20 "WishSeaModel" "sign" "I").before args s = true := hts _ (List.mem_of_getElem? (i := 1) rfl)
  have w_1 : (Cond.fieldLink RX7 29 "WishSeaModel" "value" "I").before args s = true := hts _ (List.mem_of_getElem? (i := 2) rfl)
  have hinX7 : ∀ w ∈ u_ws RX7 TX7 92, w ∈ wsX7_isSign := fun _ h => List.mem_cons_of_mem _ (List.mem_append_right _ h)
  refine lv_aload_n hx hb dX7_isSign_0 rfl (lv_at hl 0 rfl) ?_
  refine k_get (D := (dC, dI)) (ci := 7) (v := .int (i 3)) (C := RX7) (T := TX7) (N := 92) hx hb hts hinX7 hown hK hP 0 rfl rfl 3 (by decide) w_0 rfl rfl dX7_isSign_1 ?_
  refine lv_iconst (v := 3) hx hb dX7_isSign_4 (by decide +kernel) ?_
  have J_20 : ∀   (H : Heap) (locs : List Loc) (ls : Array Slot), va_P (dC, dI) vwCl [(h, .inr (7, oM r i j))] H → va_D A [(h, .inr (7, oM r i j))] → va_S A s.heap H locs → lv_has ls 2 [] → W p l e ({ frames := 1, cells := 0, slots := 0, locals := 40 }) s m args below meth c H locs 0 0 (MQ below (va_Qi (fun (r9 : Int32) (u9 : Unit) => (iR r9 0 1) ∧ ((r9 = 0) ∨ (((i 3) = 3) ∧ ((i 6) = 62)))) (fun u => k_B (dC, dI) vwCl (tyy cI cJ cZ cM) A ((fun (u9 : Unit) => [(h, .inr (7, oM r i j))]) u)) A) args s 0 0 A) (F0 m 20 ls []) := by
    intro   H locs ls hP hD hS hl
    refine lv_iconst (v := 0) hx hb dX7_isSign_20 (by decide +kernel) ?_
    exact k_ri B hP hD hS dX7_isSign_21 () [0] rfl rfl rfl (Nat.le_of_ble_eq_true rfl) (Nat.le_of_ble_eq_true rfl) ⟨(show iR 0 0 1 from (iR_c (n := 0) (a := 0) (b := 1) (by decide +kernel) (by decide +kernel))), (show (0 = 0) ∨ (((i 3) = 3) ∧ ((i 6) = 62)) from (Or.inl rfl))⟩
  refine lv_icmp_ne (tgt := 20) hx hb dX7_isSign_5 (by decide) (fun c_5 => ?_) (fun c_5 => ?_)
  · have c_5 : ¬ (i 3) = 3 := c_5
    have f_20_1 : iR (i 3) 0 2 := iR_neL c_5 hm3 (iR_c (n := 3) (a := 3) (b := 3) (by decide +kernel) (by decide +kernel)) (by decide +kernel)
    exact J_20   H locs ls hP hD hS (lv_sub hl [] rfl)
  · have c_5 : (i 3) = 3 := c_5
    have f_8_1 : iR (i 3) 3 3 := iR_eqL c_5 hm3 (iR_c (n := 3) (a := 3) (b := 3) (by decide +kernel) (by decide +kernel)) (by decide +kernel)
    refine lv_aload_n hx hb dX7_isSign_8 rfl (lv_at hl 0 rfl) ?_
    refine k_get (D := (dC, dI)) (ci := 7) (v := .int (i 6)) (C := RX7) (T := TX7) (N := 92) hx hb hts hinX7 hown hK hP 0 rfl rfl 6 (by decide) w_1 rfl rfl dX7_isSign_9 ?_
    refine lv_iload_n hx hb dX7_isSign_12 rfl (lv_at hl 1 rfl) ?_
    refine lv_icmp_ne (tgt := 20) hx hb dX7_isSign_13 (by decide) (fun c_13 => ?_) (fun c_13 => ?_)
    · have c_13 : ¬ (i 6) = 62 := c_13
      exact J_20   H locs ls hP hD hS (lv_sub hl [] rfl)
    · have c_13 : (i 6) = 62 := c_13
      have f_16_2 : iR (i 6) 62 62 := iR_eqL c_13 hm6 (iR_c (n := 62) (a := 62) (b := 62) (by decide +kernel) (by decide +kernel)) (by decide +kernel)
      refine lv_iconst (v := 1) hx hb dX7_isSign_16 (by decide +kernel) ?_
      refine lv_goto (tgt := 21) hx hb dX7_isSign_17 (by decide) ?_
      exact k_ri B hP hD hS dX7_isSign_21 () [0] rfl rfl rfl (Nat.le_of_ble_eq_true rfl) (Nat.le_of_ble_eq_true rfl) ⟨(show iR 1 0 1 from (iR_c (n := 1) (a := 0) (b := 1) (by decide +kernel) (by decide +kernel))), (show (1 = 0) ∨ (((i 3) = 3) ∧ ((i 6) = 62)) from (Or.inr ⟨c_5, c_13⟩))⟩
set_option maxHeartbeats 8000000 in
set_option maxRecDepth 100000 in
theorem s_X7_isSign_v23 (l : Launch) (dC : Nat → ClassId) (dI : Nat → Nat → Nat) (cI cJ cZ cM : ClassId) (h : Nat) (r : Nat → Nat) (i : Nat → Int32) (j : Nat → Int64) (hm3 : iR (i 3) 0 3) (hm6 : iR (i 6) 0 9999) (hI : mR i) : k_Mi l yX7_isSign wsX7_isSign ({ frames := 1, cells := 0, slots := 0, locals := 40 }) (dC, dI) vwCl (tyy cI cJ cZ cM) [(h, .inr (7, oM r i j))] [.ref h, .int 61] 0 0 (fun (u9 : Unit) => [(h, .inr (7, oM r i j))]) (fun (r9 : Int32) (u9 : Unit) => (iR r9 0 1) ∧ ((r9 = 0) ∨ (((i 3) = 3) ∧ ((i 6) = 61)))) := by
  refine fun sz => k_enter (cc := cX7_isSign) (maxL := 2) (ret := some (.boolean)) (Qc := fun A => va_Qi (fun (r9 : Int32) (u9 : Unit) => (iR r9 0 1) ∧ ((r9 = 0) ∨ (((i 3) = 3) ∧ ((i 6) = 61)))) (fun u => k_B (dC, dI) vwCl (tyy cI cJ cZ cM) A ((fun (u9 : Unit) => [(h, .inr (7, oM r i j))]) u)) A) sz (by decide +kernel) rfl (Nat.le_of_ble_eq_true rfl) (fun p e s m args below meth c A ls H locs B hP hD hS hl => ?_)
  obtain ⟨hx, hb, hml, hown, hts, hr, hlk, hnm, hK, hA, hN, hC⟩ := id B
  have hown : s.vm.findClass RX7 = some m.cls := hown
  have hl : lv_has ls 2 [(0, .ref h), (1, .int 61)] := hl
  have w_0 : (Cond.fieldLink RX7 20 "WishSeaModel" "sign" "I").before args s = true := hts _ (List.mem_of_getElem? (i := 1) rfl)
  have w_1 : (Cond.fieldLink RX7 29 "WishSeaModel" "value" "I").before args s = true := hts _ (List.mem_of_getElem? (i := 2) rfl)
  have hinX7 : ∀ w ∈ u_ws RX7 TX7 92, w ∈ wsX7_isSign := fun _ h => List.mem_cons_of_mem _ (List.mem_append_right _ h)
  refine lv_aload_n hx hb dX7_isSign_0 rfl (lv_at hl 0 rfl) ?_
  refine k_get (D := (dC, dI)) (ci := 7) (v := .int (i 3)) (C := RX7) (T := TX7) (N := 92) hx hb hts hinX7 hown hK hP 0 rfl rfl 3 (by decide) w_0 rfl rfl dX7_isSign_1 ?_
  refine lv_iconst (v := 3) hx hb dX7_isSign_4 (by decide +kernel) ?_
  have J_20 : ∀   (H : Heap) (locs : List Loc) (ls : Array Slot), va_P (dC, dI) vwCl [(h, .inr (7, oM r i j))] H → va_D A [(h, .inr (7, oM r i j))] → va_S A s.heap H locs → lv_has ls 2 [] → W p l e ({ frames := 1, cells := 0, slots := 0, locals := 40 }) s m args below meth c H locs 0 0 (MQ below (va_Qi (fun (r9 : Int32) (u9 : Unit) => (iR r9 0 1) ∧ ((r9 = 0) ∨ (((i 3) = 3) ∧ ((i 6) = 61)))) (fun u => k_B (dC, dI) vwCl (tyy cI cJ cZ cM) A ((fun (u9 : Unit) => [(h, .inr (7, oM r i j))]) u)) A) args s 0 0 A) (F0 m 20 ls []) := by
    intro   H locs ls hP hD hS hl
    refine lv_iconst (v := 0) hx hb dX7_isSign_20 (by decide +kernel) ?_
    exact k_ri B hP hD hS dX7_isSign_21 () [0] rfl rfl rfl (Nat.le_of_ble_eq_true rfl) (Nat.le_of_ble_eq_true rfl) ⟨(show iR 0 0 1 from (iR_c (n := 0) (a := 0) (b := 1) (by decide +kernel) (by decide +kernel))), (show (0 = 0) ∨ (((i 3) = 3) ∧ ((i 6) = 61)) from (Or.inl rfl))⟩
  refine lv_icmp_ne (tgt := 20) hx hb dX7_isSign_5 (by decide) (fun c_5 => ?_) (fun c_5 => ?_)
  · have c_5 : ¬ (i 3) = 3 := c_5
    have f_20_1 : iR (i 3) 0 2 := iR_neL c_5 hm3 (iR_c (n := 3) (a := 3) (b := 3) (by decide +kernel) (by decide +kernel)) (by decide +kernel)
    exact J_20   H locs ls hP hD hS (lv_sub hl [] rfl)
  · have c_5 : (i 3) = 3 := c_5
    have f_8_1 : iR (i 3) 3 3 := iR_eqL c_5 hm3 (iR_c (n := 3) (a := 3) (b := 3) (by decide +kernel) (by decide +kernel)) (by decide +kernel)
    refine lv_aload_n hx hb dX7_isSign_8 rfl (lv_at hl 0 rfl) ?_
    refine k_get (D := (dC, dI)) (ci := 7) (v := .int (i 6)) (C := RX7) (T := TX7) (N := 92) hx hb hts hinX7 hown hK hP 0 rfl rfl 6 (by decide) w_1 rfl rfl dX7_isSign_9 ?_
    refine lv_iload_n hx hb dX7_isSign_12 rfl (lv_at hl 1 rfl) ?_
    refine lv_icmp_ne (tgt := 20) hx hb dX7_isSign_13 (by decide) (fun c_13 => ?_) (fun c_13 => ?_)
    · have c_13 : ¬ (i 6) = 61 := c_13
      exact J_20   H locs ls hP hD hS (lv_sub hl [] rfl)
    · have c_13 : (i 6) = 61 := c_13
      have f_16_2 : iR (i 6) 61 61 := iR_eqL c_13 hm6 (iR_c (n := 61) (a := 61) (b := 61) (by decide +kernel) (by decide +kernel)) (by decide +kernel)
      refine lv_iconst (v := 1) hx hb dX7_isSign_16 (by decide +kernel) ?_
      refine lv_goto (tgt := 21) hx hb dX7_isSign_17 (by decide) ?_
      exact k_ri B hP hD hS dX7_isSign_21 () [0] rfl rfl rfl (Nat.le_of_ble_eq_true rfl) (Nat.le_of_ble_eq_true rfl) ⟨(show iR 1 0 1 from (iR_c (n := 1) (a := 0) (b := 1) (by decide +kernel) (by decide +kernel))), (show (1 = 0) ∨ (((i 3) = 3) ∧ ((i 6) = 61)) from (Or.inr ⟨c_5, c_13⟩))⟩
set_option maxHeartbeats 8000000 in
set_option maxRecDepth 100000 in
theorem s_X7_isSign_v24 (l : Launch) (dC : Nat → ClassId) (dI : Nat → Nat → Nat) (cI cJ cZ cM : ClassId) (h : Nat) (r : Nat → Nat) (i : Nat → Int32) (j : Nat → Int64) (hm3 : iR (i 3) 3 3) (hm6 : iR (i 6) 60 62) (hI : mR i) : k_Mi l yX7_isSign wsX7_isSign ({ frames := 1, cells := 0, slots := 0, locals := 40 }) (dC, dI) vwCl (tyy cI cJ cZ cM) [(h, .inr (7, oM r i j))] [.ref h, .int 60] 0 0 (fun (u9 : Unit) => [(h, .inr (7, oM r i j))]) (fun (r9 : Int32) (u9 : Unit) => (iR r9 0 1) ∧ ((r9 = 0) ∨ (((i 3) = 3) ∧ ((i 6) = 60)))) := by
  refine fun sz => k_enter (cc := cX7_isSign) (maxL := 2) (ret := some (.boolean)) (Qc := fun A => va_Qi (fun (r9 : Int32) (u9 : Unit) => (iR r9 0 1) ∧ ((r9 = 0) ∨ (((i 3) = 3) ∧ ((i 6) = 60)))) (fun u => k_B (dC, dI) vwCl (tyy cI cJ cZ cM) A ((fun (u9 : Unit) => [(h, .inr (7, oM r i j))]) u)) A) sz (by decide +kernel) rfl (Nat.le_of_ble_eq_true rfl) (fun p e s m args below meth c A ls H locs B hP hD hS hl => ?_)
  obtain ⟨hx, hb, hml, hown, hts, hr, hlk, hnm, hK, hA, hN, hC⟩ := id B
  have hown : s.vm.findClass RX7 = some m.cls := hown
  have hl : lv_has ls 2 [(0, .ref h), (1, .int 60)] := hl
  have w_0 : (Cond.fieldLink RX7 20 "WishSeaModel" "sign" "I").before args s = true := hts _ (List.mem_of_getElem? (i := 1) rfl)
  have w_1 : (Cond.fieldLink RX7 29 "WishSeaModel" "value" "I").before args s = true := hts _ (List.mem_of_getElem? (i := 2) rfl)
  have hinX7 : ∀ w ∈ u_ws RX7 TX7 92, w ∈ wsX7_isSign := fun _ h => List.mem_cons_of_mem _ (List.mem_append_right _ h)
  refine lv_aload_n hx hb dX7_isSign_0 rfl (lv_at hl 0 rfl) ?_
  refine k_get (D := (dC, dI)) (ci := 7) (v := .int (i 3)) (C := RX7) (T := TX7) (N := 92) hx hb hts hinX7 hown hK hP 0 rfl rfl 3 (by decide) w_0 rfl rfl dX7_isSign_1 ?_
  refine lv_iconst (v := 3) hx hb dX7_isSign_4 (by decide +kernel) ?_
  have J_20 : ∀  (k20_0 : iR (i 6) 61 62) (q20_0 : (i 3) = 3) (q20_1 : ¬ (i 6) = 60) (q20_2 : 3 = (i 3)) (H : Heap) (locs : List Loc) (ls : Array Slot), va_P (dC, dI) vwCl [(h, .inr (7, oM r i j))] H → va_D A [(h, .inr (7, oM r i j))] → va_S A s.heap H locs → lv_has ls 2 [] → W p l e ({ frames := 1, cells := 0, slots := 0, locals := 40 }) s m args below meth c H locs 0 0 (MQ below (va_Qi (fun (r9 : Int32) (u9 : Unit) => (iR r9 0 1) ∧ ((r9 = 0) ∨ (((i 3) = 3) ∧ ((i 6) = 60)))) (fun u => k_B (dC, dI) vwCl (tyy cI cJ cZ cM) A ((fun (u9 : Unit) => [(h, .inr (7, oM r i j))]) u)) A) args s 0 0 A) (F0 m 20 ls []) := by
    intro  k20_0 q20_0 q20_1 q20_2 H locs ls hP hD hS hl
    refine lv_iconst (v := 0) hx hb dX7_isSign_20 (by decide +kernel) ?_
    exact k_ri B hP hD hS dX7_isSign_21 () [0] rfl rfl rfl (Nat.le_of_ble_eq_true rfl) (Nat.le_of_ble_eq_true rfl) ⟨(show iR 0 0 1 from (iR_c (n := 0) (a := 0) (b := 1) (by decide +kernel) (by decide +kernel))), (show (0 = 0) ∨ (((i 3) = 3) ∧ ((i 6) = 60)) from (Or.inl rfl))⟩
  refine lv_icmp_ne (tgt := 20) hx hb dX7_isSign_5 (by decide) (fun c_5 => ?_) (fun c_5 => ?_)
  · exact absurd (i_eqc hm3 (iR_c (n := 3) (a := 3) (b := 3) (by decide +kernel) (by decide +kernel))) c_5
  · have c_5 : (i 3) = 3 := c_5
    refine lv_aload_n hx hb dX7_isSign_8 rfl (lv_at hl 0 rfl) ?_
    refine k_get (D := (dC, dI)) (ci := 7) (v := .int (i 6)) (C := RX7) (T := TX7) (N := 92) hx hb hts hinX7 hown hK hP 0 rfl rfl 6 (by decide) w_1 rfl rfl dX7_isSign_9 ?_
    refine lv_iload_n hx hb dX7_isSign_12 rfl (lv_at hl 1 rfl) ?_
    refine lv_icmp_ne (tgt := 20) hx hb dX7_isSign_13 (by decide) (fun c_13 => ?_) (fun c_13 => ?_)
    · have c_13 : ¬ (i 6) = 60 := c_13
      have f_20_1 : iR (i 6) 61 62 := iR_neL c_13 hm6 (iR_c (n := 60) (a := 60) (b := 60) (by decide +kernel) (by decide +kernel)) (by decide +kernel)
      exact J_20  f_20_1 c_5 c_13 c_5.symm H locs ls hP hD hS (lv_sub hl [] rfl)
    · have c_13 : (i 6) = 60 := c_13
      have f_16_1 : iR (i 6) 60 60 := iR_eqL c_13 hm6 (iR_c (n := 60) (a := 60) (b := 60) (by decide +kernel) (by decide +kernel)) (by decide +kernel)
      refine lv_iconst (v := 1) hx hb dX7_isSign_16 (by decide +kernel) ?_
      refine lv_goto (tgt := 21) hx hb dX7_isSign_17 (by decide) ?_
      exact k_ri B hP hD hS dX7_isSign_21 () [0] rfl rfl rfl (Nat.le_of_ble_eq_true rfl) (Nat.le_of_ble_eq_true rfl) ⟨(show iR 1 0 1 from (iR_c (n := 1) (a := 0) (b := 1) (by decide +kernel) (by decide +kernel))), (show (1 = 0) ∨ (((i 3) = 3) ∧ ((i 6) = 60)) from (Or.inr ⟨c_5, c_13⟩))⟩
set_option maxHeartbeats 8000000 in
set_option maxRecDepth 100000 in
theorem s_X7_isSign_v25 (l : Launch) (dC : Nat → ClassId) (dI : Nat → Nat → Nat) (cI cJ cZ cM : ClassId) (h : Nat) (r : Nat → Nat) (i : Nat → Int32) (j : Nat → Int64) (hm3 : iR (i 3) 3 3) (hm6 : iR (i 6) 60 62) (hI : mR i) : k_Mi l yX7_isSign wsX7_isSign ({ frames := 1, cells := 0, slots := 0, locals := 40 }) (dC, dI) vwCl (tyy cI cJ cZ cM) [(h, .inr (7, oM r i j))] [.ref h, .int 62] 0 0 (fun (u9 : Unit) => [(h, .inr (7, oM r i j))]) (fun (r9 : Int32) (u9 : Unit) => (iR r9 0 1) ∧ ((r9 = 0) ∨ (((i 3) = 3) ∧ ((i 6) = 62)))) := by
  refine fun sz => k_enter (cc := cX7_isSign) (maxL := 2) (ret := some (.boolean)) (Qc := fun A => va_Qi (fun (r9 : Int32) (u9 : Unit) => (iR r9 0 1) ∧ ((r9 = 0) ∨ (((i 3) = 3) ∧ ((i 6) = 62)))) (fun u => k_B (dC, dI) vwCl (tyy cI cJ cZ cM) A ((fun (u9 : Unit) => [(h, .inr (7, oM r i j))]) u)) A) sz (by decide +kernel) rfl (Nat.le_of_ble_eq_true rfl) (fun p e s m args below meth c A ls H locs B hP hD hS hl => ?_)
  obtain ⟨hx, hb, hml, hown, hts, hr, hlk, hnm, hK, hA, hN, hC⟩ := id B
  have hown : s.vm.findClass RX7 = some m.cls := hown
  have hl : lv_has ls 2 [(0, .ref h), (1, .int 62)] := hl
  have w_0 : (Cond.fieldLink RX7 20 "WishSeaModel" "sign" "I").before args s = true := hts _ (List.mem_of_getElem? (i := 1) rfl)
  have w_1 : (Cond.fieldLink RX7 29 "WishSeaModel" "value" "I").before args s = true := hts _ (List.mem_of_getElem? (i := 2) rfl)
  have hinX7 : ∀ w ∈ u_ws RX7 TX7 92, w ∈ wsX7_isSign := fun _ h => List.mem_cons_of_mem _ (List.mem_append_right _ h)
  refine lv_aload_n hx hb dX7_isSign_0 rfl (lv_at hl 0 rfl) ?_
  refine k_get (D := (dC, dI)) (ci := 7) (v := .int (i 3)) (C := RX7) (T := TX7) (N := 92) hx hb hts hinX7 hown hK hP 0 rfl rfl 3 (by decide) w_0 rfl rfl dX7_isSign_1 ?_
  refine lv_iconst (v := 3) hx hb dX7_isSign_4 (by decide +kernel) ?_
  have J_20 : ∀  (k20_0 : iR (i 6) 60 61) (q20_0 : (i 3) = 3) (q20_1 : ¬ (i 6) = 62) (q20_2 : 3 = (i 3)) (H : Heap) (locs : List Loc) (ls : Array Slot), va_P (dC, dI) vwCl [(h, .inr (7, oM r i j))] H → va_D A [(h, .inr (7, oM r i j))] → va_S A s.heap H locs → lv_has ls 2 [] → W p l e ({ frames := 1, cells := 0, slots := 0, locals := 40 }) s m args below meth c H locs 0 0 (MQ below (va_Qi (fun (r9 : Int32) (u9 : Unit) => (iR r9 0 1) ∧ ((r9 = 0) ∨ (((i 3) = 3) ∧ ((i 6) = 62)))) (fun u => k_B (dC, dI) vwCl (tyy cI cJ cZ cM) A ((fun (u9 : Unit) => [(h, .inr (7, oM r i j))]) u)) A) args s 0 0 A) (F0 m 20 ls []) := by
    intro  k20_0 q20_0 q20_1 q20_2 H locs ls hP hD hS hl
    refine lv_iconst (v := 0) hx hb dX7_isSign_20 (by decide +kernel) ?_
    exact k_ri B hP hD hS dX7_isSign_21 () [0] rfl rfl rfl (Nat.le_of_ble_eq_true rfl) (Nat.le_of_ble_eq_true rfl) ⟨(show iR 0 0 1 from (iR_c (n := 0) (a := 0) (b := 1) (by decide +kernel) (by decide +kernel))), (show (0 = 0) ∨ (((i 3) = 3) ∧ ((i 6) = 62)) from (Or.inl rfl))⟩
  refine lv_icmp_ne (tgt := 20) hx hb dX7_isSign_5 (by decide) (fun c_5 => ?_) (fun c_5 => ?_)
  · exact absurd (i_eqc hm3 (iR_c (n := 3) (a := 3) (b := 3) (by decide +kernel) (by decide +kernel))) c_5
  · have c_5 : (i 3) = 3 := c_5
    refine lv_aload_n hx hb dX7_isSign_8 rfl (lv_at hl 0 rfl) ?_
    refine k_get (D := (dC, dI)) (ci := 7) (v := .int (i 6)) (C := RX7) (T := TX7) (N := 92) hx hb hts hinX7 hown hK hP 0 rfl rfl 6 (by decide) w_1 rfl rfl dX7_isSign_9 ?_
    refine lv_iload_n hx hb dX7_isSign_12 rfl (lv_at hl 1 rfl) ?_
    refine lv_icmp_ne (tgt := 20) hx hb dX7_isSign_13 (by decide) (fun c_13 => ?_) (fun c_13 => ?_)
    · have c_13 : ¬ (i 6) = 62 := c_13
      have f_20_1 : iR (i 6) 60 61 := iR_neL c_13 hm6 (iR_c (n := 62) (a := 62) (b := 62) (by decide +kernel) (by decide +kernel)) (by decide +kernel)
      exact J_20  f_20_1 c_5 c_13 c_5.symm H locs ls hP hD hS (lv_sub hl [] rfl)
    · have c_13 : (i 6) = 62 := c_13
      have f_16_1 : iR (i 6) 62 62 := iR_eqL c_13 hm6 (iR_c (n := 62) (a := 62) (b := 62) (by decide +kernel) (by decide +kernel)) (by decide +kernel)
      refine lv_iconst (v := 1) hx hb dX7_isSign_16 (by decide +kernel) ?_
      refine lv_goto (tgt := 21) hx hb dX7_isSign_17 (by decide) ?_
      exact k_ri B hP hD hS dX7_isSign_21 () [0] rfl rfl rfl (Nat.le_of_ble_eq_true rfl) (Nat.le_of_ble_eq_true rfl) ⟨(show iR 1 0 1 from (iR_c (n := 1) (a := 0) (b := 1) (by decide +kernel) (by decide +kernel))), (show (1 = 0) ∨ (((i 3) = 3) ∧ ((i 6) = 62)) from (Or.inr ⟨c_5, c_13⟩))⟩
set_option maxHeartbeats 8000000 in
set_option maxRecDepth 100000 in
theorem s_X7_isSign_v26 (l : Launch) (dC : Nat → ClassId) (dI : Nat → Nat → Nat) (cI cJ cZ cM : ClassId) (h : Nat) (r : Nat → Nat) (i : Nat → Int32) (j : Nat → Int64) (hm3 : iR (i 3) 0 3) (hm6 : iR (i 6) 0 9999) (hI : mR i) : k_Mi l yX7_isSign wsX7_isSign ({ frames := 1, cells := 0, slots := 0, locals := 40 }) (dC, dI) vwCl (tyy cI cJ cZ cM) [(h, .inr (7, oM r i j))] [.ref h, .int 41] 0 0 (fun (u9 : Unit) => [(h, .inr (7, oM r i j))]) (fun (r9 : Int32) (u9 : Unit) => (iR r9 0 1) ∧ ((r9 = 0) ∨ (((i 3) = 3) ∧ ((i 6) = 41)))) := by
  refine fun sz => k_enter (cc := cX7_isSign) (maxL := 2) (ret := some (.boolean)) (Qc := fun A => va_Qi (fun (r9 : Int32) (u9 : Unit) => (iR r9 0 1) ∧ ((r9 = 0) ∨ (((i 3) = 3) ∧ ((i 6) = 41)))) (fun u => k_B (dC, dI) vwCl (tyy cI cJ cZ cM) A ((fun (u9 : Unit) => [(h, .inr (7, oM r i j))]) u)) A) sz (by decide +kernel) rfl (Nat.le_of_ble_eq_true rfl) (fun p e s m args below meth c A ls H locs B hP hD hS hl => ?_)
  obtain ⟨hx, hb, hml, hown, hts, hr, hlk, hnm, hK, hA, hN, hC⟩ := id B
  have hown : s.vm.findClass RX7 = some m.cls := hown
  have hl : lv_has ls 2 [(0, .ref h), (1, .int 41)] := hl
  have w_0 : (Cond.fieldLink RX7 20 "WishSeaModel" "sign" "I").before args s = true := hts _ (List.mem_of_getElem? (i := 1) rfl)
  have w_1 : (Cond.fieldLink RX7 29 "WishSeaModel" "value" "I").before args s = true := hts _ (List.mem_of_getElem? (i := 2) rfl)
  have hinX7 : ∀ w ∈ u_ws RX7 TX7 92, w ∈ wsX7_isSign := fun _ h => List.mem_cons_of_mem _ (List.mem_append_right _ h)
  refine lv_aload_n hx hb dX7_isSign_0 rfl (lv_at hl 0 rfl) ?_
  refine k_get (D := (dC, dI)) (ci := 7) (v := .int (i 3)) (C := RX7) (T := TX7) (N := 92) hx hb hts hinX7 hown hK hP 0 rfl rfl 3 (by decide) w_0 rfl rfl dX7_isSign_1 ?_
  refine lv_iconst (v := 3) hx hb dX7_isSign_4 (by decide +kernel) ?_
  have J_20 : ∀   (H : Heap) (locs : List Loc) (ls : Array Slot), va_P (dC, dI) vwCl [(h, .inr (7, oM r i j))] H → va_D A [(h, .inr (7, oM r i j))] → va_S A s.heap H locs → lv_has ls 2 [] → W p l e ({ frames := 1, cells := 0, slots := 0, locals := 40 }) s m args below meth c H locs 0 0 (MQ below (va_Qi (fun (r9 : Int32) (u9 : Unit) => (iR r9 0 1) ∧ ((r9 = 0) ∨ (((i 3) = 3) ∧ ((i 6) = 41)))) (fun u => k_B (dC, dI) vwCl (tyy cI cJ cZ cM) A ((fun (u9 : Unit) => [(h, .inr (7, oM r i j))]) u)) A) args s 0 0 A) (F0 m 20 ls []) := by
    intro   H locs ls hP hD hS hl
    refine lv_iconst (v := 0) hx hb dX7_isSign_20 (by decide +kernel) ?_
    exact k_ri B hP hD hS dX7_isSign_21 () [0] rfl rfl rfl (Nat.le_of_ble_eq_true rfl) (Nat.le_of_ble_eq_true rfl) ⟨(show iR 0 0 1 from (iR_c (n := 0) (a := 0) (b := 1) (by decide +kernel) (by decide +kernel))), (show (0 = 0) ∨ (((i 3) = 3) ∧ ((i 6) = 41)) from (Or.inl rfl))⟩
  refine lv_icmp_ne (tgt := 20) hx hb dX7_isSign_5 (by decide) (fun c_5 => ?_) (fun c_5 => ?_)
  · have c_5 : ¬ (i 3) = 3 := c_5
    have f_20_1 : iR (i 3) 0 2 := iR_neL c_5 hm3 (iR_c (n := 3) (a := 3) (b := 3) (by decide +kernel) (by decide +kernel)) (by decide +kernel)
    exact J_20   H locs ls hP hD hS (lv_sub hl [] rfl)
  · have c_5 : (i 3) = 3 := c_5
    have f_8_1 : iR (i 3) 3 3 := iR_eqL c_5 hm3 (iR_c (n := 3) (a := 3) (b := 3) (by decide +kernel) (by decide +kernel)) (by decide +kernel)
    refine lv_aload_n hx hb dX7_isSign_8 rfl (lv_at hl 0 rfl) ?_
    refine k_get (D := (dC, dI)) (ci := 7) (v := .int (i 6)) (C := RX7) (T := TX7) (N := 92) hx hb hts hinX7 hown hK hP 0 rfl rfl 6 (by decide) w_1 rfl rfl dX7_isSign_9 ?_
    refine lv_iload_n hx hb dX7_isSign_12 rfl (lv_at hl 1 rfl) ?_
    refine lv_icmp_ne (tgt := 20) hx hb dX7_isSign_13 (by decide) (fun c_13 => ?_) (fun c_13 => ?_)
    · have c_13 : ¬ (i 6) = 41 := c_13
      exact J_20   H locs ls hP hD hS (lv_sub hl [] rfl)
    · have c_13 : (i 6) = 41 := c_13
      have f_16_2 : iR (i 6) 41 41 := iR_eqL c_13 hm6 (iR_c (n := 41) (a := 41) (b := 41) (by decide +kernel) (by decide +kernel)) (by decide +kernel)
      refine lv_iconst (v := 1) hx hb dX7_isSign_16 (by decide +kernel) ?_
      refine lv_goto (tgt := 21) hx hb dX7_isSign_17 (by decide) ?_
      exact k_ri B hP hD hS dX7_isSign_21 () [0] rfl rfl rfl (Nat.le_of_ble_eq_true rfl) (Nat.le_of_ble_eq_true rfl) ⟨(show iR 1 0 1 from (iR_c (n := 1) (a := 0) (b := 1) (by decide +kernel) (by decide +kernel))), (show (1 = 0) ∨ (((i 3) = 3) ∧ ((i 6) = 41)) from (Or.inr ⟨c_5, c_13⟩))⟩
