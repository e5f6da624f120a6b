set_option maxHeartbeats 4000000 in
set_option maxRecDepth 100000 in
theorem c_J0_coder_7d493_v0 (l : Launch) (dC : Nat → ClassId) (dI : Nat → Nat → Nat) (cI cJ cZ cM : ClassId)    : k_Mi l yJ0_coder_7d493 wsJ0_coder_7d493 ({ frames := 1, cells := 0, slots := 0, locals := 40 }) (dC, dI) vwCl (tyy cI cJ cZ cM) [] [.ref (dI 1000 0)] 0 0 (fun (u9 : Unit) => []) (fun (r9 : Int32) (u9 : Unit) => r9 = 0) := by
  refine fun sz => k_enter (cc := cJ0_coder_7d493) (maxL := 1) (ret := some (.byte)) (Qc := fun A => va_Qi (fun (r9 : Int32) (u9 : Unit) => r9 = 0) (fun u => k_B (dC, dI) vwCl (tyy cI cJ cZ cM) A ((fun (u9 : Unit) => []) u)) A) sz (by decide +kernel) rfl (Nat.le_of_ble_eq_true rfl) (fun p e s m args below meth c A ls H locs B hP hD hS hl => ?_)
  obtain ⟨hx, hb, hml, hown, hts, hr, hlk, hnm, hK, hA, hN, hC⟩ := id B
  have hown : s.vm.findClass RJ0 = some m.cls := hown
  have hl : lv_has ls 1 [(0, .ref (dI 1000 0))] := hl
  have w_0 : (Cond.fieldLink RJ0 38 "java/lang/String" "COMPACT_STRINGS" "Z").before args s = true := hts _ (List.mem_of_getElem? (i := 1) rfl)
  have w_1 : (Cond.fieldLink RJ0 15 "java/lang/String" "coder" "B").before args s = true := hts _ (List.mem_of_getElem? (i := 2) rfl)
  refine va_gets hx hb hC.2.2.1 hS hown w_0 (fun _ h9 => h9) dJ0_coder_7d493_0 ?_
  refine lv_if_eq (tgt := 13) hx hb dJ0_coder_7d493_3 (by decide) (fun q9 => absurd q9 (by decide +kernel)) (fun _ => ?_)
  refine lv_aload_n hx hb dJ0_coder_7d493_6 rfl (lv_at hl 0 rfl) ?_
  refine vk_getf hx hb (hC.1.1 0 (by decide)).2.1 hS hown w_1 (fun _ h9 => h9) dJ0_coder_7d493_7 ?_
  refine lv_goto (tgt := 14) hx hb dJ0_coder_7d493_10 (by decide) ?_
  exact k_ri B hP hD hS dJ0_coder_7d493_14 () [] rfl rfl rfl (Nat.le_of_ble_eq_true rfl) (Nat.le_of_ble_eq_true rfl) rfl
set_option maxHeartbeats 4000000 in
set_option maxRecDepth 100000 in
theorem c_J0_length_8abf5_v0 (l : Launch) (dC : Nat → ClassId) (dI : Nat → Nat → Nat) (cI cJ cZ cM : ClassId)    : k_Mi l yJ0_length_8abf5 wsJ0_length_8abf5 ({ frames := 2, cells := 0, slots := 0, locals := 60 }) (dC, dI) vwCl (tyy cI cJ cZ cM) [] [.ref (dI 1000 0)] 0 0 (fun (u9 : Unit) => []) (fun (r9 : Int32) (u9 : Unit) => r9 = 128) := by
  refine fun sz => k_enter (cc := cJ0_length_8abf5) (maxL := 1) (ret := some (.int)) (Qc := fun A => va_Qi (fun (r9 : Int32) (u9 : Unit) => r9 = 128) (fun u => k_B (dC, dI) vwCl (tyy cI cJ cZ cM) A ((fun (u9 : Unit) => []) u)) A) sz (by decide +kernel) rfl (Nat.le_of_ble_eq_true rfl) (fun p e s m args below meth c A ls H locs B hP hD hS hl => ?_)
  obtain ⟨hx, hb, hml, hown, hts, hr, hlk, hnm, hK, hA, hN, hC⟩ := id B
  have hown : s.vm.findClass RJ0 = some m.cls := hown
  have hl : lv_has ls 1 [(0, .ref (dI 1000 0))] := hl
  have w_0 : (Cond.fieldLink RJ0 9 "java/lang/String" "value" "[B").before args s = true := hts _ (List.mem_of_getElem? (i := 1) rfl)
  refine lv_aload_n hx hb dJ0_length_8abf5_0 rfl (lv_at hl 0 rfl) ?_
  refine vk_getf hx hb (hC.1.1 0 (by decide)).2.2.1 hS hown w_0 (fun _ h9 => h9) dJ0_length_8abf5_1 ?_
  refine va_tlen hx hb (hC.1.1 0 (by decide)).2.2.2 hS (v := 128) rfl dJ0_length_8abf5_4 ?_
  refine lv_aload_n hx hb dJ0_length_8abf5_5 rfl (lv_at hl 0 rfl) ?_
  refine k_ci (wc := []) (wr := []) (fun hPc hDc hFc => va_runV (As := []) (rest := [.int 128]) ⟨hx, hb, hml, hown, hts⟩ (c_J0_coder_7d493_v0 l dC dI cI cJ cZ cM H.size) (cwV 0 hts gJ0_length_8abf5_J0_coder_7d493 rfl rfl rfl (by decide +kernel) ⟨(Nat.le_of_ble_eq_true rfl), (Nat.le_of_ble_eq_true rfl)⟩) (k_pT hPc hDc hK hN hC hS hFc) rfl rfl hl.1 rfl (lv_room (Nat.le_of_ble_eq_true rfl)) dJ0_length_8abf5_6 ⟨(Nat.le_of_ble_eq_true rfl), (Nat.le_of_ble_eq_true rfl)⟩) hP hD hS hA [] [] rfl rfl rfl rfl (by decide) (fun _ => rfl) 0 0 rfl rfl (fun r_1 u_2 H locs hw hP hD hS => ?_)
  obtain rfl : r_1 = 0 := hw
  have hP : va_P (dC, dI) vwCl [] H := hP
  have hD : va_D A [] := hD
  refine lv_ishr hx hb dJ0_length_8abf5_9 ?_
  refine k_int (v := 128) (by decide +kernel) ?_
  exact k_ri B hP hD hS dJ0_length_8abf5_10 () [] rfl rfl rfl (Nat.le_of_ble_eq_true rfl) (Nat.le_of_ble_eq_true rfl) rfl
set_option maxHeartbeats 4000000 in
set_option maxRecDepth 100000 in
theorem c_J0_isLatin1_aae02_v0 (l : Launch) (dC : Nat → ClassId) (dI : Nat → Nat → Nat) (cI cJ cZ cM : ClassId)    : k_Mi l yJ0_isLatin1_aae02 wsJ0_isLatin1_aae02 ({ frames := 1, cells := 0, slots := 0, locals := 40 }) (dC, dI) vwCl (tyy cI cJ cZ cM) [] [.ref (dI 1000 0)] 0 0 (fun (u9 : Unit) => []) (fun (r9 : Int32) (u9 : Unit) => r9 = 1) := by
  refine fun sz => k_enter (cc := cJ0_isLatin1_aae02) (maxL := 1) (ret := some (.boolean)) (Qc := fun A => va_Qi (fun (r9 : Int32) (u9 : Unit) => r9 = 1) (fun u => k_B (dC, dI) vwCl (tyy cI cJ cZ cM) A ((fun (u9 : Unit) => []) u)) A) sz (by decide +kernel) rfl (Nat.le_of_ble_eq_true rfl) (fun p e s m args below meth c A ls H locs B hP hD hS hl => ?_)
  obtain ⟨hx, hb, hml, hown, hts, hr, hlk, hnm, hK, hA, hN, hC⟩ := id B
  have hown : s.vm.findClass RJ0 = some m.cls := hown
  have hl : lv_has ls 1 [(0, .ref (dI 1000 0))] := hl
  have w_0 : (Cond.fieldLink RJ0 38 "java/lang/String" "COMPACT_STRINGS" "Z").before args s = true := hts _ (List.mem_of_getElem? (i := 1) rfl)
  have w_1 : (Cond.fieldLink RJ0 15 "java/lang/String" "coder" "B").before args s = true := hts _ (List.mem_of_getElem? (i := 2) rfl)
  refine va_gets hx hb hC.2.2.1 hS hown w_0 (fun _ h9 => h9) dJ0_isLatin1_aae02_0 ?_
  refine lv_if_eq (tgt := 17) hx hb dJ0_isLatin1_aae02_3 (by decide) (fun q9 => absurd q9 (by decide +kernel)) (fun _ => ?_)
  refine lv_aload_n hx hb dJ0_isLatin1_aae02_6 rfl (lv_at hl 0 rfl) ?_
  refine vk_getf hx hb (hC.1.1 0 (by decide)).2.1 hS hown w_1 (fun _ h9 => h9) dJ0_isLatin1_aae02_7 ?_
  refine lv_if_ne (tgt := 17) hx hb dJ0_isLatin1_aae02_10 (by decide) (fun q9 => absurd q9 (by decide +kernel)) (fun _ => ?_)
  refine lv_iconst (v := 1) hx hb dJ0_isLatin1_aae02_13 (by decide +kernel) ?_
  refine lv_goto (tgt := 18) hx hb dJ0_isLatin1_aae02_14 (by decide) ?_
  exact k_ri B hP hD hS dJ0_isLatin1_aae02_18 () [] rfl rfl rfl (Nat.le_of_ble_eq_true rfl) (Nat.le_of_ble_eq_true rfl) rfl
set_option maxHeartbeats 4000000 in
set_option maxRecDepth 100000 in
theorem c_J3_checkIndex_8e157_v0 (l : Launch) (dC : Nat → ClassId) (dI : Nat → Nat → Nat) (cI cJ cZ cM : ClassId) (p0 : Nat) (b_0 : 0 ≤ ((p0 : Nat) : Int)) (t_0 : ((p0 : Nat) : Int) ≤ 127)  : k_Mi l yJ3_checkIndex_8e157 wsJ3_checkIndex_8e157 ({ frames := 1, cells := 0, slots := 0, locals := 40 }) (dC, dI) vwCl (tyy cI cJ cZ cM) [] [.int (nI p0), .int 128, .null] 0 0 (fun (u9 : Unit) => []) (fun (r9 : Int32) (u9 : Unit) => r9 = (nI p0)) := by
  refine fun sz => k_enter (cc := cJ3_checkIndex_8e157) (maxL := 3) (ret := some (.int)) (Qc := fun A => va_Qi (fun (r9 : Int32) (u9 : Unit) => r9 = (nI p0)) (fun u => k_B (dC, dI) vwCl (tyy cI cJ cZ cM) A ((fun (u9 : Unit) => []) u)) A) sz (by decide +kernel) rfl (Nat.le_of_ble_eq_true rfl) (fun p e s m args below meth c A ls H locs B hP hD hS hl => ?_)
  obtain ⟨hx, hb, hml, hown, hts, hr, hlk, hnm, hK, hA, hN, hC⟩ := id B
  have hown : s.vm.findClass RJ3 = some m.cls := hown
  have hl : lv_has ls 3 [(0, .int (nI p0)), (1, .int 128), (2, .null)] := hl
  refine lv_iload_n hx hb dJ3_checkIndex_8e157_0 rfl (lv_at hl 0 rfl) ?_
  refine lv_if_lt (tgt := 9) hx hb dJ3_checkIndex_8e157_1 (by decide) (fun c_1 => ?_) (fun c_1 => ?_)
  · have c_1 : ((p0 : Nat) : Int) < 0 := k_ltT (nI_toInt (by omega)) (by decide +kernel) c_1
    exfalso; omega
  · have c_1 : 0 ≤ ((p0 : Nat) : Int) := k_ltF (nI_toInt (by omega)) (by decide +kernel) c_1
    refine lv_iload_n hx hb dJ3_checkIndex_8e157_4 rfl (lv_at hl 0 rfl) ?_
    refine lv_iload_n hx hb dJ3_checkIndex_8e157_5 rfl (lv_at hl 1 rfl) ?_
    refine lv_icmp_lt (tgt := 16) hx hb dJ3_checkIndex_8e157_6 (by decide) (fun c_2 => ?_) (fun c_2 => ?_)
    · have c_2 : ((p0 : Nat) : Int) < 128 := k_ltT (nI_toInt (by omega)) (by decide +kernel) c_2
      refine lv_iload_n hx hb dJ3_checkIndex_8e157_16 rfl (lv_at hl 0 rfl) ?_
      exact k_ri B hP hD hS dJ3_checkIndex_8e157_17 () [] rfl rfl rfl (Nat.le_of_ble_eq_true rfl) (Nat.le_of_ble_eq_true rfl) rfl
    · have c_2 : 128 ≤ ((p0 : Nat) : Int) := k_ltF (nI_toInt (by omega)) (by decide +kernel) c_2
      exfalso; omega
set_option maxHeartbeats 4000000 in
set_option maxRecDepth 100000 in
theorem c_J3_checkIndex_8e157_v1 (l : Launch) (dC : Nat → ClassId) (dI : Nat → Nat → Nat) (cI cJ cZ cM : ClassId) (p0 : Nat) (p1 : Nat) (b_0 : 0 ≤ ((p0 : Nat) : Int)) (t_0 : ((p0 : Nat) : Int) ≤ 127)  : k_Mi l yJ3_checkIndex_8e157 wsJ3_checkIndex_8e157 ({ frames := 1, cells := 0, slots := 0, locals := 40 }) (dC, dI) vwCl (tyy cI cJ cZ cM) [] [.int (nI p0), .int 128, .ref p1] 0 0 (fun (u9 : Unit) => []) (fun (r9 : Int32) (u9 : Unit) => r9 = (nI p0)) := by
  refine fun sz => k_enter (cc := cJ3_checkIndex_8e157) (maxL := 3) (ret := some (.int)) (Qc := fun A => va_Qi (fun (r9 : Int32) (u9 : Unit) => r9 = (nI p0)) (fun u => k_B (dC, dI) vwCl (tyy cI cJ cZ cM) A ((fun (u9 : Unit) => []) u)) A) sz (by decide +kernel) rfl (Nat.le_of_ble_eq_true rfl) (fun p e s m args below meth c A ls H locs B hP hD hS hl => ?_)
  obtain ⟨hx, hb, hml, hown, hts, hr, hlk, hnm, hK, hA, hN, hC⟩ := id B
  have hown : s.vm.findClass RJ3 = some m.cls := hown
  have hl : lv_has ls 3 [(0, .int (nI p0)), (1, .int 128), (2, .ref p1)] := hl
  refine lv_iload_n hx hb dJ3_checkIndex_8e157_0 rfl (lv_at hl 0 rfl) ?_
  refine lv_if_lt (tgt := 9) hx hb dJ3_checkIndex_8e157_1 (by decide) (fun c_1 => ?_) (fun c_1 => ?_)
  · have c_1 : ((p0 : Nat) : Int) < 0 := k_ltT (nI_toInt (by omega)) (by decide +kernel) c_1
    exfalso; omega
  · have c_1 : 0 ≤ ((p0 : Nat) : Int) := k_ltF (nI_toInt (by omega)) (by decide +kernel) c_1
    refine lv_iload_n hx hb dJ3_checkIndex_8e157_4 rfl (lv_at hl 0 rfl) ?_
    refine lv_iload_n hx hb dJ3_checkIndex_8e157_5 rfl (lv_at hl 1 rfl) ?_
    refine lv_icmp_lt (tgt := 16) hx hb dJ3_checkIndex_8e157_6 (by decide) (fun c_2 => ?_) (fun c_2 => ?_)
    · have c_2 : ((p0 : Nat) : Int) < 128 := k_ltT (nI_toInt (by omega)) (by decide +kernel) c_2
      refine lv_iload_n hx hb dJ3_checkIndex_8e157_16 rfl (lv_at hl 0 rfl) ?_
      exact k_ri B hP hD hS dJ3_checkIndex_8e157_17 () [] rfl rfl rfl (Nat.le_of_ble_eq_true rfl) (Nat.le_of_ble_eq_true rfl) rfl
    · have c_2 : 128 ≤ ((p0 : Nat) : Int) := k_ltF (nI_toInt (by omega)) (by decide +kernel) c_2
      exfalso; omega
set_option maxHeartbeats 4000000 in
set_option maxRecDepth 100000 in
theorem c_J0_checkIndex_df160_v0 (l : Launch) (dC : Nat → ClassId) (dI : Nat → Nat → Nat) (cI cJ cZ cM : ClassId) (p0 : Nat) (b_0 : 0 ≤ ((p0 : Nat) : Int)) (t_0 : ((p0 : Nat) : Int) ≤ 127)  : k_Mv l yJ0_checkIndex_df160 wsJ0_checkIndex_df160 ({ frames := 2, cells := 0, slots := 0, locals := 62 }) (dC, dI) vwCl (tyy cI cJ cZ cM) [] [.int (nI p0), .int 128] 0 0 (fun (u9 : Unit) => []) (fun (u9 : Unit) => True) := by
  refine fun sz => k_enter (cc := cJ0_checkIndex_df160) (maxL := 2) (ret := none) (Qc := fun A => va_Qv (fun (u9 : Unit) => True) (fun u => k_B (dC, dI) vwCl (tyy cI cJ cZ cM) A ((fun (u9 : Unit) => []) u)) A) sz (by decide +kernel) rfl (Nat.le_of_ble_eq_true rfl) (fun p e s m args below meth c A ls H locs B hP hD hS hl => ?_)
  obtain ⟨hx, hb, hml, hown, hts, hr, hlk, hnm, hK, hA, hN, hC⟩ := id B
  have hown : s.vm.findClass RJ0 = some m.cls := hown
  have hl : lv_has ls 2 [(0, .int (nI p0)), (1, .int 128)] := hl
  have w_0 : (Cond.fieldLink RJ0 1053 "jdk/internal/util/Preconditions" "SIOOBE_FORMATTER" "Ljava/util/function/BiFunction;").before args s = true := hts _ (List.mem_of_getElem? (i := 1) rfl)
  refine lv_iload_n hx hb dJ0_checkIndex_df160_0 rfl (lv_at hl 0 rfl) ?_
  refine lv_iload_n hx hb dJ0_checkIndex_df160_1 rfl (lv_at hl 1 rfl) ?_
  rcases hC.2.2.2 with z_2 | ⟨t_1, z_2⟩
  · refine va_gets hx hb z_2 hS hown w_0 (fun _ h9 => h9) dJ0_checkIndex_df160_2 ?_
    refine k_ci (wc := []) (wr := []) (fun hPc hDc hFc => va_runS (As := [.int (nI p0), .int 128, .null]) (rest := []) ⟨hx, hb, hml, hown, hts⟩ (c_J3_checkIndex_8e157_v0 l dC dI cI cJ cZ cM p0 (by omega) (by omega) H.size) (va_cwS 3 hts gJ0_checkIndex_df160_J3_checkIndex_8e157 rfl rfl rfl (by decide +kernel) ⟨(Nat.le_of_ble_eq_true rfl), (Nat.le_of_ble_eq_true rfl)⟩) (k_pS hPc hDc hK hN hC hS hFc) rfl rfl hl.1 rfl (lv_room (Nat.le_of_ble_eq_true rfl)) dJ0_checkIndex_df160_5 ⟨(Nat.le_of_ble_eq_true rfl), (Nat.le_of_ble_eq_true rfl)⟩) hP hD hS hA [] [] rfl rfl rfl rfl (by decide) (fun _ => rfl) 0 0 rfl rfl (fun r_3 u_4 H locs hw hP hD hS => ?_)
    obtain rfl : r_3 = (nI p0) := hw
    have hP : va_P (dC, dI) vwCl [] H := hP
    have hD : va_D A [] := hD
    refine lv_pop hx hb dJ0_checkIndex_df160_8 rfl ?_
    exact k_rv B hP hD hS dJ0_checkIndex_df160_9 () [] rfl rfl (Nat.le_of_ble_eq_true rfl) (Nat.le_of_ble_eq_true rfl) trivial
  · refine va_gets hx hb z_2 hS hown w_0 (fun _ h9 => h9) dJ0_checkIndex_df160_2 ?_
    refine k_ci (wc := []) (wr := []) (fun hPc hDc hFc => va_runS (As := [.int (nI p0), .int 128, .ref t_1]) (rest := []) ⟨hx, hb, hml, hown, hts⟩ (c_J3_checkIndex_8e157_v1 l dC dI cI cJ cZ cM p0 t_1 (by omega) (by omega) H.size) (va_cwS 3 hts gJ0_checkIndex_df160_J3_checkIndex_8e157 rfl rfl rfl (by decide +kernel) ⟨(Nat.le_of_ble_eq_true rfl), (Nat.le_of_ble_eq_true rfl)⟩) (k_pS hPc hDc hK hN hC hS hFc) rfl rfl hl.1 rfl (lv_room (Nat.le_of_ble_eq_true rfl)) dJ0_checkIndex_df160_5 ⟨(Nat.le_of_ble_eq_true rfl), (Nat.le_of_ble_eq_true rfl)⟩) hP hD hS hA [] [] rfl rfl rfl rfl (by decide) (fun _ => rfl) 0 0 rfl rfl (fun r_5 u_6 H locs hw hP hD hS => ?_)
    obtain rfl : r_5 = (nI p0) := hw
    have hP : va_P (dC, dI) vwCl [] H := hP
    have hD : va_D A [] := hD
    refine lv_pop hx hb dJ0_checkIndex_df160_8 rfl ?_
    exact k_rv B hP hD hS dJ0_checkIndex_df160_9 () [] rfl rfl (Nat.le_of_ble_eq_true rfl) (Nat.le_of_ble_eq_true rfl) trivial
set_option maxHeartbeats 4000000 in
set_option maxRecDepth 100000 in
theorem c_J1_charAt_3b067_v0 (l : Launch) (dC : Nat → ClassId) (dI : Nat → Nat → Nat) (cI cJ cZ cM : ClassId) (p0 : Nat) (b_0 : 0 ≤ ((p0 : Nat) : Int)) (t_0 : ((p0 : Nat) : Int) ≤ 127)  : k_Mi l yJ1_charAt_3b067 wsJ1_charAt_3b067 ({ frames := 3, cells := 0, slots := 0, locals := 83 }) (dC, dI) vwCl (tyy cI cJ cZ cM) [] [.ref (dI 1001 0), .int (nI p0)] 0 0 (fun (u9 : Unit) => []) (fun (r9 : Int32) (u9 : Unit) => r9 = (((((bytS.getD 0 []).getD p0 0) &&& 255).toUInt32 % 65536).toInt32)) := by
  refine fun sz => k_enter (cc := cJ1_charAt_3b067) (maxL := 2) (ret := some (.char)) (Qc := fun A => va_Qi (fun (r9 : Int32) (u9 : Unit) => r9 = (((((bytS.getD 0 []).getD p0 0) &&& 255).toUInt32 % 65536).toInt32)) (fun u => k_B (dC, dI) vwCl (tyy cI cJ cZ cM) A ((fun (u9 : Unit) => []) u)) A) sz (by decide +kernel) rfl (Nat.le_of_ble_eq_true rfl) (fun p e s m args below meth c A ls H locs B hP hD hS hl => ?_)
  obtain ⟨hx, hb, hml, hown, hts, hr, hlk, hnm, hK, hA, hN, hC⟩ := id B
  have hown : s.vm.findClass RJ1 = some m.cls := hown
  have hl : lv_has ls 2 [(0, .ref (dI 1001 0)), (1, .int (nI p0))] := hl
  refine lv_iload_n hx hb dJ1_charAt_3b067_0 rfl (lv_at hl 1 rfl) ?_
  refine lv_aload_n hx hb dJ1_charAt_3b067_1 rfl (lv_at hl 0 rfl) ?_
  refine va_tlen hx hb (hC.1.1 0 (by decide)).2.2.2 hS (v := 128) rfl dJ1_charAt_3b067_2 ?_
  refine k_cv (wc := []) (wr := []) (fun hPc hDc hFc => va_runS (As := [.int (nI p0), .int 128]) (rest := []) ⟨hx, hb, hml, hown, hts⟩ (c_J0_checkIndex_df160_v0 l dC dI cI cJ cZ cM p0 (by omega) (by omega) H.size) (va_cwS 2 hts gJ1_charAt_3b067_J0_checkIndex_df160 rfl rfl rfl (by decide +kernel) ⟨(Nat.le_of_ble_eq_true rfl), (Nat.le_of_ble_eq_true rfl)⟩) (k_pS hPc hDc hK hN hC hS hFc) rfl rfl hl.1 rfl (lv_room (Nat.le_of_ble_eq_true rfl)) dJ1_charAt_3b067_3 ⟨(Nat.le_of_ble_eq_true rfl), (Nat.le_of_ble_eq_true rfl)⟩) hP hD hS hA [] [] rfl rfl rfl rfl (by decide) (fun _ => rfl) 0 0 rfl rfl (fun u_2 H locs hw hP hD hS => ?_)
  have hP : va_P (dC, dI) vwCl [] H := hP
  have hD : va_D A [] := hD
  refine lv_aload_n hx hb dJ1_charAt_3b067_6 rfl (lv_at hl 0 rfl) ?_
  refine lv_iload_n hx hb dJ1_charAt_3b067_7 rfl (lv_at hl 1 rfl) ?_
  refine va_tb hx hb (hC.1.1 0 (by decide)).2.2.2 hS (vp_in_nI (by show p0 < 128; omega) (by decide)) (v := .int ((bytS.getD 0 []).getD p0 0)) (by rw [nI_clamp (by omega)]) dJ1_charAt_3b067_8 ?_
  refine lv_sipush (v := 255) hx hb dJ1_charAt_3b067_9 (by decide +kernel) ?_
  refine lv_iand hx hb dJ1_charAt_3b067_12 ?_
  refine lv_i2c (v := ((((bytS.getD 0 []).getD p0 0) &&& 255).toUInt32 % 65536).toInt32) hx hb dJ1_charAt_3b067_13 rfl ?_
  exact k_ri B hP hD hS dJ1_charAt_3b067_14 () [] (pk_nc _) rfl rfl (Nat.le_of_ble_eq_true rfl) (Nat.le_of_ble_eq_true rfl) rfl
set_option maxHeartbeats 4000000 in
set_option maxRecDepth 100000 in
theorem c_J0_charAt_5068e_v0 (l : Launch) (dC : Nat → ClassId) (dI : Nat → Nat → Nat) (cI cJ cZ cM : ClassId) (p0 : Nat) (b_0 : 0 ≤ ((p0 : Nat) : Int)) (t_0 : ((p0 : Nat) : Int) ≤ 127)  : k_Mi l yJ0_charAt_5068e wsJ0_charAt_5068e ({ frames := 4, cells := 0, slots := 0, locals := 104 }) (dC, dI) vwCl (tyy cI cJ cZ cM) [] [.ref (dI 1000 0), .int (nI p0)] 0 0 (fun (u9 : Unit) => []) (fun (r9 : Int32) (u9 : Unit) => r9 = (((((bytS.getD 0 []).getD p0 0) &&& 255).toUInt32 % 65536).toInt32)) := by
  refine fun sz => k_enter (cc := cJ0_charAt_5068e) (maxL := 2) (ret := some (.char)) (Qc := fun A => va_Qi (fun (r9 : Int32) (u9 : Unit) => r9 = (((((bytS.getD 0 []).getD p0 0) &&& 255).toUInt32 % 65536).toInt32)) (fun u => k_B (dC, dI) vwCl (tyy cI cJ cZ cM) A ((fun (u9 : Unit) => []) u)) A) sz (by decide +kernel) rfl (Nat.le_of_ble_eq_true rfl) (fun p e s m args below meth c A ls H locs B hP hD hS hl => ?_)
  obtain ⟨hx, hb, hml, hown, hts, hr, hlk, hnm, hK, hA, hN, hC⟩ := id B
  have hown : s.vm.findClass RJ0 = some m.cls := hown
  have hl : lv_has ls 2 [(0, .ref (dI 1000 0)), (1, .int (nI p0))] := hl
  have w_0 : (Cond.fieldLink RJ0 9 "java/lang/String" "value" "[B").before args s = true := hts _ (List.mem_of_getElem? (i := 1) rfl)
  refine lv_aload_n hx hb dJ0_charAt_5068e_0 rfl (lv_at hl 0 rfl) ?_
  refine k_ci (wc := []) (wr := []) (fun hPc hDc hFc => va_runV (As := []) (rest := []) ⟨hx, hb, hml, hown, hts⟩ (c_J0_isLatin1_aae02_v0 l dC dI cI cJ cZ cM H.size) (cwV 0 hts gJ0_charAt_5068e_J0_isLatin1_aae02 rfl rfl rfl (by decide +kernel) ⟨(Nat.le_of_ble_eq_true rfl), (Nat.le_of_ble_eq_true rfl)⟩) (k_pT hPc hDc hK hN hC hS hFc) rfl rfl hl.1 rfl (lv_room (Nat.le_of_ble_eq_true rfl)) dJ0_charAt_5068e_1 ⟨(Nat.le_of_ble_eq_true rfl), (Nat.le_of_ble_eq_true rfl)⟩) hP hD hS hA [] [] rfl rfl rfl rfl (by decide) (fun _ => rfl) 0 0 rfl rfl (fun r_1 u_2 H locs hw hP hD hS => ?_)
  obtain rfl : r_1 = 1 := hw
  have hP : va_P (dC, dI) vwCl [] H := hP
  have hD : va_D A [] := hD
  refine lv_if_eq (tgt := 16) hx hb dJ0_charAt_5068e_4 (by decide) (fun q9 => absurd q9 (by decide +kernel)) (fun _ => ?_)
  refine lv_aload_n hx hb dJ0_charAt_5068e_7 rfl (lv_at hl 0 rfl) ?_
  refine vk_getf hx hb (hC.1.1 0 (by decide)).2.2.1 hS hown w_0 (fun _ h9 => h9) dJ0_charAt_5068e_8 ?_
  refine lv_iload_n hx hb dJ0_charAt_5068e_11 rfl (lv_at hl 1 rfl) ?_
  refine k_ci (wc := []) (wr := []) (fun hPc hDc hFc => va_runS (As := [.ref (dI 1001 0), .int (nI p0)]) (rest := []) ⟨hx, hb, hml, hown, hts⟩ (c_J1_charAt_3b067_v0 l dC dI cI cJ cZ cM p0 (by omega) (by omega) H.size) (va_cwS 2 hts gJ0_charAt_5068e_J1_charAt_3b067 rfl rfl rfl (by decide +kernel) ⟨(Nat.le_of_ble_eq_true rfl), (Nat.le_of_ble_eq_true rfl)⟩) (k_pS hPc hDc hK hN hC hS hFc) rfl rfl hl.1 rfl (lv_room (Nat.le_of_ble_eq_true rfl)) dJ0_charAt_5068e_12 ⟨(Nat.le_of_ble_eq_true rfl), (Nat.le_of_ble_eq_true rfl)⟩) hP hD hS hA [] [] rfl rfl rfl rfl (by decide) (fun _ => rfl) 0 0 rfl rfl (fun r_3 u_4 H locs hw hP hD hS => ?_)
  have er_3 : r_3 = (((((bytS.getD 0 []).getD p0 0) &&& 255).toUInt32 % 65536).toInt32) := hw
  have hP : va_P (dC, dI) vwCl [] H := hP
  have hD : va_D A [] := hD
  subst er_3
  exact k_ri B hP hD hS dJ0_charAt_5068e_15 () [] (pk_nc _) rfl rfl (Nat.le_of_ble_eq_true rfl) (Nat.le_of_ble_eq_true rfl) rfl
set_option maxHeartbeats 4000000 in
set_option maxRecDepth 100000 in
theorem s_X2_init_m (l : Launch) (dC : Nat → ClassId) (dI : Nat → Nat → Nat) (cI cJ cZ cM : ClassId) (p0 : Nat) (p1 : Nat) (p2 : Nat)   : k_Mv l yX2_init wsX2_init ({ frames := 5, cells := 1, slots := 25, locals := 125 }) (dC, dI) vwCl (tyy cI cJ cZ cM) [(p0, .inr (2, [.null, .null, .null, .int 0, .int 0, .int 0, .int 0, .int 0, .int 0, .int 0, .int 0]))] [.ref p0, .ref p1, .ref p2] 1 25 (fun (u9 : SU) => [(p0, .inr (2, [.ref p1, .ref (u9.2.2.2.2 0), .ref p2, .int 0, .int 0, .int 0, .int 256, .int 0, .int 0, .int 0, .int (-1)])), ((u9.2.2.2.2 0), .inl (cJ, 25, .inr (.inl (u9.2.2.2.1 0))))]) (fun (u9 : SU) => KY (u9.2.2.2.1 0)) := by
  refine fun sz => k_enter (cc := cX2_init) (maxL := 7) (ret := none) (Qc := fun A => va_Qv (fun (u9 : SU) => KY (u9.2.2.2.1 0)) (fun u => k_B (dC, dI) vwCl (tyy cI cJ cZ cM) A ((fun (u9 : SU) => [(p0, .inr (2, [.ref p1, .ref (u9.2.2.2.2 0), .ref p2, .int 0, .int 0, .int 0, .int 256, .int 0, .int 0, .int 0, .int (-1)])), ((u9.2.2.2.2 0), .inl (cJ, 25, .inr (.inl (u9.2.2.2.1 0))))]) u)) A) sz (by decide +kernel) rfl (Nat.le_of_ble_eq_true rfl) (fun p e s m args below meth c A ls H locs B hP hD hS hl => ?_)
  obtain ⟨hx, hb, hml, hown, hts, hr, hlk, hnm, hK, hA, hN, hC⟩ := id B
  have hown : s.vm.findClass RX2 = some m.cls := hown
  have hl : lv_has ls 7 [(0, .ref p0), (1, .ref p1), (2, .ref p2)] := hl
  have w_0 : (Cond.methodLink RX2 3 objectInit).before args s = true := hts _ (List.mem_of_getElem? (i := 1) rfl)
  have w_1 : (Cond.instanceMethod objectInit).before args s = true := hts _ (List.mem_of_getElem? (i := 2) rfl)
  have w_2 : (Cond.code objectInit ⟨#[0xb1]⟩ 1 none).before args s = true := hts _ (List.mem_of_getElem? (i := 3) rfl)
  have w_3 : (Cond.arrayClass .long).before args s = true := hts _ (List.mem_of_getElem? (i := 4) rfl)
  have w_4 : (Cond.fieldLink RX2 9 "WishSea$Reader" "ownKeys" "[J").before args s = true := hts _ (List.mem_of_getElem? (i := 5) rfl)
  have w_5 : (Cond.fieldLink RX2 15 "WishSea$Reader" "token" "I").before args s = true := hts _ (List.mem_of_getElem? (i := 6) rfl)
  have w_6 : (Cond.fieldLink RX2 19 "WishSea$Reader" "place" "I").before args s = true := hts _ (List.mem_of_getElem? (i := 7) rfl)
  have w_7 : (Cond.fieldLink RX2 22 "WishSea$Reader" "text" "[I").before args s = true := hts _ (List.mem_of_getElem? (i := 8) rfl)
  have w_8 : (Cond.fieldLink RX2 26 "WishSea$Reader" "told" "LWishSea$Shore;").before args s = true := hts _ (List.mem_of_getElem? (i := 9) rfl)
  have w_9 : (Cond.constantLong RX2 42 (27)).before args s = true := hts _ (List.mem_of_getElem? (i := 10) rfl)
  have hinX2 : ∀ w ∈ u_ws RX2 TX2 11, w ∈ wsX2_init := fun _ h => List.mem_cons_of_mem _ (List.mem_append_right _ h)
  refine lv_aload_n hx hb dX2_init_0 rfl (lv_at hl 0 rfl) ?_
  refine W.objInit hx hb hown w_0 w_1 w_2 rfl (by rw [hml]; exact hl.1) rfl dX2_init_1 (Nat.le_of_ble_eq_true rfl) (Nat.le_of_ble_eq_true rfl) ?_
  refine W.eq (g2 := F0 m 4 ls []) rfl ?_
  refine lv_aload_n hx hb dX2_init_4 rfl (lv_at hl 0 rfl) ?_
  refine lv_bipush (v := 25) hx hb dX2_init_5 (by decide +kernel) ?_
  refine k_newJ hx hb w_3 hK hP hD hS hA 1 rfl 25 rfl (Nat.le_of_ble_eq_true rfl) (Nat.le_of_ble_eq_true rfl) (Nat.le_of_ble_eq_true rfl) dX2_init_7 (fun n_1 H hP hD hS => ?_)
  refine W.widen (k := 1) (n := 25) (Nat.le_of_ble_eq_true rfl) (Nat.le_of_ble_eq_true rfl) ?_
  have hP : va_P (dC, dI) vwCl [(p0, .inr (2, [.null, .null, .null, .int 0, .int 0, .int 0, .int 0, .int 0, .int 0, .int 0, .int 0])), (n_1, .inl (cJ, 25, .inr (.inl (fun _ => 0))))] H := hP
  have hD : va_D A [(p0, .inr (2, [.null, .null, .null, .int 0, .int 0, .int 0, .int 0, .int 0, .int 0, .int 0, .int 0])), (n_1, .inl (cJ, 25, .inr (.inl (fun _ => 0))))] := hD
  refine k_putF (D := (dC, dI)) (ci := 2) (v := .ref n_1) (C := RX2) (T := TX2) (N := 11) (ws' := [(p0, .inr (2, [.null, .ref n_1, .null, .int 0, .int 0, .int 0, .int 0, .int 0, .int 0, .int 0, .int 0])), (n_1, .inl (cJ, 25, .inr (.inl (fun _ => 0))))]) hx hb hts hinX2 tyX2 tyX2_ok nmX2 hown hK hP hD hS 0 rfl rfl 1 (by decide) w_4 rfl rfl (hnm _ rfl) rfl rfl rfl (Nat.le_of_ble_eq_true rfl) rfl dX2_init_9 (fun H locs hP hD hS => ?_)
  refine lv_aload_n hx hb dX2_init_12 rfl (lv_at hl 0 rfl) ?_
  refine lv_sipush (v := 256) hx hb dX2_init_13 (by decide +kernel) ?_
  refine k_put (D := (dC, dI)) (ci := 2) (v := .int 256) (C := RX2) (T := TX2) (N := 11) (ws' := [(p0, .inr (2, [.null, .ref n_1, .null, .int 0, .int 0, .int 0, .int 256, .int 0, .int 0, .int 0, .int 0])), (n_1, .inl (cJ, 25, .inr (.inl (fun _ => 0))))]) hx hb hts hinX2 tyX2 tyX2_ok nmX2 hown hK hP hD hS 0 rfl rfl 6 (by decide) w_5 rfl rfl rfl rfl (Nat.le_of_ble_eq_true rfl) rfl dX2_init_16 (fun H locs hP hD hS => ?_)
  refine lv_aload_n hx hb dX2_init_19 rfl (lv_at hl 0 rfl) ?_
  refine lv_iconst (v := (-1)) hx hb dX2_init_20 (by decide +kernel) ?_
  refine k_put (D := (dC, dI)) (ci := 2) (v := .int (-1)) (C := RX2) (T := TX2) (N := 11) (ws' := [(p0, .inr (2, [.null, .ref n_1, .null, .int 0, .int 0, .int 0, .int 256, .int 0, .int 0, .int 0, .int (-1)])), (n_1, .inl (cJ, 25, .inr (.inl (fun _ => 0))))]) hx hb hts hinX2 tyX2 tyX2_ok nmX2 hown hK hP hD hS 0 rfl rfl 10 (by decide) w_6 rfl rfl rfl rfl (Nat.le_of_ble_eq_true rfl) rfl dX2_init_21 (fun H locs hP hD hS => ?_)
  refine lv_aload_n hx hb dX2_init_24 rfl (lv_at hl 0 rfl) ?_
  refine lv_aload_n hx hb dX2_init_25 rfl (lv_at hl 1 rfl) ?_
  refine k_putF (D := (dC, dI)) (ci := 2) (v := .ref p1) (C := RX2) (T := TX2) (N := 11) (ws' := [(p0, .inr (2, [.ref p1, .ref n_1, .null, .int 0, .int 0, .int 0, .int 256, .int 0, .int 0, .int 0, .int (-1)])), (n_1, .inl (cJ, 25, .inr (.inl (fun _ => 0))))]) hx hb hts hinX2 tyX2 tyX2_ok nmX2 hown hK hP hD hS 0 rfl rfl 0 (by decide) w_7 rfl rfl (hnm _ rfl) rfl rfl rfl (Nat.le_of_ble_eq_true rfl) rfl dX2_init_26 (fun H locs hP hD hS => ?_)
  refine lv_aload_n hx hb dX2_init_29 rfl (lv_at hl 0 rfl) ?_
  refine lv_aload_n hx hb dX2_init_30 rfl (lv_at hl 2 rfl) ?_
  refine k_put (D := (dC, dI)) (ci := 2) (v := .ref p2) (C := RX2) (T := TX2) (N := 11) (ws' := [(p0, .inr (2, [.ref p1, .ref n_1, .ref p2, .int 0, .int 0, .int 0, .int 256, .int 0, .int 0, .int 0, .int (-1)])), (n_1, .inl (cJ, 25, .inr (.inl (fun _ => 0))))]) hx hb hts hinX2 tyX2 tyX2_ok nmX2 hown hK hP hD hS 0 rfl rfl 2 (by decide) w_8 rfl rfl rfl rfl (Nat.le_of_ble_eq_true rfl) rfl dX2_init_31 (fun H locs hP hD hS => ?_)
  refine lv_iconst (v := 0) hx hb dX2_init_34 (by decide +kernel) ?_
  refine lv_istore_n (lv' := [(3, .int 0), (0, .ref p0), (1, .ref p1), (2, .ref p2)]) hx hb dX2_init_35 rfl hl (by decide) rfl (fun ls hl => ?_)
  refine lv_lconst (v := 1) hx hb dX2_init_36 (by decide +kernel) ?_
  refine lv_lstore (lv' := [(4, .long 1), (3, .int 0), (0, .ref p0), (1, .ref p1), (2, .ref p2)]) hx hb dX2_init_37 hl (by decide) rfl (fun ls hl => ?_)
  refine lv_iconst (v := 0) hx hb dX2_init_39 (by decide +kernel) ?_
  refine lv_istore (lv' := [(6, .int 0), (4, .long 1), (3, .int 0), (0, .ref p0), (1, .ref p1), (2, .ref p2)]) hx hb dX2_init_40 hl (by decide) rfl (fun ls hl => ?_)
  have loop_k_2 : ∀ (n_k_2 : Nat) (kk_2 : Nat) (wk_2 : Nat) (uk_2_ : Int64) (fk_2 : Nat → Int64) (h1k_2 : kk_2 ≤ 128) (h2k_2 : wk_2 ≤ 25) (h3k_2 : KST kk_2 wk_2 uk_2_ fk_2) (hn_k_2 : 128 - kk_2 < n_k_2) (H : Heap) (locs : List Loc) (ls : Array Slot), va_P (dC, dI) vwCl [(p0, .inr (2, [.ref p1, .ref n_1, .ref p2, .int 0, .int 0, .int 0, .int 256, .int 0, .int 0, .int 0, .int (-1)])), (n_1, .inl (cJ, 25, .inr (.inl fk_2)))] H → va_D A [(p0, .inr (2, [.ref p1, .ref n_1, .ref p2, .int 0, .int 0, .int 0, .int 256, .int 0, .int 0, .int 0, .int (-1)])), (n_1, .inl (cJ, 25, .inr (.inl fk_2)))] → va_S A s.heap H locs → lv_has ls 7 [(6, .int (nI kk_2)), (4, .long uk_2_), (3, .int (nI wk_2)), (0, .ref p0), (1, .ref p1), (2, .ref p2)] → W p l e ({ frames := 5, cells := 1, slots := 25, locals := 125 }) s m args below meth c H locs 1 25 (MQ below (va_Qv (fun (u9 : SU) => KY (u9.2.2.2.1 0)) (fun u => k_B (dC, dI) vwCl (tyy cI cJ cZ cM) A ((fun (u9 : SU) => [(p0, .inr (2, [.ref p1, .ref (u9.2.2.2.2 0), .ref p2, .int 0, .int 0, .int 0, .int 256, .int 0, .int 0, .int 0, .int (-1)])), ((u9.2.2.2.2 0), .inl (cJ, 25, .inr (.inl (u9.2.2.2.1 0))))]) u)) A) args s 1 25 A) (F0 m 42 ls []) := by
    intro n_k_2
    induction n_k_2 with
    | zero => intro kk_2 wk_2 uk_2_ fk_2 h1k_2 h2k_2 h3k_2 hn_k_2; exact absurd hn_k_2 (Nat.not_lt_zero _)
    | succ n_k_2 ih_k_2 =>
      intro kk_2 wk_2 uk_2_ fk_2 h1k_2 h2k_2 h3k_2 hn_k_2 H locs ls hP hD hS hl
      refine lv_iload hx hb dX2_init_42 (lv_at hl 0 rfl) ?_
      refine va_ldcS (q := dI 1000 0) hx hb hown hC.2.1 dX2_init_44 ?_
      refine k_ci (wc := []) (wr := [(p0, .inr (2, [.ref p1, .ref n_1, .ref p2, .int 0, .int 0, .int 0, .int 256, .int 0, .int 0, .int 0, .int (-1)])), (n_1, .inl (cJ, 25, .inr (.inl fk_2)))]) (fun hPc hDc hFc => va_runV (As := []) (rest := [.int (nI kk_2)]) ⟨hx, hb, hml, hown, hts⟩ (c_J0_length_8abf5_v0 l dC dI cI cJ cZ cM H.size) (cwV 0 hts gX2_init_J0_length_8abf5 rfl rfl rfl (by decide +kernel) ⟨(Nat.le_of_ble_eq_true rfl), (Nat.le_of_ble_eq_true rfl)⟩) (k_pT hPc hDc hK hN hC hS hFc) rfl rfl hl.1 rfl (lv_room (Nat.le_of_ble_eq_true rfl)) dX2_init_46 ⟨(Nat.le_of_ble_eq_true rfl), (Nat.le_of_ble_eq_true rfl)⟩) hP hD hS hA [] [0, 1] rfl rfl rfl rfl (by decide) (fun _ => rfl) 1 25 rfl rfl (fun r_3 u_4 H locs hw hP hD hS => ?_)
      obtain rfl : r_3 = 128 := hw
      have hP : va_P (dC, dI) vwCl [(p0, .inr (2, [.ref p1, .ref n_1, .ref p2, .int 0, .int 0, .int 0, .int 256, .int 0, .int 0, .int 0, .int (-1)])), (n_1, .inl (cJ, 25, .inr (.inl fk_2)))] H := hP
      have hD : va_D A [(p0, .inr (2, [.ref p1, .ref n_1, .ref p2, .int 0, .int 0, .int 0, .int 256, .int 0, .int 0, .int 0, .int (-1)])), (n_1, .inl (cJ, 25, .inr (.inl fk_2)))] := hD
      refine lv_icmp_ge (tgt := 118) hx hb dX2_init_49 (by decide) (fun c_5 => ?_) (fun c_5 => ?_)
      · have c_5 : 128 ≤ ((kk_2 : Nat) : Int) := k_leT (by decide +kernel) (nI_toInt (by omega)) c_5
        exact k_rv B hP hD hS dX2_init_118 ((fun _ => 0), (fun _ => 0), (fun _ _ => 0), (fun k9 => match k9 with | 0 => fk_2 | _ => (fun _ => 0)), (fun k9 => match k9 with | 0 => n_1 | _ => 0)) [0, 1] rfl rfl (Nat.le_of_ble_eq_true rfl) (Nat.le_of_ble_eq_true rfl) (show KY fk_2 from KST_end h3k_2 (KST_128 h3k_2 (by omega)))
      · have c_5 : ((kk_2 : Nat) : Int) < 128 := k_leF (by decide +kernel) (nI_toInt (by omega)) c_5
        refine lv_iload_n hx hb dX2_init_52 rfl (lv_at hl 2 rfl) ?_
        refine lv_bipush (v := 25) hx hb dX2_init_53 (by decide +kernel) ?_
        refine lv_icmp_ge (tgt := 118) hx hb dX2_init_55 (by decide) (fun c_6 => ?_) (fun c_6 => ?_)
        · have c_6 : 25 ≤ ((wk_2 : Nat) : Int) := k_leT (by decide +kernel) (nI_toInt (by omega)) c_6
          exact k_rv B hP hD hS dX2_init_118 ((fun _ => 0), (fun _ => 0), (fun _ _ => 0), (fun k9 => match k9 with | 0 => fk_2 | _ => (fun _ => 0)), (fun k9 => match k9 with | 0 => n_1 | _ => 0)) [0, 1] rfl rfl (Nat.le_of_ble_eq_true rfl) (Nat.le_of_ble_eq_true rfl) (show KY fk_2 from KST_end h3k_2 (by omega))
        · have c_6 : ((wk_2 : Nat) : Int) < 25 := k_leF (by decide +kernel) (nI_toInt (by omega)) c_6
          refine va_ldcS (q := dI 1000 0) hx hb hown hC.2.1 dX2_init_58 ?_
          refine lv_iload hx hb dX2_init_60 (lv_at hl 0 rfl) ?_
          refine k_ci (wc := []) (wr := [(p0, .inr (2, [.ref p1, .ref n_1, .ref p2, .int 0, .int 0, .int 0, .int 256, .int 0, .int 0, .int 0, .int (-1)])), (n_1, .inl (cJ, 25, .inr (.inl fk_2)))]) (fun hPc hDc hFc => va_runV (As := [.int (nI kk_2)]) (rest := []) ⟨hx, hb, hml, hown, hts⟩ (c_J0_charAt_5068e_v0 l dC dI cI cJ cZ cM kk_2 (by omega) (by omega) H.size) (cwV 1 hts gX2_init_J0_charAt_5068e rfl rfl rfl (by decide +kernel) ⟨(Nat.le_of_ble_eq_true rfl), (Nat.le_of_ble_eq_true rfl)⟩) (k_pT hPc hDc hK hN hC hS hFc) rfl rfl hl.1 rfl (lv_room (Nat.le_of_ble_eq_true rfl)) dX2_init_62 ⟨(Nat.le_of_ble_eq_true rfl), (Nat.le_of_ble_eq_true rfl)⟩) hP hD hS hA [] [0, 1] rfl rfl rfl rfl (by decide) (fun _ => rfl) 1 25 rfl rfl (fun r_7 u_8 H locs hw hP hD hS => ?_)
          have er_7 : r_7 = (((((bytS.getD 0 []).getD kk_2 0) &&& 255).toUInt32 % 65536).toInt32) := hw
          have hP : va_P (dC, dI) vwCl [(p0, .inr (2, [.ref p1, .ref n_1, .ref p2, .int 0, .int 0, .int 0, .int 256, .int 0, .int 0, .int 0, .int (-1)])), (n_1, .inl (cJ, 25, .inr (.inl fk_2)))] H := hP
          have hD : va_D A [(p0, .inr (2, [.ref p1, .ref n_1, .ref p2, .int 0, .int 0, .int 0, .int 256, .int 0, .int 0, .int 0, .int (-1)])), (n_1, .inl (cJ, 25, .inr (.inl fk_2)))] := hD
          refine lv_bipush (v := 32) hx hb dX2_init_65 (by decide +kernel) ?_
          refine lv_icmp_ne (tgt := 79) hx hb dX2_init_67 (by decide) (fun c_9 => ?_) (fun c_9 => ?_)
          · have c_9 : ¬ r_7.toInt = 32 := k_eqF rfl (by decide +kernel) c_9
            refine lv_aload_n hx hb dX2_init_79 rfl (lv_at hl 3 rfl) ?_
            refine k_get (D := (dC, dI)) (ci := 2) (v := .ref n_1) (C := RX2) (T := TX2) (N := 11) hx hb hts hinX2 hown hK hP 0 rfl rfl 1 (by decide) w_4 rfl rfl dX2_init_80 ?_
            refine lv_iload_n hx hb dX2_init_83 rfl (lv_at hl 2 rfl) ?_
            refine lv_dup2_11 hx hb dX2_init_84 rfl rfl ?_
            refine k_lald (v := (fk_2 wk_2)) hx hb hK hP 1 1 wk_2 rfl rfl rfl (by omega) (Nat.le_of_ble_eq_true rfl) rfl dX2_init_85 ?_
            refine va_ldcS (q := dI 1000 0) hx hb hown hC.2.1 dX2_init_86 ?_
            refine lv_iload hx hb dX2_init_88 (lv_at hl 0 rfl) ?_
            refine k_ci (wc := []) (wr := [(p0, .inr (2, [.ref p1, .ref n_1, .ref p2, .int 0, .int 0, .int 0, .int 256, .int 0, .int 0, .int 0, .int (-1)])), (n_1, .inl (cJ, 25, .inr (.inl fk_2)))]) (fun hPc hDc hFc => va_runV (As := [.int (nI kk_2)]) (rest := [.long (fk_2 wk_2), .int (nI wk_2), .ref n_1]) ⟨hx, hb, hml, hown, hts⟩ (c_J0_charAt_5068e_v0 l dC dI cI cJ cZ cM kk_2 (by omega) (by omega) H.size) (cwV 1 hts gX2_init_J0_charAt_5068e rfl rfl rfl (by decide +kernel) ⟨(Nat.le_of_ble_eq_true rfl), (Nat.le_of_ble_eq_true rfl)⟩) (k_pT hPc hDc hK hN hC hS hFc) rfl rfl hl.1 rfl (lv_room (Nat.le_of_ble_eq_true rfl)) dX2_init_90 ⟨(Nat.le_of_ble_eq_true rfl), (Nat.le_of_ble_eq_true rfl)⟩) hP hD hS hA [] [0, 1] rfl rfl rfl rfl (by decide) (fun _ => rfl) 1 25 rfl rfl (fun r_10 u_11 H locs hw hP hD hS => ?_)
            have er_10 : r_10 = (((((bytS.getD 0 []).getD kk_2 0) &&& 255).toUInt32 % 65536).toInt32) := hw
            have hP : va_P (dC, dI) vwCl [(p0, .inr (2, [.ref p1, .ref n_1, .ref p2, .int 0, .int 0, .int 0, .int 256, .int 0, .int 0, .int 0, .int (-1)])), (n_1, .inl (cJ, 25, .inr (.inl fk_2)))] H := hP
            have hD : va_D A [(p0, .inr (2, [.ref p1, .ref n_1, .ref p2, .int 0, .int 0, .int 0, .int 256, .int 0, .int 0, .int 0, .int (-1)])), (n_1, .inl (cJ, 25, .inr (.inl fk_2)))] := hD
            refine lv_bipush (v := 97) hx hb dX2_init_93 (by decide +kernel) ?_
            refine lv_isub hx hb dX2_init_95 ?_
            refine lv_iconst (v := 1) hx hb dX2_init_96 (by decide +kernel) ?_
            refine lv_iadd hx hb dX2_init_97 ?_
            refine lv_i2l (v := ((r_10 - 97) + 1).toInt64) hx hb dX2_init_98 rfl ?_
            refine lv_lload hx hb dX2_init_99 (lv_at hl 1 rfl) ?_
            refine lv_lmul hx hb dX2_init_101 ?_
            refine lv_ladd hx hb dX2_init_102 ?_
            refine lv_topl (fun y_12 ey_12 => ?_)
            refine k_last (g := (vp_updL fk_2 wk_2 y_12)) (ws' := [(p0, .inr (2, [.ref p1, .ref n_1, .ref p2, .int 0, .int 0, .int 0, .int 256, .int 0, .int 0, .int 0, .int (-1)])), (n_1, .inl (cJ, 25, .inr (.inl (vp_updL fk_2 wk_2 y_12))))]) hx hb hK hP hD hS 1 1 wk_2 rfl rfl rfl (by omega) (Nat.le_of_ble_eq_true rfl) rfl rfl dX2_init_103 (fun H locs hP hD hS => ?_)
            refine lv_lload hx hb dX2_init_104 (lv_at hl 1 rfl) ?_
            refine lv_ldc2 (v := 27) hx hb hown w_9 dX2_init_106 ?_
            refine lv_lmul hx hb dX2_init_109 ?_
            refine lv_lstore (lv' := [(4, .long (uk_2_ * 27)), (6, .int (nI kk_2)), (3, .int (nI wk_2)), (0, .ref p0), (1, .ref p1), (2, .ref p2)]) hx hb dX2_init_110 hl (by decide) rfl (fun ls hl => ?_)
            refine lv_iinc (v := (nI (kk_2 + 1))) (lv' := [(6, .int (nI (kk_2 + 1))), (4, .long (uk_2_ * 27)), (3, .int (nI wk_2)), (0, .ref p0), (1, .ref p1), (2, .ref p2)]) hx hb dX2_init_112 hl (k := 1) rfl (nI_1 _) (by decide) rfl (fun ls hl => ?_)
            refine lv_goto (tgt := 42) hx hb dX2_init_115 (by decide) ?_
            exact ih_k_2 (kk_2 + 1) wk_2 (uk_2_ * 27) (vp_updL fk_2 wk_2 y_12) (by omega) (by omega) (KST_l h3k_2 (by omega) er_7 c_9 er_10 ey_12) (by omega) H locs ls (hP.sub [0, 1] rfl) (hD.sub [0, 1] (by decide) rfl) hS (lv_sub hl [0, 1, 2, 3, 4, 5] rfl)
          · have c_9 : r_7.toInt = 32 := k_eqT rfl (by decide +kernel) c_9
            refine lv_iinc (v := (nI (wk_2 + 1))) (lv' := [(3, .int (nI (wk_2 + 1))), (6, .int (nI kk_2)), (4, .long uk_2_), (0, .ref p0), (1, .ref p1), (2, .ref p2)]) hx hb dX2_init_70 hl (k := 2) rfl (nI_1 _) (by decide) rfl (fun ls hl => ?_)
            refine lv_lconst (v := 1) hx hb dX2_init_73 (by decide +kernel) ?_
            refine lv_lstore (lv' := [(4, .long 1), (3, .int (nI (wk_2 + 1))), (6, .int (nI kk_2)), (0, .ref p0), (1, .ref p1), (2, .ref p2)]) hx hb dX2_init_74 hl (by decide) rfl (fun ls hl => ?_)
            refine lv_goto (tgt := 112) hx hb dX2_init_76 (by decide) ?_
            refine lv_iinc (v := (nI (kk_2 + 1))) (lv' := [(6, .int (nI (kk_2 + 1))), (4, .long 1), (3, .int (nI (wk_2 + 1))), (0, .ref p0), (1, .ref p1), (2, .ref p2)]) hx hb dX2_init_112 hl (k := 2) rfl (nI_1 _) (by decide) rfl (fun ls hl => ?_)
            refine lv_goto (tgt := 42) hx hb dX2_init_115 (by decide) ?_
            exact ih_k_2 (kk_2 + 1) (wk_2 + 1) 1 fk_2 (by omega) (by omega) (KST_b h3k_2 (by omega) er_7 c_9) (by omega) H locs ls (hP.sub [0, 1] rfl) (hD.sub [0, 1] (by decide) rfl) hS (lv_sub hl [0, 1, 2, 3, 4, 5] rfl)
  exact loop_k_2 _ 0 0 1 (fun _ => 0) (by omega) (by omega) KST_0 (Nat.lt_succ_self _) H locs ls hP hD hS hl
