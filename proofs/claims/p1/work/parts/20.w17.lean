set_option maxHeartbeats 4000000 in
set_option maxRecDepth 100000 in
theorem c_X7_canBear_v3 (l : Launch) (dC : Nat → ClassId) (dI : Nat → Nat → Nat) (cI cJ cZ cM : ClassId) (p0 : Nat) (p1 : Nat) (p2 : Nat → Nat) (b_0 : 0 ≤ (((p1 + 1) : Nat) : Int)) (t_0 : (((p1 + 1) : Nat) : Int) ≤ 999)  : k_Mi l yX7_canBear wsX7_canBear ({ frames := 1, cells := 0, slots := 0, locals := 40 }) (dC, dI) vwCl (tyy cI cJ cZ cM) [(p0, .inr (7, oM p2 (upd i7 1 0) j7))] [.ref p0, .int (nI (p1 + 1))] 0 0 (fun (u9 : Unit) => [(p0, .inr (7, oM p2 (upd i7 1 0) j7))]) (fun (r9 : Int32) (u9 : Unit) => r9 = 1) := by
  refine fun sz => k_enter (cc := cX7_canBear) (maxL := 3) (ret := some (.boolean)) (Qc := fun A => va_Qi (fun (r9 : Int32) (u9 : Unit) => r9 = 1) (fun u => k_B (dC, dI) vwCl (tyy cI cJ cZ cM) A ((fun (u9 : Unit) => [(p0, .inr (7, oM p2 (upd i7 1 0) j7))]) u)) A) sz (by decide +kernel) rfl (Nat.le_of_ble_eq_true rfl) (fun p e s m args below meth c A ls H locs B hP hD hS hl => ?_)
  obtain ⟨hx, hb, hml, hown, hts, hr, hlk, hnm, hK, hA, hN, hC⟩ := id B
  have hown : s.vm.findClass RX7 = some m.cls := hown
  have hl : lv_has ls 3 [(0, .ref p0), (1, .int (nI (p1 + 1)))] := hl
  have w_0 : (Cond.fieldLink RX7 246 "WishSeaModel" "fallMany" "I").before args s = true := hts _ (List.mem_of_getElem? (i := 1) rfl)
  have hinX7 : ∀ w ∈ u_ws RX7 TX7 92, w ∈ wsX7_canBear := fun _ h => List.mem_cons_of_mem _ (List.mem_append_right _ h)
  refine lv_iconst (v := 0) hx hb dX7_canBear_0 (by decide +kernel) ?_
  refine lv_istore_n (lv' := [(2, .int 0), (0, .ref p0), (1, .int (nI (p1 + 1)))]) hx hb dX7_canBear_1 rfl hl (by decide) rfl (fun ls hl => ?_)
  refine lv_iload_n hx hb dX7_canBear_2 rfl (lv_at hl 0 rfl) ?_
  refine lv_aload_n hx hb dX7_canBear_3 rfl (lv_at hl 1 rfl) ?_
  refine k_get (D := (dC, dI)) (ci := 7) (v := .int 0) (C := RX7) (T := TX7) (N := 92) hx hb hts hinX7 hown hK hP 0 rfl rfl 77 (by decide) w_0 rfl rfl dX7_canBear_4 ?_
  refine lv_icmp_ge (tgt := 42) hx hb dX7_canBear_7 (by decide) (fun _ => ?_) (fun q9 => absurd q9 (by decide +kernel))
  refine lv_iconst (v := 1) hx hb dX7_canBear_42 (by decide +kernel) ?_
  exact k_ri B hP hD hS dX7_canBear_43 () [0] rfl rfl rfl (Nat.le_of_ble_eq_true rfl) (Nat.le_of_ble_eq_true rfl) rfl
set_option maxHeartbeats 4000000 in
set_option maxRecDepth 100000 in
theorem c_X7_bears_v4 (l : Launch) (dC : Nat → ClassId) (dI : Nat → Nat → Nat) (cI cJ cZ cM : ClassId) (p0 : Nat) (p1 : Nat → Nat)   : k_Mi l yX7_bears wsX7_bears ({ frames := 2, cells := 0, slots := 0, locals := 62 }) (dC, dI) vwCl (tyy cI cJ cZ cM) [(p0, .inr (7, oM p1 (upd i7 1 0) j7))] [.ref p0, .int 0] 0 0 (fun (u9 : Unit) => [(p0, .inr (7, oM p1 (upd i7 1 0) j7))]) (fun (r9 : Int32) (u9 : Unit) => r9 = 999) := by
  refine fun sz => k_enter (cc := cX7_bears) (maxL := 6) (ret := some (.int)) (Qc := fun A => va_Qi (fun (r9 : Int32) (u9 : Unit) => r9 = 999) (fun u => k_B (dC, dI) vwCl (tyy cI cJ cZ cM) A ((fun (u9 : Unit) => [(p0, .inr (7, oM p1 (upd i7 1 0) j7))]) u)) A) sz (by decide +kernel) rfl (Nat.le_of_ble_eq_true rfl) (fun p e s m args below meth c A ls H locs B hP hD hS hl => ?_)
  obtain ⟨hx, hb, hml, hown, hts, hr, hlk, hnm, hK, hA, hN, hC⟩ := id B
  have hown : s.vm.findClass RX7 = some m.cls := hown
  have hl : lv_has ls 6 [(0, .ref p0), (1, .int 0)] := hl
  refine lv_iload_n hx hb dX7_bears_0 rfl (lv_at hl 1 rfl) ?_
  refine lv_iconst (v := 0) hx hb dX7_bears_1 (by decide +kernel) ?_
  refine lv_iconst (v := 2) hx hb dX7_bears_2 (by decide +kernel) ?_
  refine k_ci (wc := []) (wr := [(p0, .inr (7, oM p1 (upd i7 1 0) j7))]) (fun hPc hDc hFc => va_runS (As := [.int 0, .int 0, .int 2]) (rest := []) ⟨hx, hb, hml, hown, hts⟩ (c_X7_is_v26 l dC dI cI cJ cZ cM H.size) (va_cwS 3 hts gX7_bears_X7_is rfl rfl rfl (by decide +kernel) ⟨(Nat.le_of_ble_eq_true rfl), (Nat.le_of_ble_eq_true rfl)⟩) (k_pS hPc hDc hK hN hC hS hFc) rfl rfl hl.1 rfl (lv_room (Nat.le_of_ble_eq_true rfl)) dX7_bears_3 ⟨(Nat.le_of_ble_eq_true rfl), (Nat.le_of_ble_eq_true rfl)⟩) hP hD hS hA [] [0] rfl rfl rfl rfl (by decide) (fun _ => rfl) 0 0 rfl rfl (fun r_1 u_2 H locs hw hP hD hS => ?_)
  obtain rfl : r_1 = 1 := hw
  have hP : va_P (dC, dI) vwCl [(p0, .inr (7, oM p1 (upd i7 1 0) j7))] H := hP
  have hD : va_D A [(p0, .inr (7, oM p1 (upd i7 1 0) j7))] := hD
  refine lv_if_ne (tgt := 11) hx hb dX7_bears_6 (by decide) (fun _ => ?_) (fun q9 => absurd q9 (by decide +kernel))
  refine lv_iconst (v := 0) hx hb dX7_bears_11 (by decide +kernel) ?_
  refine lv_istore_n (lv' := [(2, .int 0), (0, .ref p0), (1, .int 0)]) hx hb dX7_bears_12 rfl hl (by decide) rfl (fun ls hl => ?_)
  refine lv_iconst (v := (-1)) hx hb dX7_bears_13 (by decide +kernel) ?_
  refine lv_istore_n (lv' := [(3, .int (-1)), (2, .int 0), (0, .ref p0), (1, .int 0)]) hx hb dX7_bears_14 rfl hl (by decide) rfl (fun ls hl => ?_)
  refine lv_iconst (v := (-1)) hx hb dX7_bears_15 (by decide +kernel) ?_
  refine lv_istore (lv' := [(4, .int (-1)), (3, .int (-1)), (2, .int 0), (0, .ref p0), (1, .int 0)]) hx hb dX7_bears_16 hl (by decide) rfl (fun ls hl => ?_)
  refine lv_iconst (v := 1) hx hb dX7_bears_18 (by decide +kernel) ?_
  refine lv_istore (lv' := [(5, .int 1), (4, .int (-1)), (3, .int (-1)), (2, .int 0), (0, .ref p0), (1, .int 0)]) hx hb dX7_bears_19 hl (by decide) rfl (fun ls hl => ?_)
  refine lv_iload hx hb dX7_bears_21 (lv_at hl 0 rfl) ?_
  refine lv_sipush (v := 999) hx hb dX7_bears_23 (by decide +kernel) ?_
  refine lv_icmp_gt (tgt := 66) hx hb dX7_bears_26 (by decide) (fun q9 => absurd q9 (by decide +kernel)) (fun _ => ?_)
  refine lv_aload_n hx hb dX7_bears_29 rfl (lv_at hl 4 rfl) ?_
  refine lv_iload hx hb dX7_bears_30 (lv_at hl 0 rfl) ?_
  refine k_ci (wc := [(p0, .inr (7, oM p1 (upd i7 1 0) j7))]) (wr := []) (fun hPc hDc hFc => va_runV (As := [.int 1]) (rest := []) ⟨hx, hb, hml, hown, hts⟩ (c_X7_canBear_v2 l dC dI cI cJ cZ cM p0 p1 H.size) (cwV 1 hts gX7_bears_X7_canBear rfl rfl rfl (by decide +kernel) ⟨(Nat.le_of_ble_eq_true rfl), (Nat.le_of_ble_eq_true rfl)⟩) (k_pV hPc hDc hK hN hC hS hFc hP (q0 := 0) (ci := 7) rfl rfl) rfl rfl hl.1 rfl (lv_room (Nat.le_of_ble_eq_true rfl)) dX7_bears_32 ⟨(Nat.le_of_ble_eq_true rfl), (Nat.le_of_ble_eq_true rfl)⟩) hP hD hS hA [0] [] rfl rfl rfl rfl (by decide) (fun _ => rfl) 0 0 rfl rfl (fun r_3 u_4 H locs hw hP hD hS => ?_)
  obtain rfl : r_3 = 1 := hw
  have hP : va_P (dC, dI) vwCl [(p0, .inr (7, oM p1 (upd i7 1 0) j7))] H := hP
  have hD : va_D A [(p0, .inr (7, oM p1 (upd i7 1 0) j7))] := hD
  refine lv_if_ne (tgt := 41) hx hb dX7_bears_35 (by decide) (fun _ => ?_) (fun q9 => absurd q9 (by decide +kernel))
  refine lv_iinc (v := 1) (lv' := [(2, .int 1), (5, .int 1), (4, .int (-1)), (3, .int (-1)), (0, .ref p0), (1, .int 0)]) hx hb dX7_bears_41 hl (k := 3) rfl (by decide +kernel) (by decide) rfl (fun ls hl => ?_)
  refine lv_iload_n hx hb dX7_bears_44 rfl (lv_at hl 3 rfl) ?_
  refine lv_iconst (v := (-1)) hx hb dX7_bears_45 (by decide +kernel) ?_
  refine lv_icmp_ne (tgt := 54) hx hb dX7_bears_46 (by decide) (fun q9 => absurd q9 (by decide +kernel)) (fun _ => ?_)
  refine lv_iload hx hb dX7_bears_49 (lv_at hl 1 rfl) ?_
  refine lv_goto (tgt := 55) hx hb dX7_bears_51 (by decide) ?_
  refine lv_istore_n (lv' := [(3, .int 1), (2, .int 1), (5, .int 1), (4, .int (-1)), (0, .ref p0), (1, .int 0)]) hx hb dX7_bears_55 rfl hl (by decide) rfl (fun ls hl => ?_)
  refine lv_iload hx hb dX7_bears_56 (lv_at hl 2 rfl) ?_
  refine lv_istore (lv' := [(4, .int 1), (3, .int 1), (2, .int 1), (5, .int 1), (0, .ref p0), (1, .int 0)]) hx hb dX7_bears_58 hl (by decide) rfl (fun ls hl => ?_)
  refine lv_iinc (v := 2) (lv' := [(5, .int 2), (4, .int 1), (3, .int 1), (2, .int 1), (0, .ref p0), (1, .int 0)]) hx hb dX7_bears_60 hl (k := 3) rfl (by decide +kernel) (by decide) rfl (fun ls hl => ?_)
  refine lv_goto (tgt := 21) hx hb dX7_bears_63 (by decide) ?_
  have loop_k_5 : ∀ (n_k_5 : Nat) (kk_5 : Nat) (h1k_5 : 1 ≤ kk_5) (h2k_5 : kk_5 ≤ 999) (hn_k_5 : 999 - kk_5 < n_k_5) (H : Heap) (locs : List Loc) (ls : Array Slot), va_P (dC, dI) vwCl [(p0, .inr (7, oM p1 (upd i7 1 0) j7))] H → va_D A [(p0, .inr (7, oM p1 (upd i7 1 0) j7))] → va_S A s.heap H locs → lv_has ls 6 [(5, .int (nI (kk_5 + 1))), (4, .int (nI kk_5)), (3, .int 1), (2, .int (nI kk_5)), (0, .ref p0), (1, .int 0)] → W p l e ({ frames := 2, cells := 0, slots := 0, locals := 62 }) s m args below meth c H locs 0 0 (MQ below (va_Qi (fun (r9 : Int32) (u9 : Unit) => r9 = 999) (fun u => k_B (dC, dI) vwCl (tyy cI cJ cZ cM) A ((fun (u9 : Unit) => [(p0, .inr (7, oM p1 (upd i7 1 0) j7))]) u)) A) args s 0 0 A) (F0 m 21 ls []) := by
    intro n_k_5
    induction n_k_5 with
    | zero => intro kk_5 h1k_5 h2k_5 hn_k_5; exact absurd hn_k_5 (Nat.not_lt_zero _)
    | succ n_k_5 ih_k_5 =>
      intro kk_5 h1k_5 h2k_5 hn_k_5 H locs ls hP hD hS hl
      refine lv_iload hx hb dX7_bears_21 (lv_at hl 0 rfl) ?_
      refine lv_sipush (v := 999) hx hb dX7_bears_23 (by decide +kernel) ?_
      refine lv_icmp_gt (tgt := 66) hx hb dX7_bears_26 (by decide) (fun c_6 => ?_) (fun c_6 => ?_)
      · have c_6 : 999 < (((kk_5 + 1) : Nat) : Int) := k_ltT (by decide +kernel) (nI_toInt (by omega)) c_6
        obtain rfl : kk_5 = 999 := by omega
        have hl : lv_has ls 6 [(5, .int 1000), (4, .int 999), (3, .int 1), (2, .int 999), (0, .ref p0), (1, .int 0)] := hl
        have hP : va_P (dC, dI) vwCl [(p0, .inr (7, oM p1 (upd i7 1 0) j7))] H := hP
        have hD : va_D A [(p0, .inr (7, oM p1 (upd i7 1 0) j7))] := hD
        refine lv_iload_n hx hb dX7_bears_66 rfl (lv_at hl 5 rfl) ?_
        refine lv_if_ne (tgt := 74) hx hb dX7_bears_67 (by decide) (fun q9 => absurd q9 (by decide +kernel)) (fun _ => ?_)
        refine lv_iload_n hx hb dX7_bears_70 rfl (lv_at hl 3 rfl) ?_
        refine lv_goto (tgt := 85) hx hb dX7_bears_71 (by decide) ?_
        exact k_ri B hP hD hS dX7_bears_85 () [0] rfl rfl rfl (Nat.le_of_ble_eq_true rfl) (Nat.le_of_ble_eq_true rfl) rfl
      · have c_6 : (((kk_5 + 1) : Nat) : Int) ≤ 999 := k_ltF (by decide +kernel) (nI_toInt (by omega)) c_6
        refine lv_aload_n hx hb dX7_bears_29 rfl (lv_at hl 4 rfl) ?_
        refine lv_iload hx hb dX7_bears_30 (lv_at hl 0 rfl) ?_
        refine k_ci (wc := [(p0, .inr (7, oM p1 (upd i7 1 0) j7))]) (wr := []) (fun hPc hDc hFc => va_runV (As := [.int (nI (kk_5 + 1))]) (rest := []) ⟨hx, hb, hml, hown, hts⟩ (c_X7_canBear_v3 l dC dI cI cJ cZ cM p0 kk_5 p1 (by omega) (by omega) H.size) (cwV 1 hts gX7_bears_X7_canBear rfl rfl rfl (by decide +kernel) ⟨(Nat.le_of_ble_eq_true rfl), (Nat.le_of_ble_eq_true rfl)⟩) (k_pV hPc hDc hK hN hC hS hFc hP (q0 := 0) (ci := 7) rfl rfl) rfl rfl hl.1 rfl (lv_room (Nat.le_of_ble_eq_true rfl)) dX7_bears_32 ⟨(Nat.le_of_ble_eq_true rfl), (Nat.le_of_ble_eq_true rfl)⟩) hP hD hS hA [0] [] rfl rfl rfl rfl (by decide) (fun _ => rfl) 0 0 rfl rfl (fun r_7 u_8 H locs hw hP hD hS => ?_)
        obtain rfl : r_7 = 1 := hw
        have hP : va_P (dC, dI) vwCl [(p0, .inr (7, oM p1 (upd i7 1 0) j7))] H := hP
        have hD : va_D A [(p0, .inr (7, oM p1 (upd i7 1 0) j7))] := hD
        refine lv_if_ne (tgt := 41) hx hb dX7_bears_35 (by decide) (fun _ => ?_) (fun q9 => absurd q9 (by decide +kernel))
        refine lv_iinc (v := (nI (kk_5 + 1))) (lv' := [(2, .int (nI (kk_5 + 1))), (5, .int (nI (kk_5 + 1))), (4, .int (nI kk_5)), (3, .int 1), (0, .ref p0), (1, .int 0)]) hx hb dX7_bears_41 hl (k := 3) rfl (nI_1 _) (by decide) rfl (fun ls hl => ?_)
        refine lv_iload_n hx hb dX7_bears_44 rfl (lv_at hl 3 rfl) ?_
        refine lv_iconst (v := (-1)) hx hb dX7_bears_45 (by decide +kernel) ?_
        refine lv_icmp_ne (tgt := 54) hx hb dX7_bears_46 (by decide) (fun _ => ?_) (fun q9 => absurd q9 (by decide +kernel))
        refine lv_iload_n hx hb dX7_bears_54 rfl (lv_at hl 3 rfl) ?_
        refine lv_istore_n (lv' := [(3, .int 1), (2, .int (nI (kk_5 + 1))), (5, .int (nI (kk_5 + 1))), (4, .int (nI kk_5)), (0, .ref p0), (1, .int 0)]) hx hb dX7_bears_55 rfl hl (by decide) rfl (fun ls hl => ?_)
        refine lv_iload hx hb dX7_bears_56 (lv_at hl 2 rfl) ?_
        refine lv_istore (lv' := [(4, .int (nI (kk_5 + 1))), (3, .int 1), (2, .int (nI (kk_5 + 1))), (5, .int (nI (kk_5 + 1))), (0, .ref p0), (1, .int 0)]) hx hb dX7_bears_58 hl (by decide) rfl (fun ls hl => ?_)
        refine lv_iinc (v := (nI ((kk_5 + 1) + 1))) (lv' := [(5, .int (nI ((kk_5 + 1) + 1))), (4, .int (nI (kk_5 + 1))), (3, .int 1), (2, .int (nI (kk_5 + 1))), (0, .ref p0), (1, .int 0)]) hx hb dX7_bears_60 hl (k := 3) rfl (nI_1 _) (by decide) rfl (fun ls hl => ?_)
        refine lv_goto (tgt := 21) hx hb dX7_bears_63 (by decide) ?_
        exact ih_k_5 (kk_5 + 1) (by omega) (by omega) (by omega) H locs ls (hP.sub [0] rfl) (hD.sub [0] (by decide) rfl) hS (lv_sub hl [0, 1, 2, 3, 4, 5] rfl)
  exact loop_k_5 _ 1 (by omega) (by omega) (Nat.lt_succ_self _) H locs ls hP hD hS hl
set_option maxHeartbeats 4000000 in
set_option maxRecDepth 100000 in
theorem c_X7_worthOf_v2 (l : Launch) (dC : Nat → ClassId) (dI : Nat → Nat → Nat) (cI cJ cZ cM : ClassId) (p0 : Nat) (p1 : Nat → Nat)   : k_Mi l yX7_worthOf wsX7_worthOf ({ frames := 1, cells := 0, slots := 0, locals := 40 }) (dC, dI) vwCl (tyy cI cJ cZ cM) [(p0, .inr (7, oM p1 (upd i7 1 0) j7)), ((p1 14), .inl (cI, 2, .inl (fun _ => 0)))] [.ref p0, .int 0] 0 0 (fun (u9 : Unit) => [(p0, .inr (7, oM p1 (upd i7 1 0) j7)), ((p1 14), .inl (cI, 2, .inl (fun _ => 0)))]) (fun (r9 : Int32) (u9 : Unit) => r9 = 0) := by
  refine fun sz => k_enter (cc := cX7_worthOf) (maxL := 4) (ret := some (.int)) (Qc := fun A => va_Qi (fun (r9 : Int32) (u9 : Unit) => r9 = 0) (fun u => k_B (dC, dI) vwCl (tyy cI cJ cZ cM) A ((fun (u9 : Unit) => [(p0, .inr (7, oM p1 (upd i7 1 0) j7)), ((p1 14), .inl (cI, 2, .inl (fun _ => 0)))]) u)) A) sz (by decide +kernel) rfl (Nat.le_of_ble_eq_true rfl) (fun p e s m args below meth c A ls H locs B hP hD hS hl => ?_)
  obtain ⟨hx, hb, hml, hown, hts, hr, hlk, hnm, hK, hA, hN, hC⟩ := id B
  have hown : s.vm.findClass RX7 = some m.cls := hown
  have hl : lv_has ls 4 [(0, .ref p0), (1, .int 0)] := hl
  have w_0 : (Cond.fieldLink RX7 54 "WishSeaModel" "things" "[I").before args s = true := hts _ (List.mem_of_getElem? (i := 1) rfl)
  have w_1 : (Cond.fieldLink RX7 51 "WishSeaModel" "bank" "I").before args s = true := hts _ (List.mem_of_getElem? (i := 2) rfl)
  have hinX7 : ∀ w ∈ u_ws RX7 TX7 92, w ∈ wsX7_worthOf := fun _ h => List.mem_cons_of_mem _ (List.mem_append_right _ h)
  refine lv_iconst (v := 0) hx hb dX7_worthOf_0 (by decide +kernel) ?_
  refine lv_istore_n (lv' := [(2, .int 0), (0, .ref p0), (1, .int 0)]) hx hb dX7_worthOf_1 rfl hl (by decide) rfl (fun ls hl => ?_)
  refine lv_iconst (v := 0) hx hb dX7_worthOf_2 (by decide +kernel) ?_
  refine lv_istore_n (lv' := [(3, .int 0), (2, .int 0), (0, .ref p0), (1, .int 0)]) hx hb dX7_worthOf_3 rfl hl (by decide) rfl (fun ls hl => ?_)
  refine lv_iload_n hx hb dX7_worthOf_4 rfl (lv_at hl 0 rfl) ?_
  refine lv_aload_n hx hb dX7_worthOf_5 rfl (lv_at hl 2 rfl) ?_
  refine k_get (D := (dC, dI)) (ci := 7) (v := .ref (p1 14)) (C := RX7) (T := TX7) (N := 92) hx hb hts hinX7 hown hK hP 0 rfl rfl 14 (by decide) w_0 rfl rfl dX7_worthOf_6 ?_
  refine lv_aload_n hx hb dX7_worthOf_9 rfl (lv_at hl 2 rfl) ?_
  refine k_get (D := (dC, dI)) (ci := 7) (v := .int 0) (C := RX7) (T := TX7) (N := 92) hx hb hts hinX7 hown hK hP 0 rfl rfl 13 (by decide) w_1 rfl rfl dX7_worthOf_10 ?_
  refine k_iald (v := 0) hx hb hK hP 1 0 0 rfl rfl rfl (Nat.le_of_ble_eq_true rfl) (Nat.le_of_ble_eq_true rfl) rfl dX7_worthOf_13 ?_
  refine lv_icmp_ge (tgt := 52) hx hb dX7_worthOf_14 (by decide) (fun _ => ?_) (fun q9 => absurd q9 (by decide +kernel))
  refine lv_iload_n hx hb dX7_worthOf_52 rfl (lv_at hl 1 rfl) ?_
  exact k_ri B hP hD hS dX7_worthOf_53 () [0, 1] rfl rfl rfl (Nat.le_of_ble_eq_true rfl) (Nat.le_of_ble_eq_true rfl) rfl
set_option maxHeartbeats 4000000 in
set_option maxRecDepth 100000 in
theorem c_X7_goesRow_v0 (l : Launch) (dC : Nat → ClassId) (dI : Nat → Nat → Nat) (cI cJ cZ cM : ClassId) (p0 : Nat) (p1 : Nat → Nat)   : k_Mi l yX7_goesRow wsX7_goesRow ({ frames := 2, cells := 0, slots := 0, locals := 63 }) (dC, dI) vwCl (tyy cI cJ cZ cM) [(p0, .inr (7, oM p1 (upd i7 1 0) j7)), ((p1 49), .inl (cI, 22, .inl (fun _ => 0))), ((p1 50), .inl (cI, 22, .inl (fun _ => 0))), ((p1 82), .inl (cI, 13, .inl (fun _ => 0))), ((p1 14), .inl (cI, 2, .inl (fun _ => 0))), ((p1 83), .inl (cI, 13, .inl (fun _ => 0)))] [.ref p0, .int 0] 0 0 (fun (u9 : Unit) => [(p0, .inr (7, oM p1 (upd i7 1 0) j7)), ((p1 49), .inl (cI, 22, .inl (fun _ => 0))), ((p1 50), .inl (cI, 22, .inl (fun _ => 0))), ((p1 82), .inl (cI, 13, .inl (upd (fun _ => 0) 0 0))), ((p1 14), .inl (cI, 2, .inl (fun _ => 0))), ((p1 83), .inl (cI, 13, .inl (upd (fun _ => 0) 0 0)))]) (fun (r9 : Int32) (u9 : Unit) => r9 = 1) := by
  refine fun sz => k_enter (cc := cX7_goesRow) (maxL := 5) (ret := some (.boolean)) (Qc := fun A => va_Qi (fun (r9 : Int32) (u9 : Unit) => r9 = 1) (fun u => k_B (dC, dI) vwCl (tyy cI cJ cZ cM) A ((fun (u9 : Unit) => [(p0, .inr (7, oM p1 (upd i7 1 0) j7)), ((p1 49), .inl (cI, 22, .inl (fun _ => 0))), ((p1 50), .inl (cI, 22, .inl (fun _ => 0))), ((p1 82), .inl (cI, 13, .inl (upd (fun _ => 0) 0 0))), ((p1 14), .inl (cI, 2, .inl (fun _ => 0))), ((p1 83), .inl (cI, 13, .inl (upd (fun _ => 0) 0 0)))]) u)) A) sz (by decide +kernel) rfl (Nat.le_of_ble_eq_true rfl) (fun p e s m args below meth c A ls H locs B hP hD hS hl => ?_)
  obtain ⟨hx, hb, hml, hown, hts, hr, hlk, hnm, hK, hA, hN, hC⟩ := id B
  have hown : s.vm.findClass RX7 = some m.cls := hown
  have hl : lv_has ls 5 [(0, .ref p0), (1, .int 0)] := hl
  have w_0 : (Cond.fieldLink RX7 162 "WishSeaModel" "hadOf" "[I").before args s = true := hts _ (List.mem_of_getElem? (i := 1) rfl)
  have w_1 : (Cond.fieldLink RX7 165 "WishSeaModel" "seaOf" "[I").before args s = true := hts _ (List.mem_of_getElem? (i := 2) rfl)
  have w_2 : (Cond.fieldLink RX7 261 "WishSeaModel" "triedSea" "[I").before args s = true := hts _ (List.mem_of_getElem? (i := 3) rfl)
  have w_3 : (Cond.fieldLink RX7 264 "WishSeaModel" "triedWorth" "[I").before args s = true := hts _ (List.mem_of_getElem? (i := 4) rfl)
  have hinX7 : ∀ w ∈ u_ws RX7 TX7 92, w ∈ wsX7_goesRow := fun _ h => List.mem_cons_of_mem _ (List.mem_append_right _ h)
  refine lv_aload_n hx hb dX7_goesRow_0 rfl (lv_at hl 0 rfl) ?_
  refine k_get (D := (dC, dI)) (ci := 7) (v := .ref (p1 49)) (C := RX7) (T := TX7) (N := 92) hx hb hts hinX7 hown hK hP 0 rfl rfl 49 (by decide) w_0 rfl rfl dX7_goesRow_1 ?_
  refine lv_iconst (v := 0) hx hb dX7_goesRow_4 (by decide +kernel) ?_
  refine k_iald (v := 0) hx hb hK hP 1 0 0 rfl rfl rfl (Nat.le_of_ble_eq_true rfl) (Nat.le_of_ble_eq_true rfl) rfl dX7_goesRow_5 ?_
  refine lv_istore_n (lv' := [(2, .int 0), (0, .ref p0), (1, .int 0)]) hx hb dX7_goesRow_6 rfl hl (by decide) rfl (fun ls hl => ?_)
  refine lv_aload_n hx hb dX7_goesRow_7 rfl (lv_at hl 1 rfl) ?_
  refine k_get (D := (dC, dI)) (ci := 7) (v := .ref (p1 50)) (C := RX7) (T := TX7) (N := 92) hx hb hts hinX7 hown hK hP 0 rfl rfl 50 (by decide) w_1 rfl rfl dX7_goesRow_8 ?_
  refine lv_iconst (v := 0) hx hb dX7_goesRow_11 (by decide +kernel) ?_
  refine k_iald (v := 0) hx hb hK hP 2 0 0 rfl rfl rfl (Nat.le_of_ble_eq_true rfl) (Nat.le_of_ble_eq_true rfl) rfl dX7_goesRow_12 ?_
  refine lv_istore_n (lv' := [(3, .int 0), (2, .int 0), (0, .ref p0), (1, .int 0)]) hx hb dX7_goesRow_13 rfl hl (by decide) rfl (fun ls hl => ?_)
  refine lv_aload_n hx hb dX7_goesRow_14 rfl (lv_at hl 2 rfl) ?_
  refine k_get (D := (dC, dI)) (ci := 7) (v := .ref (p1 82)) (C := RX7) (T := TX7) (N := 92) hx hb hts hinX7 hown hK hP 0 rfl rfl 82 (by decide) w_2 rfl rfl dX7_goesRow_15 ?_
  refine lv_iconst (v := 0) hx hb dX7_goesRow_18 (by decide +kernel) ?_
  refine lv_iconst (v := 0) hx hb dX7_goesRow_19 (by decide +kernel) ?_
  refine k_iast (g := (upd (fun _ => 0) 0 0)) (ws' := [(p0, .inr (7, oM p1 (upd i7 1 0) j7)), ((p1 49), .inl (cI, 22, .inl (fun _ => 0))), ((p1 50), .inl (cI, 22, .inl (fun _ => 0))), ((p1 82), .inl (cI, 13, .inl (upd (fun _ => 0) 0 0))), ((p1 14), .inl (cI, 2, .inl (fun _ => 0))), ((p1 83), .inl (cI, 13, .inl (fun _ => 0)))]) hx hb hK hP hD hS 3 0 0 rfl rfl rfl (Nat.le_of_ble_eq_true rfl) (Nat.le_of_ble_eq_true rfl) rfl rfl dX7_goesRow_20 (fun H locs hP hD hS => ?_)
  refine lv_aload_n hx hb dX7_goesRow_21 rfl (lv_at hl 2 rfl) ?_
  refine k_get (D := (dC, dI)) (ci := 7) (v := .ref (p1 83)) (C := RX7) (T := TX7) (N := 92) hx hb hts hinX7 hown hK hP 0 rfl rfl 83 (by decide) w_3 rfl rfl dX7_goesRow_22 ?_
  refine lv_iconst (v := 0) hx hb dX7_goesRow_25 (by decide +kernel) ?_
  refine lv_aload_n hx hb dX7_goesRow_26 rfl (lv_at hl 2 rfl) ?_
  refine lv_iload_n hx hb dX7_goesRow_27 rfl (lv_at hl 1 rfl) ?_
  refine k_ci (wc := [(p0, .inr (7, oM p1 (upd i7 1 0) j7)), ((p1 14), .inl (cI, 2, .inl (fun _ => 0)))]) (wr := [((p1 49), .inl (cI, 22, .inl (fun _ => 0))), ((p1 50), .inl (cI, 22, .inl (fun _ => 0))), ((p1 82), .inl (cI, 13, .inl (upd (fun _ => 0) 0 0))), ((p1 83), .inl (cI, 13, .inl (fun _ => 0)))]) (fun hPc hDc hFc => va_runV (As := [.int 0]) (rest := [.int 0, .ref (p1 83)]) ⟨hx, hb, hml, hown, hts⟩ (c_X7_worthOf_v2 l dC dI cI cJ cZ cM p0 p1 H.size) (cwV 1 hts gX7_goesRow_X7_worthOf rfl rfl rfl (by decide +kernel) ⟨(Nat.le_of_ble_eq_true rfl), (Nat.le_of_ble_eq_true rfl)⟩) (k_pV hPc hDc hK hN hC hS hFc hP (q0 := 0) (ci := 7) rfl rfl) rfl rfl hl.1 rfl (lv_room (Nat.le_of_ble_eq_true rfl)) dX7_goesRow_28 ⟨(Nat.le_of_ble_eq_true rfl), (Nat.le_of_ble_eq_true rfl)⟩) hP hD hS hA [0, 4] [1, 2, 3, 5] rfl rfl rfl rfl (by decide) (fun _ => rfl) 0 0 rfl rfl (fun r_1 u_2 H locs hw hP hD hS => ?_)
  obtain rfl : r_1 = 0 := hw
  have hP : va_P (dC, dI) vwCl [((p1 49), .inl (cI, 22, .inl (fun _ => 0))), ((p1 50), .inl (cI, 22, .inl (fun _ => 0))), ((p1 82), .inl (cI, 13, .inl (upd (fun _ => 0) 0 0))), ((p1 83), .inl (cI, 13, .inl (fun _ => 0))), (p0, .inr (7, oM p1 (upd i7 1 0) j7)), ((p1 14), .inl (cI, 2, .inl (fun _ => 0)))] H := hP
  have hD : va_D A [((p1 49), .inl (cI, 22, .inl (fun _ => 0))), ((p1 50), .inl (cI, 22, .inl (fun _ => 0))), ((p1 82), .inl (cI, 13, .inl (upd (fun _ => 0) 0 0))), ((p1 83), .inl (cI, 13, .inl (fun _ => 0))), (p0, .inr (7, oM p1 (upd i7 1 0) j7)), ((p1 14), .inl (cI, 2, .inl (fun _ => 0)))] := hD
  refine k_iast (g := (upd (fun _ => 0) 0 0)) (ws' := [((p1 49), .inl (cI, 22, .inl (fun _ => 0))), ((p1 50), .inl (cI, 22, .inl (fun _ => 0))), ((p1 82), .inl (cI, 13, .inl (upd (fun _ => 0) 0 0))), ((p1 83), .inl (cI, 13, .inl (upd (fun _ => 0) 0 0))), (p0, .inr (7, oM p1 (upd i7 1 0) j7)), ((p1 14), .inl (cI, 2, .inl (fun _ => 0)))]) hx hb hK hP hD hS 3 0 0 rfl rfl rfl (Nat.le_of_ble_eq_true rfl) (Nat.le_of_ble_eq_true rfl) rfl rfl dX7_goesRow_31 (fun H locs hP hD hS => ?_)
  refine lv_iconst (v := 0) hx hb dX7_goesRow_32 (by decide +kernel) ?_
  refine lv_istore (lv' := [(4, .int 0), (3, .int 0), (2, .int 0), (0, .ref p0), (1, .int 0)]) hx hb dX7_goesRow_33 hl (by decide) rfl (fun ls hl => ?_)
  refine lv_iload hx hb dX7_goesRow_35 (lv_at hl 0 rfl) ?_
  refine lv_iload_n hx hb dX7_goesRow_37 rfl (lv_at hl 4 rfl) ?_
  refine lv_icmp_ge (tgt := 156) hx hb dX7_goesRow_38 (by decide) (fun _ => ?_) (fun q9 => absurd q9 (by decide +kernel))
  refine lv_iconst (v := 1) hx hb dX7_goesRow_156 (by decide +kernel) ?_
  exact k_ri B hP hD hS dX7_goesRow_157 () [4, 0, 1, 2, 5, 3] rfl rfl rfl (Nat.le_of_ble_eq_true rfl) (Nat.le_of_ble_eq_true rfl) rfl
set_option maxHeartbeats 4000000 in
set_option maxRecDepth 100000 in
theorem c_X7_worthOf_v3 (l : Launch) (dC : Nat → ClassId) (dI : Nat → Nat → Nat) (cI cJ cZ cM : ClassId) (p0 : Nat) (p1 : Nat → Nat)   : k_Mi l yX7_worthOf wsX7_worthOf ({ frames := 1, cells := 0, slots := 0, locals := 40 }) (dC, dI) vwCl (tyy cI cJ cZ cM) [(p0, .inr (7, oM p1 (upd (upd i7 1 0) 80 0) j7)), ((p1 14), .inl (cI, 2, .inl (fun _ => 0)))] [.ref p0, .int 0] 0 0 (fun (u9 : Unit) => [(p0, .inr (7, oM p1 (upd (upd i7 1 0) 80 0) j7)), ((p1 14), .inl (cI, 2, .inl (fun _ => 0)))]) (fun (r9 : Int32) (u9 : Unit) => r9 = 0) := by
  refine fun sz => k_enter (cc := cX7_worthOf) (maxL := 4) (ret := some (.int)) (Qc := fun A => va_Qi (fun (r9 : Int32) (u9 : Unit) => r9 = 0) (fun u => k_B (dC, dI) vwCl (tyy cI cJ cZ cM) A ((fun (u9 : Unit) => [(p0, .inr (7, oM p1 (upd (upd i7 1 0) 80 0) j7)), ((p1 14), .inl (cI, 2, .inl (fun _ => 0)))]) u)) A) sz (by decide +kernel) rfl (Nat.le_of_ble_eq_true rfl) (fun p e s m args below meth c A ls H locs B hP hD hS hl => ?_)
  obtain ⟨hx, hb, hml, hown, hts, hr, hlk, hnm, hK, hA, hN, hC⟩ := id B
  have hown : s.vm.findClass RX7 = some m.cls := hown
  have hl : lv_has ls 4 [(0, .ref p0), (1, .int 0)] := hl
  have w_0 : (Cond.fieldLink RX7 54 "WishSeaModel" "things" "[I").before args s = true := hts _ (List.mem_of_getElem? (i := 1) rfl)
  have w_1 : (Cond.fieldLink RX7 51 "WishSeaModel" "bank" "I").before args s = true := hts _ (List.mem_of_getElem? (i := 2) rfl)
  have hinX7 : ∀ w ∈ u_ws RX7 TX7 92, w ∈ wsX7_worthOf := fun _ h => List.mem_cons_of_mem _ (List.mem_append_right _ h)
  refine lv_iconst (v := 0) hx hb dX7_worthOf_0 (by decide +kernel) ?_
  refine lv_istore_n (lv' := [(2, .int 0), (0, .ref p0), (1, .int 0)]) hx hb dX7_worthOf_1 rfl hl (by decide) rfl (fun ls hl => ?_)
  refine lv_iconst (v := 0) hx hb dX7_worthOf_2 (by decide +kernel) ?_
  refine lv_istore_n (lv' := [(3, .int 0), (2, .int 0), (0, .ref p0), (1, .int 0)]) hx hb dX7_worthOf_3 rfl hl (by decide) rfl (fun ls hl => ?_)
  refine lv_iload_n hx hb dX7_worthOf_4 rfl (lv_at hl 0 rfl) ?_
  refine lv_aload_n hx hb dX7_worthOf_5 rfl (lv_at hl 2 rfl) ?_
  refine k_get (D := (dC, dI)) (ci := 7) (v := .ref (p1 14)) (C := RX7) (T := TX7) (N := 92) hx hb hts hinX7 hown hK hP 0 rfl rfl 14 (by decide) w_0 rfl rfl dX7_worthOf_6 ?_
  refine lv_aload_n hx hb dX7_worthOf_9 rfl (lv_at hl 2 rfl) ?_
  refine k_get (D := (dC, dI)) (ci := 7) (v := .int 0) (C := RX7) (T := TX7) (N := 92) hx hb hts hinX7 hown hK hP 0 rfl rfl 13 (by decide) w_1 rfl rfl dX7_worthOf_10 ?_
  refine k_iald (v := 0) hx hb hK hP 1 0 0 rfl rfl rfl (Nat.le_of_ble_eq_true rfl) (Nat.le_of_ble_eq_true rfl) rfl dX7_worthOf_13 ?_
  refine lv_icmp_ge (tgt := 52) hx hb dX7_worthOf_14 (by decide) (fun _ => ?_) (fun q9 => absurd q9 (by decide +kernel))
  refine lv_iload_n hx hb dX7_worthOf_52 rfl (lv_at hl 1 rfl) ?_
  exact k_ri B hP hD hS dX7_worthOf_53 () [0, 1] rfl rfl rfl (Nat.le_of_ble_eq_true rfl) (Nat.le_of_ble_eq_true rfl) rfl
set_option maxHeartbeats 4000000 in
set_option maxRecDepth 100000 in
theorem c_X7_canBear_v4 (l : Launch) (dC : Nat → ClassId) (dI : Nat → Nat → Nat) (cI cJ cZ cM : ClassId) (p0 : Nat) (p1 : Nat → Nat)   : k_Mi l yX7_canBear wsX7_canBear ({ frames := 1, cells := 0, slots := 0, locals := 40 }) (dC, dI) vwCl (tyy cI cJ cZ cM) [(p0, .inr (7, oM p1 (upd (upd i7 1 0) 80 0) j7))] [.ref p0, .int 1] 0 0 (fun (u9 : Unit) => [(p0, .inr (7, oM p1 (upd (upd i7 1 0) 80 0) j7))]) (fun (r9 : Int32) (u9 : Unit) => r9 = 1) := by
  refine fun sz => k_enter (cc := cX7_canBear) (maxL := 3) (ret := some (.boolean)) (Qc := fun A => va_Qi (fun (r9 : Int32) (u9 : Unit) => r9 = 1) (fun u => k_B (dC, dI) vwCl (tyy cI cJ cZ cM) A ((fun (u9 : Unit) => [(p0, .inr (7, oM p1 (upd (upd i7 1 0) 80 0) j7))]) u)) A) sz (by decide +kernel) rfl (Nat.le_of_ble_eq_true rfl) (fun p e s m args below meth c A ls H locs B hP hD hS hl => ?_)
  obtain ⟨hx, hb, hml, hown, hts, hr, hlk, hnm, hK, hA, hN, hC⟩ := id B
  have hown : s.vm.findClass RX7 = some m.cls := hown
  have hl : lv_has ls 3 [(0, .ref p0), (1, .int 1)] := hl
  have w_0 : (Cond.fieldLink RX7 246 "WishSeaModel" "fallMany" "I").before args s = true := hts _ (List.mem_of_getElem? (i := 1) rfl)
  have hinX7 : ∀ w ∈ u_ws RX7 TX7 92, w ∈ wsX7_canBear := fun _ h => List.mem_cons_of_mem _ (List.mem_append_right _ h)
  refine lv_iconst (v := 0) hx hb dX7_canBear_0 (by decide +kernel) ?_
  refine lv_istore_n (lv' := [(2, .int 0), (0, .ref p0), (1, .int 1)]) hx hb dX7_canBear_1 rfl hl (by decide) rfl (fun ls hl => ?_)
  refine lv_iload_n hx hb dX7_canBear_2 rfl (lv_at hl 0 rfl) ?_
  refine lv_aload_n hx hb dX7_canBear_3 rfl (lv_at hl 1 rfl) ?_
  refine k_get (D := (dC, dI)) (ci := 7) (v := .int 0) (C := RX7) (T := TX7) (N := 92) hx hb hts hinX7 hown hK hP 0 rfl rfl 77 (by decide) w_0 rfl rfl dX7_canBear_4 ?_
  refine lv_icmp_ge (tgt := 42) hx hb dX7_canBear_7 (by decide) (fun _ => ?_) (fun q9 => absurd q9 (by decide +kernel))
  refine lv_iconst (v := 1) hx hb dX7_canBear_42 (by decide +kernel) ?_
  exact k_ri B hP hD hS dX7_canBear_43 () [0] rfl rfl rfl (Nat.le_of_ble_eq_true rfl) (Nat.le_of_ble_eq_true rfl) rfl
set_option maxHeartbeats 4000000 in
set_option maxRecDepth 100000 in
theorem c_X7_canBear_v5 (l : Launch) (dC : Nat → ClassId) (dI : Nat → Nat → Nat) (cI cJ cZ cM : ClassId) (p0 : Nat) (p1 : Nat) (p2 : Nat → Nat) (b_0 : 0 ≤ (((p1 + 1) : Nat) : Int)) (t_0 : (((p1 + 1) : Nat) : Int) ≤ 999)  : k_Mi l yX7_canBear wsX7_canBear ({ frames := 1, cells := 0, slots := 0, locals := 40 }) (dC, dI) vwCl (tyy cI cJ cZ cM) [(p0, .inr (7, oM p2 (upd (upd i7 1 0) 80 0) j7))] [.ref p0, .int (nI (p1 + 1))] 0 0 (fun (u9 : Unit) => [(p0, .inr (7, oM p2 (upd (upd i7 1 0) 80 0) j7))]) (fun (r9 : Int32) (u9 : Unit) => r9 = 1) := by
  refine fun sz => k_enter (cc := cX7_canBear) (maxL := 3) (ret := some (.boolean)) (Qc := fun A => va_Qi (fun (r9 : Int32) (u9 : Unit) => r9 = 1) (fun u => k_B (dC, dI) vwCl (tyy cI cJ cZ cM) A ((fun (u9 : Unit) => [(p0, .inr (7, oM p2 (upd (upd i7 1 0) 80 0) j7))]) u)) A) sz (by decide +kernel) rfl (Nat.le_of_ble_eq_true rfl) (fun p e s m args below meth c A ls H locs B hP hD hS hl => ?_)
  obtain ⟨hx, hb, hml, hown, hts, hr, hlk, hnm, hK, hA, hN, hC⟩ := id B
  have hown : s.vm.findClass RX7 = some m.cls := hown
  have hl : lv_has ls 3 [(0, .ref p0), (1, .int (nI (p1 + 1)))] := hl
  have w_0 : (Cond.fieldLink RX7 246 "WishSeaModel" "fallMany" "I").before args s = true := hts _ (List.mem_of_getElem? (i := 1) rfl)
  have hinX7 : ∀ w ∈ u_ws RX7 TX7 92, w ∈ wsX7_canBear := fun _ h => List.mem_cons_of_mem _ (List.mem_append_right _ h)
  refine lv_iconst (v := 0) hx hb dX7_canBear_0 (by decide +kernel) ?_
  refine lv_istore_n (lv' := [(2, .int 0), (0, .ref p0), (1, .int (nI (p1 + 1)))]) hx hb dX7_canBear_1 rfl hl (by decide) rfl (fun ls hl => ?_)
  refine lv_iload_n hx hb dX7_canBear_2 rfl (lv_at hl 0 rfl) ?_
  refine lv_aload_n hx hb dX7_canBear_3 rfl (lv_at hl 1 rfl) ?_
  refine k_get (D := (dC, dI)) (ci := 7) (v := .int 0) (C := RX7) (T := TX7) (N := 92) hx hb hts hinX7 hown hK hP 0 rfl rfl 77 (by decide) w_0 rfl rfl dX7_canBear_4 ?_
  refine lv_icmp_ge (tgt := 42) hx hb dX7_canBear_7 (by decide) (fun _ => ?_) (fun q9 => absurd q9 (by decide +kernel))
  refine lv_iconst (v := 1) hx hb dX7_canBear_42 (by decide +kernel) ?_
  exact k_ri B hP hD hS dX7_canBear_43 () [0] rfl rfl rfl (Nat.le_of_ble_eq_true rfl) (Nat.le_of_ble_eq_true rfl) rfl
set_option maxHeartbeats 4000000 in
set_option maxRecDepth 100000 in
theorem c_X7_stop_v0 (l : Launch) (dC : Nat → ClassId) (dI : Nat → Nat → Nat) (cI cJ cZ cM : ClassId) (p0 : Nat) (p1 : Nat → Nat)   : k_Mi l yX7_stop wsX7_stop ({ frames := 3, cells := 0, slots := 0, locals := 87 }) (dC, dI) vwCl (tyy cI cJ cZ cM) [(p0, .inr (7, oM p1 i7 j7)), ((p1 49), .inl (cI, 22, .inl (fun _ => 0))), ((p1 50), .inl (cI, 22, .inl (fun _ => 0))), ((p1 82), .inl (cI, 13, .inl (fun _ => 0))), ((p1 14), .inl (cI, 2, .inl (fun _ => 0))), ((p1 83), .inl (cI, 13, .inl (fun _ => 0))), ((p1 23), .inl (cI, 2, .inl (fun _ => 0))), ((p1 81), .inl (cJ, 13, .inr (.inl (fun _ => 0))))] [.ref p0] 0 0 (fun (u9 : Unit) => [(p0, .inr (7, oM p1 (upd (upd i7 1 0) 80 0) j7)), ((p1 49), .inl (cI, 22, .inl (fun _ => 0))), ((p1 50), .inl (cI, 22, .inl (fun _ => 0))), ((p1 82), .inl (cI, 13, .inl (upd (fun _ => 0) 0 0))), ((p1 14), .inl (cI, 2, .inl (fun _ => 0))), ((p1 83), .inl (cI, 13, .inl (upd (fun _ => 0) 0 0))), ((p1 23), .inl (cI, 2, .inl (fun _ => 0)))]) (fun (r9 : Int32) (u9 : Unit) => r9 = 0) := by
  refine fun sz => k_enter (cc := cX7_stop) (maxL := 6) (ret := some (.int)) (Qc := fun A => va_Qi (fun (r9 : Int32) (u9 : Unit) => r9 = 0) (fun u => k_B (dC, dI) vwCl (tyy cI cJ cZ cM) A ((fun (u9 : Unit) => [(p0, .inr (7, oM p1 (upd (upd i7 1 0) 80 0) j7)), ((p1 49), .inl (cI, 22, .inl (fun _ => 0))), ((p1 50), .inl (cI, 22, .inl (fun _ => 0))), ((p1 82), .inl (cI, 13, .inl (upd (fun _ => 0) 0 0))), ((p1 14), .inl (cI, 2, .inl (fun _ => 0))), ((p1 83), .inl (cI, 13, .inl (upd (fun _ => 0) 0 0))), ((p1 23), .inl (cI, 2, .inl (fun _ => 0)))]) u)) A) sz (by decide +kernel) rfl (Nat.le_of_ble_eq_true rfl) (fun p e s m args below meth c A ls H locs B hP hD hS hl => ?_)
  obtain ⟨hx, hb, hml, hown, hts, hr, hlk, hnm, hK, hA, hN, hC⟩ := id B
  have hown : s.vm.findClass RX7 = some m.cls := hown
  have hl : lv_has ls 6 [(0, .ref p0)] := hl
  have w_0 : (Cond.fieldLink RX7 13 "WishSeaModel" "taped" "I").before args s = true := hts _ (List.mem_of_getElem? (i := 1) rfl)
  have w_1 : (Cond.fieldLink RX7 255 "WishSeaModel" "stopMany" "I").before args s = true := hts _ (List.mem_of_getElem? (i := 2) rfl)
  have w_2 : (Cond.fieldLink RX7 81 "WishSeaModel" "firstOnes" "[I").before args s = true := hts _ (List.mem_of_getElem? (i := 3) rfl)
  have w_3 : (Cond.fieldLink RX7 51 "WishSeaModel" "bank" "I").before args s = true := hts _ (List.mem_of_getElem? (i := 4) rfl)
  have w_4 : (Cond.fieldLink RX7 258 "WishSeaModel" "values" "[J").before args s = true := hts _ (List.mem_of_getElem? (i := 5) rfl)
  have w_5 : (Cond.fieldLink RX7 261 "WishSeaModel" "triedSea" "[I").before args s = true := hts _ (List.mem_of_getElem? (i := 6) rfl)
  have w_6 : (Cond.fieldLink RX7 264 "WishSeaModel" "triedWorth" "[I").before args s = true := hts _ (List.mem_of_getElem? (i := 7) rfl)
  have hinX7 : ∀ w ∈ u_ws RX7 TX7 92, w ∈ wsX7_stop := fun _ h => List.mem_cons_of_mem _ (List.mem_append_right _ h)
  refine lv_aload_n hx hb dX7_stop_0 rfl (lv_at hl 0 rfl) ?_
  refine k_get (D := (dC, dI)) (ci := 7) (v := .int 0) (C := RX7) (T := TX7) (N := 92) hx hb hts hinX7 hown hK hP 0 rfl rfl 1 (by decide) w_0 rfl rfl dX7_stop_1 ?_
  refine lv_istore_n (lv' := [(1, .int 0), (0, .ref p0)]) hx hb dX7_stop_4 rfl hl (by decide) rfl (fun ls hl => ?_)
  refine lv_aload_n hx hb dX7_stop_5 rfl (lv_at hl 1 rfl) ?_
  refine lv_iconst (v := 0) hx hb dX7_stop_6 (by decide +kernel) ?_
  refine k_put (D := (dC, dI)) (ci := 7) (v := .int 0) (C := RX7) (T := TX7) (N := 92) (ws' := [(p0, .inr (7, oM p1 (upd i7 1 0) j7)), ((p1 49), .inl (cI, 22, .inl (fun _ => 0))), ((p1 50), .inl (cI, 22, .inl (fun _ => 0))), ((p1 82), .inl (cI, 13, .inl (fun _ => 0))), ((p1 14), .inl (cI, 2, .inl (fun _ => 0))), ((p1 83), .inl (cI, 13, .inl (fun _ => 0))), ((p1 23), .inl (cI, 2, .inl (fun _ => 0))), ((p1 81), .inl (cJ, 13, .inr (.inl (fun _ => 0))))]) hx hb hts hinX7 tyX7 tyX7_ok nmX7 hown hK hP hD hS 0 rfl rfl 1 (by decide) w_0 rfl rfl rfl rfl (Nat.le_of_ble_eq_true rfl) rfl dX7_stop_7 (fun H locs hP hD hS => ?_)
  refine lv_iload_n hx hb dX7_stop_10 rfl (lv_at hl 0 rfl) ?_
  refine lv_bipush (v := 12) hx hb dX7_stop_11 (by decide +kernel) ?_
  refine lv_icmp_gt (tgt := 41) hx hb dX7_stop_13 (by decide) (fun q9 => absurd q9 (by decide +kernel)) (fun _ => ?_)
  refine lv_aload_n hx hb dX7_stop_16 rfl (lv_at hl 1 rfl) ?_
  refine lv_iload_n hx hb dX7_stop_17 rfl (lv_at hl 0 rfl) ?_
  refine lv_iconst (v := 0) hx hb dX7_stop_18 (by decide +kernel) ?_
  refine k_ci (wc := []) (wr := [(p0, .inr (7, oM p1 (upd i7 1 0) j7)), ((p1 49), .inl (cI, 22, .inl (fun _ => 0))), ((p1 50), .inl (cI, 22, .inl (fun _ => 0))), ((p1 82), .inl (cI, 13, .inl (fun _ => 0))), ((p1 14), .inl (cI, 2, .inl (fun _ => 0))), ((p1 83), .inl (cI, 13, .inl (fun _ => 0))), ((p1 23), .inl (cI, 2, .inl (fun _ => 0))), ((p1 81), .inl (cJ, 13, .inr (.inl (fun _ => 0))))]) (fun hPc hDc hFc => va_runV (As := [.int 0, .int 0]) (rest := []) ⟨hx, hb, hml, hown, hts⟩ (c_X7_areWishes_v1 l dC dI cI cJ cZ cM p0 H.size) (cwV 2 hts gX7_stop_X7_areWishes rfl rfl rfl (by decide +kernel) ⟨(Nat.le_of_ble_eq_true rfl), (Nat.le_of_ble_eq_true rfl)⟩) (k_pV hPc hDc hK hN hC hS hFc hP (q0 := 0) (ci := 7) rfl rfl) rfl rfl hl.1 rfl (lv_room (Nat.le_of_ble_eq_true rfl)) dX7_stop_19 ⟨(Nat.le_of_ble_eq_true rfl), (Nat.le_of_ble_eq_true rfl)⟩) hP hD hS hA [] [0, 1, 2, 3, 4, 5, 6, 7] rfl rfl rfl rfl (by decide) (fun _ => rfl) 0 0 rfl rfl (fun r_1 u_2 H locs hw hP hD hS => ?_)
  obtain rfl : r_1 = 1 := hw
  have hP : va_P (dC, dI) vwCl [(p0, .inr (7, oM p1 (upd i7 1 0) j7)), ((p1 49), .inl (cI, 22, .inl (fun _ => 0))), ((p1 50), .inl (cI, 22, .inl (fun _ => 0))), ((p1 82), .inl (cI, 13, .inl (fun _ => 0))), ((p1 14), .inl (cI, 2, .inl (fun _ => 0))), ((p1 83), .inl (cI, 13, .inl (fun _ => 0))), ((p1 23), .inl (cI, 2, .inl (fun _ => 0))), ((p1 81), .inl (cJ, 13, .inr (.inl (fun _ => 0))))] H := hP
  have hD : va_D A [(p0, .inr (7, oM p1 (upd i7 1 0) j7)), ((p1 49), .inl (cI, 22, .inl (fun _ => 0))), ((p1 50), .inl (cI, 22, .inl (fun _ => 0))), ((p1 82), .inl (cI, 13, .inl (fun _ => 0))), ((p1 14), .inl (cI, 2, .inl (fun _ => 0))), ((p1 83), .inl (cI, 13, .inl (fun _ => 0))), ((p1 23), .inl (cI, 2, .inl (fun _ => 0))), ((p1 81), .inl (cJ, 13, .inr (.inl (fun _ => 0))))] := hD
  refine lv_if_eq (tgt := 41) hx hb dX7_stop_22 (by decide) (fun q9 => absurd q9 (by decide +kernel)) (fun _ => ?_)
  refine lv_aload_n hx hb dX7_stop_25 rfl (lv_at hl 1 rfl) ?_
  refine lv_iconst (v := 0) hx hb dX7_stop_26 (by decide +kernel) ?_
  refine k_ci (wc := [(p0, .inr (7, oM p1 (upd i7 1 0) j7))]) (wr := [((p1 49), .inl (cI, 22, .inl (fun _ => 0))), ((p1 50), .inl (cI, 22, .inl (fun _ => 0))), ((p1 82), .inl (cI, 13, .inl (fun _ => 0))), ((p1 14), .inl (cI, 2, .inl (fun _ => 0))), ((p1 83), .inl (cI, 13, .inl (fun _ => 0))), ((p1 23), .inl (cI, 2, .inl (fun _ => 0))), ((p1 81), .inl (cJ, 13, .inr (.inl (fun _ => 0))))]) (fun hPc hDc hFc => va_runV (As := [.int 0]) (rest := []) ⟨hx, hb, hml, hown, hts⟩ (c_X7_bears_v4 l dC dI cI cJ cZ cM p0 p1 H.size) (cwV 1 hts gX7_stop_X7_bears rfl rfl rfl (by decide +kernel) ⟨(Nat.le_of_ble_eq_true rfl), (Nat.le_of_ble_eq_true rfl)⟩) (k_pV hPc hDc hK hN hC hS hFc hP (q0 := 0) (ci := 7) rfl rfl) rfl rfl hl.1 rfl (lv_room (Nat.le_of_ble_eq_true rfl)) dX7_stop_27 ⟨(Nat.le_of_ble_eq_true rfl), (Nat.le_of_ble_eq_true rfl)⟩) hP hD hS hA [0] [1, 2, 3, 4, 5, 6, 7] rfl rfl rfl rfl (by decide) (fun _ => rfl) 0 0 rfl rfl (fun r_3 u_4 H locs hw hP hD hS => ?_)
  obtain rfl : r_3 = 999 := hw
  have hP : va_P (dC, dI) vwCl [((p1 49), .inl (cI, 22, .inl (fun _ => 0))), ((p1 50), .inl (cI, 22, .inl (fun _ => 0))), ((p1 82), .inl (cI, 13, .inl (fun _ => 0))), ((p1 14), .inl (cI, 2, .inl (fun _ => 0))), ((p1 83), .inl (cI, 13, .inl (fun _ => 0))), ((p1 23), .inl (cI, 2, .inl (fun _ => 0))), ((p1 81), .inl (cJ, 13, .inr (.inl (fun _ => 0)))), (p0, .inr (7, oM p1 (upd i7 1 0) j7))] H := hP
  have hD : va_D A [((p1 49), .inl (cI, 22, .inl (fun _ => 0))), ((p1 50), .inl (cI, 22, .inl (fun _ => 0))), ((p1 82), .inl (cI, 13, .inl (fun _ => 0))), ((p1 14), .inl (cI, 2, .inl (fun _ => 0))), ((p1 83), .inl (cI, 13, .inl (fun _ => 0))), ((p1 23), .inl (cI, 2, .inl (fun _ => 0))), ((p1 81), .inl (cJ, 13, .inr (.inl (fun _ => 0)))), (p0, .inr (7, oM p1 (upd i7 1 0) j7))] := hD
  refine lv_if_eq (tgt := 41) hx hb dX7_stop_30 (by decide) (fun q9 => absurd q9 (by decide +kernel)) (fun _ => ?_)
  refine lv_aload_n hx hb dX7_stop_33 rfl (lv_at hl 1 rfl) ?_
  refine lv_iload_n hx hb dX7_stop_34 rfl (lv_at hl 0 rfl) ?_
  refine k_ci (wc := [(p0, .inr (7, oM p1 (upd i7 1 0) j7)), ((p1 49), .inl (cI, 22, .inl (fun _ => 0))), ((p1 50), .inl (cI, 22, .inl (fun _ => 0))), ((p1 82), .inl (cI, 13, .inl (fun _ => 0))), ((p1 14), .inl (cI, 2, .inl (fun _ => 0))), ((p1 83), .inl (cI, 13, .inl (fun _ => 0)))]) (wr := [((p1 23), .inl (cI, 2, .inl (fun _ => 0))), ((p1 81), .inl (cJ, 13, .inr (.inl (fun _ => 0))))]) (fun hPc hDc hFc => va_runV (As := [.int 0]) (rest := []) ⟨hx, hb, hml, hown, hts⟩ (c_X7_goesRow_v0 l dC dI cI cJ cZ cM p0 p1 H.size) (cwV 1 hts gX7_stop_X7_goesRow rfl rfl rfl (by decide +kernel) ⟨(Nat.le_of_ble_eq_true rfl), (Nat.le_of_ble_eq_true rfl)⟩) (k_pV hPc hDc hK hN hC hS hFc hP (q0 := 7) (ci := 7) rfl rfl) rfl rfl hl.1 rfl (lv_room (Nat.le_of_ble_eq_true rfl)) dX7_stop_35 ⟨(Nat.le_of_ble_eq_true rfl), (Nat.le_of_ble_eq_true rfl)⟩) hP hD hS hA [7, 0, 1, 2, 3, 4] [5, 6] rfl rfl rfl rfl (by decide) (fun _ => rfl) 0 0 rfl rfl (fun r_5 u_6 H locs hw hP hD hS => ?_)
  obtain rfl : r_5 = 1 := hw
  have hP : va_P (dC, dI) vwCl [((p1 23), .inl (cI, 2, .inl (fun _ => 0))), ((p1 81), .inl (cJ, 13, .inr (.inl (fun _ => 0)))), (p0, .inr (7, oM p1 (upd i7 1 0) j7)), ((p1 49), .inl (cI, 22, .inl (fun _ => 0))), ((p1 50), .inl (cI, 22, .inl (fun _ => 0))), ((p1 82), .inl (cI, 13, .inl (upd (fun _ => 0) 0 0))), ((p1 14), .inl (cI, 2, .inl (fun _ => 0))), ((p1 83), .inl (cI, 13, .inl (upd (fun _ => 0) 0 0)))] H := hP
  have hD : va_D A [((p1 23), .inl (cI, 2, .inl (fun _ => 0))), ((p1 81), .inl (cJ, 13, .inr (.inl (fun _ => 0)))), (p0, .inr (7, oM p1 (upd i7 1 0) j7)), ((p1 49), .inl (cI, 22, .inl (fun _ => 0))), ((p1 50), .inl (cI, 22, .inl (fun _ => 0))), ((p1 82), .inl (cI, 13, .inl (upd (fun _ => 0) 0 0))), ((p1 14), .inl (cI, 2, .inl (fun _ => 0))), ((p1 83), .inl (cI, 13, .inl (upd (fun _ => 0) 0 0)))] := hD
  refine lv_if_ne (tgt := 47) hx hb dX7_stop_38 (by decide) (fun _ => ?_) (fun q9 => absurd q9 (by decide +kernel))
  refine lv_aload_n hx hb dX7_stop_47 rfl (lv_at hl 1 rfl) ?_
  refine lv_iload_n hx hb dX7_stop_48 rfl (lv_at hl 0 rfl) ?_
  refine k_put (D := (dC, dI)) (ci := 7) (v := .int 0) (C := RX7) (T := TX7) (N := 92) (ws' := [((p1 23), .inl (cI, 2, .inl (fun _ => 0))), ((p1 81), .inl (cJ, 13, .inr (.inl (fun _ => 0)))), (p0, .inr (7, oM p1 (upd (upd i7 1 0) 80 0) j7)), ((p1 49), .inl (cI, 22, .inl (fun _ => 0))), ((p1 50), .inl (cI, 22, .inl (fun _ => 0))), ((p1 82), .inl (cI, 13, .inl (upd (fun _ => 0) 0 0))), ((p1 14), .inl (cI, 2, .inl (fun _ => 0))), ((p1 83), .inl (cI, 13, .inl (upd (fun _ => 0) 0 0)))]) hx hb hts hinX7 tyX7 tyX7_ok nmX7 hown hK hP hD hS 2 rfl rfl 80 (by decide) w_1 rfl rfl rfl rfl (Nat.le_of_ble_eq_true rfl) rfl dX7_stop_49 (fun H locs hP hD hS => ?_)
  refine lv_iconst (v := 0) hx hb dX7_stop_52 (by decide +kernel) ?_
  refine lv_istore_n (lv' := [(2, .int 0), (1, .int 0), (0, .ref p0)]) hx hb dX7_stop_53 rfl hl (by decide) rfl (fun ls hl => ?_)
  refine lv_aload_n hx hb dX7_stop_54 rfl (lv_at hl 2 rfl) ?_
  refine lv_aload_n hx hb dX7_stop_55 rfl (lv_at hl 2 rfl) ?_
  refine k_get (D := (dC, dI)) (ci := 7) (v := .ref (p1 23)) (C := RX7) (T := TX7) (N := 92) hx hb hts hinX7 hown hK hP 2 rfl rfl 23 (by decide) w_2 rfl rfl dX7_stop_56 ?_
  refine lv_aload_n hx hb dX7_stop_59 rfl (lv_at hl 2 rfl) ?_
  refine k_get (D := (dC, dI)) (ci := 7) (v := .int 0) (C := RX7) (T := TX7) (N := 92) hx hb hts hinX7 hown hK hP 2 rfl rfl 13 (by decide) w_3 rfl rfl dX7_stop_60 ?_
  refine k_iald (v := 0) hx hb hK hP 0 0 0 rfl rfl rfl (Nat.le_of_ble_eq_true rfl) (Nat.le_of_ble_eq_true rfl) rfl dX7_stop_63 ?_
  refine k_ci (wc := [(p0, .inr (7, oM p1 (upd (upd i7 1 0) 80 0) j7)), ((p1 14), .inl (cI, 2, .inl (fun _ => 0)))]) (wr := [((p1 23), .inl (cI, 2, .inl (fun _ => 0))), ((p1 81), .inl (cJ, 13, .inr (.inl (fun _ => 0)))), ((p1 49), .inl (cI, 22, .inl (fun _ => 0))), ((p1 50), .inl (cI, 22, .inl (fun _ => 0))), ((p1 82), .inl (cI, 13, .inl (upd (fun _ => 0) 0 0))), ((p1 83), .inl (cI, 13, .inl (upd (fun _ => 0) 0 0)))]) (fun hPc hDc hFc => va_runV (As := [.int 0]) (rest := []) ⟨hx, hb, hml, hown, hts⟩ (c_X7_worthOf_v3 l dC dI cI cJ cZ cM p0 p1 H.size) (cwV 1 hts gX7_stop_X7_worthOf rfl rfl rfl (by decide +kernel) ⟨(Nat.le_of_ble_eq_true rfl), (Nat.le_of_ble_eq_true rfl)⟩) (k_pV hPc hDc hK hN hC hS hFc hP (q0 := 2) (ci := 7) rfl rfl) rfl rfl hl.1 rfl (lv_room (Nat.le_of_ble_eq_true rfl)) dX7_stop_64 ⟨(Nat.le_of_ble_eq_true rfl), (Nat.le_of_ble_eq_true rfl)⟩) hP hD hS hA [2, 6] [0, 1, 3, 4, 5, 7] rfl rfl rfl rfl (by decide) (fun _ => rfl) 0 0 rfl rfl (fun r_7 u_8 H locs hw hP hD hS => ?_)
  obtain rfl : r_7 = 0 := hw
  have hP : va_P (dC, dI) vwCl [((p1 23), .inl (cI, 2, .inl (fun _ => 0))), ((p1 81), .inl (cJ, 13, .inr (.inl (fun _ => 0)))), ((p1 49), .inl (cI, 22, .inl (fun _ => 0))), ((p1 50), .inl (cI, 22, .inl (fun _ => 0))), ((p1 82), .inl (cI, 13, .inl (upd (fun _ => 0) 0 0))), ((p1 83), .inl (cI, 13, .inl (upd (fun _ => 0) 0 0))), (p0, .inr (7, oM p1 (upd (upd i7 1 0) 80 0) j7)), ((p1 14), .inl (cI, 2, .inl (fun _ => 0)))] H := hP
  have hD : va_D A [((p1 23), .inl (cI, 2, .inl (fun _ => 0))), ((p1 81), .inl (cJ, 13, .inr (.inl (fun _ => 0)))), ((p1 49), .inl (cI, 22, .inl (fun _ => 0))), ((p1 50), .inl (cI, 22, .inl (fun _ => 0))), ((p1 82), .inl (cI, 13, .inl (upd (fun _ => 0) 0 0))), ((p1 83), .inl (cI, 13, .inl (upd (fun _ => 0) 0 0))), (p0, .inr (7, oM p1 (upd (upd i7 1 0) 80 0) j7)), ((p1 14), .inl (cI, 2, .inl (fun _ => 0)))] := hD
  refine lv_istore_n (lv' := [(3, .int 0), (2, .int 0), (1, .int 0), (0, .ref p0)]) hx hb dX7_stop_67 rfl hl (by decide) rfl (fun ls hl => ?_)
  refine lv_iconst (v := 0) hx hb dX7_stop_68 (by decide +kernel) ?_
  refine lv_istore (lv' := [(4, .int 0), (3, .int 0), (2, .int 0), (1, .int 0), (0, .ref p0)]) hx hb dX7_stop_69 hl (by decide) rfl (fun ls hl => ?_)
  refine lv_iload hx hb dX7_stop_71 (lv_at hl 0 rfl) ?_
  refine lv_iload_n hx hb dX7_stop_73 rfl (lv_at hl 3 rfl) ?_
  refine lv_icmp_gt (tgt := 180) hx hb dX7_stop_74 (by decide) (fun q9 => absurd q9 (by decide +kernel)) (fun _ => ?_)
  refine lv_aload_n hx hb dX7_stop_77 rfl (lv_at hl 4 rfl) ?_
  refine k_get (D := (dC, dI)) (ci := 7) (v := .ref (p1 81)) (C := RX7) (T := TX7) (N := 92) hx hb hts hinX7 hown hK hP 6 rfl rfl 81 (by decide) w_4 rfl rfl dX7_stop_78 ?_
  refine lv_iload hx hb dX7_stop_81 (lv_at hl 0 rfl) ?_
  refine lv_lconst (v := 0) hx hb dX7_stop_83 (by decide +kernel) ?_
  refine k_last (g := (vp_updL (fun _ => 0) 0 0)) (ws' := [((p1 23), .inl (cI, 2, .inl (fun _ => 0))), ((p1 81), .inl (cJ, 13, .inr (.inl (vp_updL (fun _ => 0) 0 0)))), ((p1 49), .inl (cI, 22, .inl (fun _ => 0))), ((p1 50), .inl (cI, 22, .inl (fun _ => 0))), ((p1 82), .inl (cI, 13, .inl (upd (fun _ => 0) 0 0))), ((p1 83), .inl (cI, 13, .inl (upd (fun _ => 0) 0 0))), (p0, .inr (7, oM p1 (upd (upd i7 1 0) 80 0) j7)), ((p1 14), .inl (cI, 2, .inl (fun _ => 0)))]) hx hb hK hP hD hS 1 1 0 rfl rfl rfl (Nat.le_of_ble_eq_true rfl) (Nat.le_of_ble_eq_true rfl) rfl rfl dX7_stop_84 (fun H locs hP hD hS => ?_)
  refine lv_iconst (v := 1) hx hb dX7_stop_85 (by decide +kernel) ?_
  refine lv_istore (lv' := [(5, .int 1), (4, .int 0), (3, .int 0), (2, .int 0), (1, .int 0), (0, .ref p0)]) hx hb dX7_stop_86 hl (by decide) rfl (fun ls hl => ?_)
  refine lv_iload hx hb dX7_stop_88 (lv_at hl 0 rfl) ?_
  refine lv_sipush (v := 999) hx hb dX7_stop_90 (by decide +kernel) ?_
  refine lv_icmp_gt (tgt := 150) hx hb dX7_stop_93 (by decide) (fun q9 => absurd q9 (by decide +kernel)) (fun _ => ?_)
  refine lv_aload_n hx hb dX7_stop_96 rfl (lv_at hl 5 rfl) ?_
  refine k_get (D := (dC, dI)) (ci := 7) (v := .ref (p1 81)) (C := RX7) (T := TX7) (N := 92) hx hb hts hinX7 hown hK hP 6 rfl rfl 81 (by decide) w_4 rfl rfl dX7_stop_97 ?_
  refine lv_iload hx hb dX7_stop_100 (lv_at hl 1 rfl) ?_
  refine lv_dup2_11 hx hb dX7_stop_102 rfl rfl ?_
  refine k_lald (v := 0) hx hb hK hP 1 1 0 rfl rfl rfl (Nat.le_of_ble_eq_true rfl) (Nat.le_of_ble_eq_true rfl) rfl dX7_stop_103 ?_
  refine lv_aload_n hx hb dX7_stop_104 rfl (lv_at hl 5 rfl) ?_
  refine lv_iload hx hb dX7_stop_105 (lv_at hl 0 rfl) ?_
  refine k_ci (wc := [(p0, .inr (7, oM p1 (upd (upd i7 1 0) 80 0) j7))]) (wr := [((p1 23), .inl (cI, 2, .inl (fun _ => 0))), ((p1 81), .inl (cJ, 13, .inr (.inl (vp_updL (fun _ => 0) 0 0)))), ((p1 49), .inl (cI, 22, .inl (fun _ => 0))), ((p1 50), .inl (cI, 22, .inl (fun _ => 0))), ((p1 82), .inl (cI, 13, .inl (upd (fun _ => 0) 0 0))), ((p1 83), .inl (cI, 13, .inl (upd (fun _ => 0) 0 0))), ((p1 14), .inl (cI, 2, .inl (fun _ => 0)))]) (fun hPc hDc hFc => va_runV (As := [.int 1]) (rest := [.long 0, .int 0, .ref (p1 81)]) ⟨hx, hb, hml, hown, hts⟩ (c_X7_canBear_v4 l dC dI cI cJ cZ cM p0 p1 H.size) (cwV 1 hts gX7_stop_X7_canBear rfl rfl rfl (by decide +kernel) ⟨(Nat.le_of_ble_eq_true rfl), (Nat.le_of_ble_eq_true rfl)⟩) (k_pV hPc hDc hK hN hC hS hFc hP (q0 := 6) (ci := 7) rfl rfl) rfl rfl hl.1 rfl (lv_room (Nat.le_of_ble_eq_true rfl)) dX7_stop_107 ⟨(Nat.le_of_ble_eq_true rfl), (Nat.le_of_ble_eq_true rfl)⟩) hP hD hS hA [6] [0, 1, 2, 3, 4, 5, 7] rfl rfl rfl rfl (by decide) (fun _ => rfl) 0 0 rfl rfl (fun r_9 u_10 H locs hw hP hD hS => ?_)
  obtain rfl : r_9 = 1 := hw
  have hP : va_P (dC, dI) vwCl [((p1 23), .inl (cI, 2, .inl (fun _ => 0))), ((p1 81), .inl (cJ, 13, .inr (.inl (vp_updL (fun _ => 0) 0 0)))), ((p1 49), .inl (cI, 22, .inl (fun _ => 0))), ((p1 50), .inl (cI, 22, .inl (fun _ => 0))), ((p1 82), .inl (cI, 13, .inl (upd (fun _ => 0) 0 0))), ((p1 83), .inl (cI, 13, .inl (upd (fun _ => 0) 0 0))), ((p1 14), .inl (cI, 2, .inl (fun _ => 0))), (p0, .inr (7, oM p1 (upd (upd i7 1 0) 80 0) j7))] H := hP
  have hD : va_D A [((p1 23), .inl (cI, 2, .inl (fun _ => 0))), ((p1 81), .inl (cJ, 13, .inr (.inl (vp_updL (fun _ => 0) 0 0)))), ((p1 49), .inl (cI, 22, .inl (fun _ => 0))), ((p1 50), .inl (cI, 22, .inl (fun _ => 0))), ((p1 82), .inl (cI, 13, .inl (upd (fun _ => 0) 0 0))), ((p1 83), .inl (cI, 13, .inl (upd (fun _ => 0) 0 0))), ((p1 14), .inl (cI, 2, .inl (fun _ => 0))), (p0, .inr (7, oM p1 (upd (upd i7 1 0) 80 0) j7))] := hD
  refine lv_if_ne (tgt := 117) hx hb dX7_stop_110 (by decide) (fun _ => ?_) (fun q9 => absurd q9 (by decide +kernel))
  refine lv_iload hx hb dX7_stop_117 (lv_at hl 0 rfl) ?_
  refine lv_aload_n hx hb dX7_stop_119 rfl (lv_at hl 5 rfl) ?_
  refine k_get (D := (dC, dI)) (ci := 7) (v := .ref (p1 82)) (C := RX7) (T := TX7) (N := 92) hx hb hts hinX7 hown hK hP 7 rfl rfl 82 (by decide) w_5 rfl rfl dX7_stop_120 ?_
  refine lv_iload hx hb dX7_stop_123 (lv_at hl 1 rfl) ?_
  refine k_iald (v := 0) hx hb hK hP 4 0 0 rfl rfl rfl (Nat.le_of_ble_eq_true rfl) (Nat.le_of_ble_eq_true rfl) rfl dX7_stop_125 ?_
  refine lv_icmp_lt (tgt := 140) hx hb dX7_stop_126 (by decide) (fun q9 => absurd q9 (by decide +kernel)) (fun _ => ?_)
  refine lv_aload_n hx hb dX7_stop_129 rfl (lv_at hl 5 rfl) ?_
  refine k_get (D := (dC, dI)) (ci := 7) (v := .ref (p1 83)) (C := RX7) (T := TX7) (N := 92) hx hb hts hinX7 hown hK hP 7 rfl rfl 83 (by decide) w_6 rfl rfl dX7_stop_130 ?_
  refine lv_iload hx hb dX7_stop_133 (lv_at hl 1 rfl) ?_
  refine k_iald (v := 0) hx hb hK hP 5 0 0 rfl rfl rfl (Nat.le_of_ble_eq_true rfl) (Nat.le_of_ble_eq_true rfl) rfl dX7_stop_135 ?_
  refine lv_i2l (v := 0) hx hb dX7_stop_136 (by decide +kernel) ?_
  refine lv_goto (tgt := 142) hx hb dX7_stop_137 (by decide) ?_
  refine lv_ladd hx hb dX7_stop_142 ?_
  refine k_long (v := 0) (by decide +kernel) ?_
  refine k_last (g := (vp_updL (vp_updL (fun _ => 0) 0 0) 0 0)) (ws' := [((p1 23), .inl (cI, 2, .inl (fun _ => 0))), ((p1 81), .inl (cJ, 13, .inr (.inl (vp_updL (vp_updL (fun _ => 0) 0 0) 0 0)))), ((p1 49), .inl (cI, 22, .inl (fun _ => 0))), ((p1 50), .inl (cI, 22, .inl (fun _ => 0))), ((p1 82), .inl (cI, 13, .inl (upd (fun _ => 0) 0 0))), ((p1 83), .inl (cI, 13, .inl (upd (fun _ => 0) 0 0))), ((p1 14), .inl (cI, 2, .inl (fun _ => 0))), (p0, .inr (7, oM p1 (upd (upd i7 1 0) 80 0) j7))]) hx hb hK hP hD hS 1 1 0 rfl rfl rfl (Nat.le_of_ble_eq_true rfl) (Nat.le_of_ble_eq_true rfl) rfl rfl dX7_stop_143 (fun H locs hP hD hS => ?_)
  refine lv_iinc (v := 2) (lv' := [(5, .int 2), (4, .int 0), (3, .int 0), (2, .int 0), (1, .int 0), (0, .ref p0)]) hx hb dX7_stop_144 hl (k := 0) rfl (by decide +kernel) (by decide) rfl (fun ls hl => ?_)
  refine lv_goto (tgt := 88) hx hb dX7_stop_147 (by decide) ?_
  have loop_k_11 : ∀ (n_k_11 : Nat) (kk_11 : Nat) (fk_11 : Nat → Int64) (h1k_11 : 1 ≤ kk_11) (h2k_11 : kk_11 ≤ 999) (h3k_11 : fk_11 0 = 0) (hn_k_11 : 999 - kk_11 < n_k_11) (H : Heap) (locs : List Loc) (ls : Array Slot), va_P (dC, dI) vwCl [((p1 23), .inl (cI, 2, .inl (fun _ => 0))), ((p1 81), .inl (cJ, 13, .inr (.inl fk_11))), ((p1 49), .inl (cI, 22, .inl (fun _ => 0))), ((p1 50), .inl (cI, 22, .inl (fun _ => 0))), ((p1 82), .inl (cI, 13, .inl (upd (fun _ => 0) 0 0))), ((p1 83), .inl (cI, 13, .inl (upd (fun _ => 0) 0 0))), ((p1 14), .inl (cI, 2, .inl (fun _ => 0))), (p0, .inr (7, oM p1 (upd (upd i7 1 0) 80 0) j7))] H → va_D A [((p1 23), .inl (cI, 2, .inl (fun _ => 0))), ((p1 81), .inl (cJ, 13, .inr (.inl fk_11))), ((p1 49), .inl (cI, 22, .inl (fun _ => 0))), ((p1 50), .inl (cI, 22, .inl (fun _ => 0))), ((p1 82), .inl (cI, 13, .inl (upd (fun _ => 0) 0 0))), ((p1 83), .inl (cI, 13, .inl (upd (fun _ => 0) 0 0))), ((p1 14), .inl (cI, 2, .inl (fun _ => 0))), (p0, .inr (7, oM p1 (upd (upd i7 1 0) 80 0) j7))] → va_S A s.heap H locs → lv_has ls 6 [(5, .int (nI (kk_11 + 1))), (4, .int 0), (3, .int 0), (2, .int 0), (1, .int 0), (0, .ref p0)] → W p l e ({ frames := 3, cells := 0, slots := 0, locals := 87 }) s m args below meth c H locs 0 0 (MQ below (va_Qi (fun (r9 : Int32) (u9 : Unit) => r9 = 0) (fun u => k_B (dC, dI) vwCl (tyy cI cJ cZ cM) A ((fun (u9 : Unit) => [(p0, .inr (7, oM p1 (upd (upd i7 1 0) 80 0) j7)), ((p1 49), .inl (cI, 22, .inl (fun _ => 0))), ((p1 50), .inl (cI, 22, .inl (fun _ => 0))), ((p1 82), .inl (cI, 13, .inl (upd (fun _ => 0) 0 0))), ((p1 14), .inl (cI, 2, .inl (fun _ => 0))), ((p1 83), .inl (cI, 13, .inl (upd (fun _ => 0) 0 0))), ((p1 23), .inl (cI, 2, .inl (fun _ => 0)))]) u)) A) args s 0 0 A) (F0 m 88 ls []) := by
    intro n_k_11
    induction n_k_11 with
    | zero => intro kk_11 fk_11 h1k_11 h2k_11 h3k_11 hn_k_11; exact absurd hn_k_11 (Nat.not_lt_zero _)
    | succ n_k_11 ih_k_11 =>
      intro kk_11 fk_11 h1k_11 h2k_11 h3k_11 hn_k_11 H locs ls hP hD hS hl
      refine lv_iload hx hb dX7_stop_88 (lv_at hl 0 rfl) ?_
      refine lv_sipush (v := 999) hx hb dX7_stop_90 (by decide +kernel) ?_
      refine lv_icmp_gt (tgt := 150) hx hb dX7_stop_93 (by decide) (fun c_12 => ?_) (fun c_12 => ?_)
      · have c_12 : 999 < (((kk_11 + 1) : Nat) : Int) := k_ltT (by decide +kernel) (nI_toInt (by omega)) c_12
        refine lv_aload_n hx hb dX7_stop_150 rfl (lv_at hl 5 rfl) ?_
        refine k_get (D := (dC, dI)) (ci := 7) (v := .ref (p1 81)) (C := RX7) (T := TX7) (N := 92) hx hb hts hinX7 hown hK hP 7 rfl rfl 81 (by decide) w_4 rfl rfl dX7_stop_151 ?_
        refine lv_iload hx hb dX7_stop_154 (lv_at hl 1 rfl) ?_
        refine k_lald (v := 0) hx hb hK hP 1 1 0 rfl rfl rfl (Nat.le_of_ble_eq_true rfl) (Nat.le_of_ble_eq_true rfl) h3k_11 dX7_stop_156 ?_
        refine lv_aload_n hx hb dX7_stop_157 rfl (lv_at hl 5 rfl) ?_
        refine k_get (D := (dC, dI)) (ci := 7) (v := .ref (p1 81)) (C := RX7) (T := TX7) (N := 92) hx hb hts hinX7 hown hK hP 7 rfl rfl 81 (by decide) w_4 rfl rfl dX7_stop_158 ?_
        refine lv_iload_n hx hb dX7_stop_161 rfl (lv_at hl 3 rfl) ?_
        refine k_lald (v := 0) hx hb hK hP 1 1 0 rfl rfl rfl (Nat.le_of_ble_eq_true rfl) (Nat.le_of_ble_eq_true rfl) h3k_11 dX7_stop_162 ?_
        refine W.lcmp hx hb dX7_stop_163 ?_
        refine k_int (v := 0) (by decide +kernel) ?_
        refine lv_if_le (tgt := 172) hx hb dX7_stop_164 (by decide) (fun _ => ?_) (fun q9 => absurd q9 (by decide +kernel))
        refine lv_iload_n hx hb dX7_stop_172 rfl (lv_at hl 3 rfl) ?_
        refine lv_istore_n (lv' := [(2, .int 0), (5, .int (nI (kk_11 + 1))), (4, .int 0), (3, .int 0), (1, .int 0), (0, .ref p0)]) hx hb dX7_stop_173 rfl hl (by decide) rfl (fun ls hl => ?_)
        refine lv_iinc (v := 1) (lv' := [(4, .int 1), (2, .int 0), (5, .int (nI (kk_11 + 1))), (3, .int 0), (1, .int 0), (0, .ref p0)]) hx hb dX7_stop_174 hl (k := 2) rfl (by decide +kernel) (by decide) rfl (fun ls hl => ?_)
        refine lv_goto (tgt := 71) hx hb dX7_stop_177 (by decide) ?_
        refine lv_iload hx hb dX7_stop_71 (lv_at hl 0 rfl) ?_
        refine lv_iload_n hx hb dX7_stop_73 rfl (lv_at hl 4 rfl) ?_
        refine lv_icmp_gt (tgt := 180) hx hb dX7_stop_74 (by decide) (fun _ => ?_) (fun q9 => absurd q9 (by decide +kernel))
        refine lv_iload_n hx hb dX7_stop_180 rfl (lv_at hl 1 rfl) ?_
        exact k_ri B hP hD hS dX7_stop_181 () [7, 2, 3, 4, 6, 5, 0] rfl rfl rfl (Nat.le_of_ble_eq_true rfl) (Nat.le_of_ble_eq_true rfl) rfl
      · have c_12 : (((kk_11 + 1) : Nat) : Int) ≤ 999 := k_ltF (by decide +kernel) (nI_toInt (by omega)) c_12
        refine lv_aload_n hx hb dX7_stop_96 rfl (lv_at hl 5 rfl) ?_
        refine k_get (D := (dC, dI)) (ci := 7) (v := .ref (p1 81)) (C := RX7) (T := TX7) (N := 92) hx hb hts hinX7 hown hK hP 7 rfl rfl 81 (by decide) w_4 rfl rfl dX7_stop_97 ?_
        refine lv_iload hx hb dX7_stop_100 (lv_at hl 1 rfl) ?_
        refine lv_dup2_11 hx hb dX7_stop_102 rfl rfl ?_
        refine k_lald (v := 0) hx hb hK hP 1 1 0 rfl rfl rfl (Nat.le_of_ble_eq_true rfl) (Nat.le_of_ble_eq_true rfl) h3k_11 dX7_stop_103 ?_
        refine lv_aload_n hx hb dX7_stop_104 rfl (lv_at hl 5 rfl) ?_
        refine lv_iload hx hb dX7_stop_105 (lv_at hl 0 rfl) ?_
        refine k_ci (wc := [(p0, .inr (7, oM p1 (upd (upd i7 1 0) 80 0) j7))]) (wr := [((p1 23), .inl (cI, 2, .inl (fun _ => 0))), ((p1 81), .inl (cJ, 13, .inr (.inl fk_11))), ((p1 49), .inl (cI, 22, .inl (fun _ => 0))), ((p1 50), .inl (cI, 22, .inl (fun _ => 0))), ((p1 82), .inl (cI, 13, .inl (upd (fun _ => 0) 0 0))), ((p1 83), .inl (cI, 13, .inl (upd (fun _ => 0) 0 0))), ((p1 14), .inl (cI, 2, .inl (fun _ => 0)))]) (fun hPc hDc hFc => va_runV (As := [.int (nI (kk_11 + 1))]) (rest := [.long 0, .int 0, .ref (p1 81)]) ⟨hx, hb, hml, hown, hts⟩ (c_X7_canBear_v5 l dC dI cI cJ cZ cM p0 kk_11 p1 (by omega) (by omega) H.size) (cwV 1 hts gX7_stop_X7_canBear rfl rfl rfl (by decide +kernel) ⟨(Nat.le_of_ble_eq_true rfl), (Nat.le_of_ble_eq_true rfl)⟩) (k_pV hPc hDc hK hN hC hS hFc hP (q0 := 7) (ci := 7) rfl rfl) rfl rfl hl.1 rfl (lv_room (Nat.le_of_ble_eq_true rfl)) dX7_stop_107 ⟨(Nat.le_of_ble_eq_true rfl), (Nat.le_of_ble_eq_true rfl)⟩) hP hD hS hA [7] [0, 1, 2, 3, 4, 5, 6] rfl rfl rfl rfl (by decide) (fun _ => rfl) 0 0 rfl rfl (fun r_13 u_14 H locs hw hP hD hS => ?_)
        obtain rfl : r_13 = 1 := hw
        have hP : va_P (dC, dI) vwCl [((p1 23), .inl (cI, 2, .inl (fun _ => 0))), ((p1 81), .inl (cJ, 13, .inr (.inl fk_11))), ((p1 49), .inl (cI, 22, .inl (fun _ => 0))), ((p1 50), .inl (cI, 22, .inl (fun _ => 0))), ((p1 82), .inl (cI, 13, .inl (upd (fun _ => 0) 0 0))), ((p1 83), .inl (cI, 13, .inl (upd (fun _ => 0) 0 0))), ((p1 14), .inl (cI, 2, .inl (fun _ => 0))), (p0, .inr (7, oM p1 (upd (upd i7 1 0) 80 0) j7))] H := hP
        have hD : va_D A [((p1 23), .inl (cI, 2, .inl (fun _ => 0))), ((p1 81), .inl (cJ, 13, .inr (.inl fk_11))), ((p1 49), .inl (cI, 22, .inl (fun _ => 0))), ((p1 50), .inl (cI, 22, .inl (fun _ => 0))), ((p1 82), .inl (cI, 13, .inl (upd (fun _ => 0) 0 0))), ((p1 83), .inl (cI, 13, .inl (upd (fun _ => 0) 0 0))), ((p1 14), .inl (cI, 2, .inl (fun _ => 0))), (p0, .inr (7, oM p1 (upd (upd i7 1 0) 80 0) j7))] := hD
        refine lv_if_ne (tgt := 117) hx hb dX7_stop_110 (by decide) (fun _ => ?_) (fun q9 => absurd q9 (by decide +kernel))
        refine lv_iload hx hb dX7_stop_117 (lv_at hl 0 rfl) ?_
        refine lv_aload_n hx hb dX7_stop_119 rfl (lv_at hl 5 rfl) ?_
        refine k_get (D := (dC, dI)) (ci := 7) (v := .ref (p1 82)) (C := RX7) (T := TX7) (N := 92) hx hb hts hinX7 hown hK hP 7 rfl rfl 82 (by decide) w_5 rfl rfl dX7_stop_120 ?_
        refine lv_iload hx hb dX7_stop_123 (lv_at hl 1 rfl) ?_
        refine k_iald (v := 0) hx hb hK hP 4 0 0 rfl rfl rfl (Nat.le_of_ble_eq_true rfl) (Nat.le_of_ble_eq_true rfl) rfl dX7_stop_125 ?_
        refine lv_icmp_lt (tgt := 140) hx hb dX7_stop_126 (by decide) (fun c_15 => ?_) (fun c_15 => ?_)
        · have c_15 : (((kk_11 + 1) : Nat) : Int) < 0 := k_ltT (nI_toInt (by omega)) (by decide +kernel) c_15
          exfalso; omega
        · have c_15 : 0 ≤ (((kk_11 + 1) : Nat) : Int) := k_ltF (nI_toInt (by omega)) (by decide +kernel) c_15
          refine lv_aload_n hx hb dX7_stop_129 rfl (lv_at hl 5 rfl) ?_
          refine k_get (D := (dC, dI)) (ci := 7) (v := .ref (p1 83)) (C := RX7) (T := TX7) (N := 92) hx hb hts hinX7 hown hK hP 7 rfl rfl 83 (by decide) w_6 rfl rfl dX7_stop_130 ?_
          refine lv_iload hx hb dX7_stop_133 (lv_at hl 1 rfl) ?_
          refine k_iald (v := 0) hx hb hK hP 5 0 0 rfl rfl rfl (Nat.le_of_ble_eq_true rfl) (Nat.le_of_ble_eq_true rfl) rfl dX7_stop_135 ?_
          refine lv_i2l (v := 0) hx hb dX7_stop_136 (by decide +kernel) ?_
          refine lv_goto (tgt := 142) hx hb dX7_stop_137 (by decide) ?_
          refine lv_ladd hx hb dX7_stop_142 ?_
          refine k_long (v := 0) (by decide +kernel) ?_
          refine k_last (g := (vp_updL fk_11 0 0)) (ws' := [((p1 23), .inl (cI, 2, .inl (fun _ => 0))), ((p1 81), .inl (cJ, 13, .inr (.inl (vp_updL fk_11 0 0)))), ((p1 49), .inl (cI, 22, .inl (fun _ => 0))), ((p1 50), .inl (cI, 22, .inl (fun _ => 0))), ((p1 82), .inl (cI, 13, .inl (upd (fun _ => 0) 0 0))), ((p1 83), .inl (cI, 13, .inl (upd (fun _ => 0) 0 0))), ((p1 14), .inl (cI, 2, .inl (fun _ => 0))), (p0, .inr (7, oM p1 (upd (upd i7 1 0) 80 0) j7))]) hx hb hK hP hD hS 1 1 0 rfl rfl rfl (Nat.le_of_ble_eq_true rfl) (Nat.le_of_ble_eq_true rfl) rfl rfl dX7_stop_143 (fun H locs hP hD hS => ?_)
          refine lv_iinc (v := (nI ((kk_11 + 1) + 1))) (lv' := [(5, .int (nI ((kk_11 + 1) + 1))), (4, .int 0), (3, .int 0), (2, .int 0), (1, .int 0), (0, .ref p0)]) hx hb dX7_stop_144 hl (k := 0) rfl (nI_1 _) (by decide) rfl (fun ls hl => ?_)
          refine lv_goto (tgt := 88) hx hb dX7_stop_147 (by decide) ?_
          exact ih_k_11 (kk_11 + 1) (vp_updL fk_11 0 0) (by omega) (by omega) rfl (by omega) H locs ls (hP.sub [0, 1, 2, 3, 4, 5, 6, 7] rfl) (hD.sub [0, 1, 2, 3, 4, 5, 6, 7] (by decide) rfl) hS (lv_sub hl [0, 1, 2, 3, 4, 5] rfl)
  exact loop_k_11 _ 1 (vp_updL (vp_updL (fun _ => 0) 0 0) 0 0) (by omega) (by omega) rfl (Nat.lt_succ_self _) H locs ls hP hD hS hl
set_option maxHeartbeats 4000000 in
set_option maxRecDepth 100000 in
theorem c_X6_value_v0 (l : Launch) (dC : Nat → ClassId) (dI : Nat → Nat → Nat) (cI cJ cZ cM : ClassId) (p0 : Nat) (p1 : Int32) (p2 : Nat → Nat)   : k_Ml l yX6_value wsX6_value ({ frames := 1, cells := 0, slots := 0, locals := 40 }) (dC, dI) vwCl (tyy cI cJ cZ cM) [(p0, .inr (6, [.ref (p2 0), .int 0, .ref (p2 1), .ref (p2 14), .ref (p2 27), .ref (p2 28), .ref (p2 29), .ref (p2 30), .ref (p2 54), .null, .int 1, .int 1, .int 999, .ref (p2 61), .ref (p2 62), .ref (p2 63), .ref (p2 60)])), ((p2 62), .inl (cJ, 13, .inr (.inl (fun _ => (-1)))))] [.ref p0, .int p1] 0 0 (fun (u9 : Unit) => [(p0, .inr (6, [.ref (p2 0), .int 0, .ref (p2 1), .ref (p2 14), .ref (p2 27), .ref (p2 28), .ref (p2 29), .ref (p2 30), .ref (p2 54), .null, .int 1, .int 1, .int 999, .ref (p2 61), .ref (p2 62), .ref (p2 63), .ref (p2 60)])), ((p2 62), .inl (cJ, 13, .inr (.inl (fun _ => (-1)))))]) (fun (r9 : Int64) (u9 : Unit) => r9 = (-1)) := by
  refine fun sz => k_enter (cc := cX6_value) (maxL := 2) (ret := some (.long)) (Qc := fun A => va_Ql (fun (r9 : Int64) (u9 : Unit) => r9 = (-1)) (fun u => k_B (dC, dI) vwCl (tyy cI cJ cZ cM) A ((fun (u9 : Unit) => [(p0, .inr (6, [.ref (p2 0), .int 0, .ref (p2 1), .ref (p2 14), .ref (p2 27), .ref (p2 28), .ref (p2 29), .ref (p2 30), .ref (p2 54), .null, .int 1, .int 1, .int 999, .ref (p2 61), .ref (p2 62), .ref (p2 63), .ref (p2 60)])), ((p2 62), .inl (cJ, 13, .inr (.inl (fun _ => (-1)))))]) u)) A) sz (by decide +kernel) rfl (Nat.le_of_ble_eq_true rfl) (fun p e s m args below meth c A ls H locs B hP hD hS hl => ?_)
  obtain ⟨hx, hb, hml, hown, hts, hr, hlk, hnm, hK, hA, hN, hC⟩ := id B
  have hown : s.vm.findClass RX6 = some m.cls := hown
  have hl : lv_has ls 2 [(0, .ref p0), (1, .int p1)] := hl
  have w_0 : (Cond.constantLong RX6 87 (-1)).before args s = true := hts _ (List.mem_of_getElem? (i := 2) rfl)
  have w_1 : (Cond.fieldLink RX6 71 "WishSea" "values" "[J").before args s = true := hts _ (List.mem_of_getElem? (i := 1) rfl)
  have hinX6 : ∀ w ∈ u_ws RX6 TX6 17, w ∈ wsX6_value := fun _ h => List.mem_cons_of_mem _ (List.mem_append_right _ h)
  refine lv_iload_n hx hb dX6_value_0 rfl (lv_at hl 1 rfl) ?_
  refine lv_if_lt (tgt := 22) hx hb dX6_value_1 (by decide) (fun c_1 => ?_) (fun c_1 => ?_)
  · have c_1 : p1.toInt < 0 := k_ltT rfl (by decide +kernel) c_1
    refine lv_ldc2 (v := (-1)) hx hb hown w_0 dX6_value_22 ?_
    exact k_rl B hP hD hS dX6_value_25 () [0, 1] rfl rfl (Nat.le_of_ble_eq_true rfl) (Nat.le_of_ble_eq_true rfl) rfl
  · have c_1 : 0 ≤ p1.toInt := k_ltF rfl (by decide +kernel) c_1
    refine lv_iload_n hx hb dX6_value_4 rfl (lv_at hl 1 rfl) ?_
    refine lv_aload_n hx hb dX6_value_5 rfl (lv_at hl 0 rfl) ?_
    refine k_get (D := (dC, dI)) (ci := 6) (v := .ref (p2 62)) (C := RX6) (T := TX6) (N := 17) hx hb hts hinX6 hown hK hP 0 rfl rfl 14 (by decide) w_1 rfl rfl dX6_value_6 ?_
    refine va_alen (v := 13) hx hb hK hP 1 1 rfl rfl rfl dX6_value_9 ?_
    refine lv_icmp_ge (tgt := 22) hx hb dX6_value_10 (by decide) (fun c_2 => ?_) (fun c_2 => ?_)
    · have c_2 : 13 ≤ p1.toInt := k_leT (by decide +kernel) rfl c_2
      refine lv_ldc2 (v := (-1)) hx hb hown w_0 dX6_value_22 ?_
      exact k_rl B hP hD hS dX6_value_25 () [0, 1] rfl rfl (Nat.le_of_ble_eq_true rfl) (Nat.le_of_ble_eq_true rfl) rfl
    · have c_2 : p1.toInt < 13 := k_leF (by decide +kernel) rfl c_2
      refine lv_aload_n hx hb dX6_value_13 rfl (lv_at hl 0 rfl) ?_
      refine k_get (D := (dC, dI)) (ci := 6) (v := .ref (p2 62)) (C := RX6) (T := TX6) (N := 17) hx hb hts hinX6 hown hK hP 0 rfl rfl 14 (by decide) w_1 rfl rfl dX6_value_14 ?_
      refine lv_iload_n hx hb dX6_value_17 rfl (lv_at hl 1 rfl) ?_
      rcases (show p1.toInt = 0 ∨ p1.toInt = 1 ∨ p1.toInt = 2 ∨ p1.toInt = 3 ∨ p1.toInt = 4 ∨ p1.toInt = 5 ∨ p1.toInt = 6 ∨ p1.toInt = 7 ∨ p1.toInt = 8 ∨ p1.toInt = 9 ∨ p1.toInt = 10 ∨ p1.toInt = 11 ∨ p1.toInt = 12 by omega) with c_3 | c_3 | c_3 | c_3 | c_3 | c_3 | c_3 | c_3 | c_3 | c_3 | c_3 | c_3 | c_3
      · obtain rfl : p1 = 0 := k_eqL (by decide +kernel) c_3
        refine k_lald (v := (-1)) hx hb hK hP 1 1 0 rfl rfl rfl (Nat.le_of_ble_eq_true rfl) (Nat.le_of_ble_eq_true rfl) rfl dX6_value_18 ?_
        refine lv_goto (tgt := 25) hx hb dX6_value_19 (by decide) ?_
        exact k_rl B hP hD hS dX6_value_25 () [0, 1] rfl rfl (Nat.le_of_ble_eq_true rfl) (Nat.le_of_ble_eq_true rfl) rfl
      · obtain rfl : p1 = 1 := k_eqL (by decide +kernel) c_3
        refine k_lald (v := (-1)) hx hb hK hP 1 1 1 rfl rfl rfl (Nat.le_of_ble_eq_true rfl) (Nat.le_of_ble_eq_true rfl) rfl dX6_value_18 ?_
        refine lv_goto (tgt := 25) hx hb dX6_value_19 (by decide) ?_
        exact k_rl B hP hD hS dX6_value_25 () [0, 1] rfl rfl (Nat.le_of_ble_eq_true rfl) (Nat.le_of_ble_eq_true rfl) rfl
      · obtain rfl : p1 = 2 := k_eqL (by decide +kernel) c_3
        refine k_lald (v := (-1)) hx hb hK hP 1 1 2 rfl rfl rfl (Nat.le_of_ble_eq_true rfl) (Nat.le_of_ble_eq_true rfl) rfl dX6_value_18 ?_
        refine lv_goto (tgt := 25) hx hb dX6_value_19 (by decide) ?_
        exact k_rl B hP hD hS dX6_value_25 () [0, 1] rfl rfl (Nat.le_of_ble_eq_true rfl) (Nat.le_of_ble_eq_true rfl) rfl
      · obtain rfl : p1 = 3 := k_eqL (by decide +kernel) c_3
        refine k_lald (v := (-1)) hx hb hK hP 1 1 3 rfl rfl rfl (Nat.le_of_ble_eq_true rfl) (Nat.le_of_ble_eq_true rfl) rfl dX6_value_18 ?_
        refine lv_goto (tgt := 25) hx hb dX6_value_19 (by decide) ?_
        exact k_rl B hP hD hS dX6_value_25 () [0, 1] rfl rfl (Nat.le_of_ble_eq_true rfl) (Nat.le_of_ble_eq_true rfl) rfl
      · obtain rfl : p1 = 4 := k_eqL (by decide +kernel) c_3
        refine k_lald (v := (-1)) hx hb hK hP 1 1 4 rfl rfl rfl (Nat.le_of_ble_eq_true rfl) (Nat.le_of_ble_eq_true rfl) rfl dX6_value_18 ?_
        refine lv_goto (tgt := 25) hx hb dX6_value_19 (by decide) ?_
        exact k_rl B hP hD hS dX6_value_25 () [0, 1] rfl rfl (Nat.le_of_ble_eq_true rfl) (Nat.le_of_ble_eq_true rfl) rfl
      · obtain rfl : p1 = 5 := k_eqL (by decide +kernel) c_3
        refine k_lald (v := (-1)) hx hb hK hP 1 1 5 rfl rfl rfl (Nat.le_of_ble_eq_true rfl) (Nat.le_of_ble_eq_true rfl) rfl dX6_value_18 ?_
        refine lv_goto (tgt := 25) hx hb dX6_value_19 (by decide) ?_
        exact k_rl B hP hD hS dX6_value_25 () [0, 1] rfl rfl (Nat.le_of_ble_eq_true rfl) (Nat.le_of_ble_eq_true rfl) rfl
      · obtain rfl : p1 = 6 := k_eqL (by decide +kernel) c_3
        refine k_lald (v := (-1)) hx hb hK hP 1 1 6 rfl rfl rfl (Nat.le_of_ble_eq_true rfl) (Nat.le_of_ble_eq_true rfl) rfl dX6_value_18 ?_
        refine lv_goto (tgt := 25) hx hb dX6_value_19 (by decide) ?_
        exact k_rl B hP hD hS dX6_value_25 () [0, 1] rfl rfl (Nat.le_of_ble_eq_true rfl) (Nat.le_of_ble_eq_true rfl) rfl
      · obtain rfl : p1 = 7 := k_eqL (by decide +kernel) c_3
        refine k_lald (v := (-1)) hx hb hK hP 1 1 7 rfl rfl rfl (Nat.le_of_ble_eq_true rfl) (Nat.le_of_ble_eq_true rfl) rfl dX6_value_18 ?_
        refine lv_goto (tgt := 25) hx hb dX6_value_19 (by decide) ?_
        exact k_rl B hP hD hS dX6_value_25 () [0, 1] rfl rfl (Nat.le_of_ble_eq_true rfl) (Nat.le_of_ble_eq_true rfl) rfl
      · obtain rfl : p1 = 8 := k_eqL (by decide +kernel) c_3
        refine k_lald (v := (-1)) hx hb hK hP 1 1 8 rfl rfl rfl (Nat.le_of_ble_eq_true rfl) (Nat.le_of_ble_eq_true rfl) rfl dX6_value_18 ?_
        refine lv_goto (tgt := 25) hx hb dX6_value_19 (by decide) ?_
        exact k_rl B hP hD hS dX6_value_25 () [0, 1] rfl rfl (Nat.le_of_ble_eq_true rfl) (Nat.le_of_ble_eq_true rfl) rfl
      · obtain rfl : p1 = 9 := k_eqL (by decide +kernel) c_3
        refine k_lald (v := (-1)) hx hb hK hP 1 1 9 rfl rfl rfl (Nat.le_of_ble_eq_true rfl) (Nat.le_of_ble_eq_true rfl) rfl dX6_value_18 ?_
        refine lv_goto (tgt := 25) hx hb dX6_value_19 (by decide) ?_
        exact k_rl B hP hD hS dX6_value_25 () [0, 1] rfl rfl (Nat.le_of_ble_eq_true rfl) (Nat.le_of_ble_eq_true rfl) rfl
      · obtain rfl : p1 = 10 := k_eqL (by decide +kernel) c_3
        refine k_lald (v := (-1)) hx hb hK hP 1 1 10 rfl rfl rfl (Nat.le_of_ble_eq_true rfl) (Nat.le_of_ble_eq_true rfl) rfl dX6_value_18 ?_
        refine lv_goto (tgt := 25) hx hb dX6_value_19 (by decide) ?_
        exact k_rl B hP hD hS dX6_value_25 () [0, 1] rfl rfl (Nat.le_of_ble_eq_true rfl) (Nat.le_of_ble_eq_true rfl) rfl
      · obtain rfl : p1 = 11 := k_eqL (by decide +kernel) c_3
        refine k_lald (v := (-1)) hx hb hK hP 1 1 11 rfl rfl rfl (Nat.le_of_ble_eq_true rfl) (Nat.le_of_ble_eq_true rfl) rfl dX6_value_18 ?_
        refine lv_goto (tgt := 25) hx hb dX6_value_19 (by decide) ?_
        exact k_rl B hP hD hS dX6_value_25 () [0, 1] rfl rfl (Nat.le_of_ble_eq_true rfl) (Nat.le_of_ble_eq_true rfl) rfl
      · obtain rfl : p1 = 12 := k_eqL (by decide +kernel) c_3
        refine k_lald (v := (-1)) hx hb hK hP 1 1 12 rfl rfl rfl (Nat.le_of_ble_eq_true rfl) (Nat.le_of_ble_eq_true rfl) rfl dX6_value_18 ?_
        refine lv_goto (tgt := 25) hx hb dX6_value_19 (by decide) ?_
        exact k_rl B hP hD hS dX6_value_25 () [0, 1] rfl rfl (Nat.le_of_ble_eq_true rfl) (Nat.le_of_ble_eq_true rfl) rfl
set_option maxHeartbeats 4000000 in
set_option maxRecDepth 100000 in
theorem c_X7_value_v0 (l : Launch) (dC : Nat → ClassId) (dI : Nat → Nat → Nat) (cI cJ cZ cM : ClassId) (p0 : Nat) (p1 : Int32) (p2 : Nat → Nat)   : k_Ml l yX7_value wsX7_value ({ frames := 2, cells := 0, slots := 0, locals := 62 }) (dC, dI) vwCl (tyy cI cJ cZ cM) [(p0, .inr (7, oM p2 i7 j7))] [.ref p0, .int p1] 0 0 (fun (u9 : Unit) => [(p0, .inr (7, oM p2 i7 j7))]) (fun (r9 : Int64) (u9 : Unit) => r9 = (-1)) := by
  refine fun sz => k_enter (cc := cX7_value) (maxL := 2) (ret := some (.long)) (Qc := fun A => va_Ql (fun (r9 : Int64) (u9 : Unit) => r9 = (-1)) (fun u => k_B (dC, dI) vwCl (tyy cI cJ cZ cM) A ((fun (u9 : Unit) => [(p0, .inr (7, oM p2 i7 j7))]) u)) A) sz (by decide +kernel) rfl (Nat.le_of_ble_eq_true rfl) (fun p e s m args below meth c A ls H locs B hP hD hS hl => ?_)
  obtain ⟨hx, hb, hml, hown, hts, hr, hlk, hnm, hK, hA, hN, hC⟩ := id B
  have hown : s.vm.findClass RX7 = some m.cls := hown
  have hl : lv_has ls 2 [(0, .ref p0), (1, .int p1)] := hl
  have w_0 : (Cond.fieldLink RX7 255 "WishSeaModel" "stopMany" "I").before args s = true := hts _ (List.mem_of_getElem? (i := 1) rfl)
  have w_1 : (Cond.constantLong RX7 629 (-1)).before args s = true := hts _ (List.mem_of_getElem? (i := 3) rfl)
  have hinX7 : ∀ w ∈ u_ws RX7 TX7 92, w ∈ wsX7_value := fun _ h => List.mem_cons_of_mem _ (List.mem_append_right _ h)
  refine lv_iload_n hx hb dX7_value_0 rfl (lv_at hl 1 rfl) ?_
  refine lv_iconst (v := 0) hx hb dX7_value_1 (by decide +kernel) ?_
  refine lv_aload_n hx hb dX7_value_2 rfl (lv_at hl 0 rfl) ?_
  refine k_get (D := (dC, dI)) (ci := 7) (v := .int (-1)) (C := RX7) (T := TX7) (N := 92) hx hb hts hinX7 hown hK hP 0 rfl rfl 80 (by decide) w_0 rfl rfl dX7_value_3 ?_
  refine k_ci (wc := []) (wr := [(p0, .inr (7, oM p2 i7 j7))]) (fun hPc hDc hFc => va_runS (As := [.int p1, .int 0, .int (-1)]) (rest := []) ⟨hx, hb, hml, hown, hts⟩ (c_X7_is_v1 l dC dI cI cJ cZ cM p1 H.size) (va_cwS 3 hts gX7_value_X7_is rfl rfl rfl (by decide +kernel) ⟨(Nat.le_of_ble_eq_true rfl), (Nat.le_of_ble_eq_true rfl)⟩) (k_pS hPc hDc hK hN hC hS hFc) rfl rfl hl.1 rfl (lv_room (Nat.le_of_ble_eq_true rfl)) dX7_value_6 ⟨(Nat.le_of_ble_eq_true rfl), (Nat.le_of_ble_eq_true rfl)⟩) hP hD hS hA [] [0] rfl rfl rfl rfl (by decide) (fun _ => rfl) 0 0 rfl rfl (fun r_1 u_2 H locs hw hP hD hS => ?_)
  obtain rfl : r_1 = 0 := hw
  have hP : va_P (dC, dI) vwCl [(p0, .inr (7, oM p2 i7 j7))] H := hP
  have hD : va_D A [(p0, .inr (7, oM p2 i7 j7))] := hD
  refine lv_if_eq (tgt := 21) hx hb dX7_value_9 (by decide) (fun _ => ?_) (fun q9 => absurd q9 (by decide +kernel))
  refine lv_ldc2 (v := (-1)) hx hb hown w_1 dX7_value_21 ?_
  exact k_rl B hP hD hS dX7_value_24 () [0] rfl rfl (Nat.le_of_ble_eq_true rfl) (Nat.le_of_ble_eq_true rfl) rfl
set_option maxHeartbeats 4000000 in
set_option maxRecDepth 100000 in
theorem c_J7_rangeCheck_23922_v1 (l : Launch) (dC : Nat → ClassId) (dI : Nat → Nat → Nat) (cI cJ cZ cM : ClassId)    : k_Mv l yJ7_rangeCheck_23922 wsJ7_rangeCheck_23922 ({ frames := 1, cells := 0, slots := 0, locals := 40 }) (dC, dI) vwCl (tyy cI cJ cZ cM) [] [.int 20, .int 0, .int 4] 0 0 (fun (u9 : Unit) => []) (fun (u9 : Unit) => True) := by
  refine fun sz => k_enter (cc := cJ7_rangeCheck_23922) (maxL := 3) (ret := none) (Qc := fun A => va_Qv (fun (u9 : Unit) => True) (fun u => k_B (dC, dI) vwCl (tyy cI cJ cZ cM) A ((fun (u9 : Unit) => []) u)) A) sz (by decide +kernel) rfl (Nat.le_of_ble_eq_true rfl) (fun p e s m args below meth c A ls H locs B hP hD hS hl => ?_)
  obtain ⟨hx, hb, hml, hown, hts, hr, hlk, hnm, hK, hA, hN, hC⟩ := id B
  have hown : s.vm.findClass RJ7 = some m.cls := hown
  have hl : lv_has ls 3 [(0, .int 20), (1, .int 0), (2, .int 4)] := hl
  refine lv_iload_n hx hb dJ7_rangeCheck_23922_0 rfl (lv_at hl 1 rfl) ?_
  refine lv_iload_n hx hb dJ7_rangeCheck_23922_1 rfl (lv_at hl 2 rfl) ?_
  refine lv_icmp_le (tgt := 46) hx hb dJ7_rangeCheck_23922_2 (by decide) (fun _ => ?_) (fun q9 => absurd q9 (by decide +kernel))
  refine lv_iload_n hx hb dJ7_rangeCheck_23922_46 rfl (lv_at hl 1 rfl) ?_
  refine lv_if_ge (tgt := 59) hx hb dJ7_rangeCheck_23922_47 (by decide) (fun _ => ?_) (fun q9 => absurd q9 (by decide +kernel))
  refine lv_iload_n hx hb dJ7_rangeCheck_23922_59 rfl (lv_at hl 2 rfl) ?_
  refine lv_iload_n hx hb dJ7_rangeCheck_23922_60 rfl (lv_at hl 0 rfl) ?_
  refine lv_icmp_le (tgt := 73) hx hb dJ7_rangeCheck_23922_61 (by decide) (fun _ => ?_) (fun q9 => absurd q9 (by decide +kernel))
  exact k_rv B hP hD hS dJ7_rangeCheck_23922_73 () [] rfl rfl (Nat.le_of_ble_eq_true rfl) (Nat.le_of_ble_eq_true rfl) trivial
set_option maxHeartbeats 4000000 in
set_option maxRecDepth 100000 in
theorem c_J7_fill_fda19_v1 (l : Launch) (dC : Nat → ClassId) (dI : Nat → Nat → Nat) (cI cJ cZ cM : ClassId) (p0 : Nat → Nat)   : k_Mv l yJ7_fill_fda19 wsJ7_fill_fda19 ({ frames := 2, cells := 0, slots := 0, locals := 62 }) (dC, dI) vwCl (tyy cI cJ cZ cM) [((p0 56), .inl (cI, 20, .inl (fun _ => 0)))] [.ref (p0 56), .int 0, .int 4, .int 20] 0 0 (fun (u9 : Unit) => [((p0 56), .inl (cI, 20, .inl (fun k => if 0 ≤ k ∧ k < 4 then 20 else 0)))]) (fun (u9 : Unit) => True) := by
  refine fun sz => k_enter (cc := cJ7_fill_fda19) (maxL := 5) (ret := none) (Qc := fun A => va_Qv (fun (u9 : Unit) => True) (fun u => k_B (dC, dI) vwCl (tyy cI cJ cZ cM) A ((fun (u9 : Unit) => [((p0 56), .inl (cI, 20, .inl (fun k => if 0 ≤ k ∧ k < 4 then 20 else 0)))]) u)) A) sz (by decide +kernel) rfl (Nat.le_of_ble_eq_true rfl) (fun p e s m args below meth c A ls H locs B hP hD hS hl => ?_)
  obtain ⟨hx, hb, hml, hown, hts, hr, hlk, hnm, hK, hA, hN, hC⟩ := id B
  have hown : s.vm.findClass RJ7 = some m.cls := hown
  have hl : lv_has ls 5 [(0, .ref (p0 56)), (1, .int 0), (2, .int 4), (3, .int 20)] := hl
  refine lv_aload_n hx hb dJ7_fill_fda19_0 rfl (lv_at hl 0 rfl) ?_
  refine va_alen (v := 20) hx hb hK hP 0 0 rfl rfl rfl dJ7_fill_fda19_1 ?_
  refine lv_iload_n hx hb dJ7_fill_fda19_2 rfl (lv_at hl 1 rfl) ?_
  refine lv_iload_n hx hb dJ7_fill_fda19_3 rfl (lv_at hl 2 rfl) ?_
  refine k_cv (wc := []) (wr := [((p0 56), .inl (cI, 20, .inl (fun _ => 0)))]) (fun hPc hDc hFc => va_runS (As := [.int 20, .int 0, .int 4]) (rest := []) ⟨hx, hb, hml, hown, hts⟩ (c_J7_rangeCheck_23922_v1 l dC dI cI cJ cZ cM H.size) (va_cwS 3 hts gJ7_fill_fda19_J7_rangeCheck_23922 rfl rfl rfl (by decide +kernel) ⟨(Nat.le_of_ble_eq_true rfl), (Nat.le_of_ble_eq_true rfl)⟩) (k_pS hPc hDc hK hN hC hS hFc) rfl rfl hl.1 rfl (lv_room (Nat.le_of_ble_eq_true rfl)) dJ7_fill_fda19_4 ⟨(Nat.le_of_ble_eq_true rfl), (Nat.le_of_ble_eq_true rfl)⟩) hP hD hS hA [] [0] rfl rfl rfl rfl (by decide) (fun _ => rfl) 0 0 rfl rfl (fun u_2 H locs hw hP hD hS => ?_)
  have hP : va_P (dC, dI) vwCl [((p0 56), .inl (cI, 20, .inl (fun _ => 0)))] H := hP
  have hD : va_D A [((p0 56), .inl (cI, 20, .inl (fun _ => 0)))] := hD
  refine lv_iload_n hx hb dJ7_fill_fda19_7 rfl (lv_at hl 1 rfl) ?_
  refine lv_istore (lv' := [(4, .int 0), (0, .ref (p0 56)), (1, .int 0), (2, .int 4), (3, .int 20)]) hx hb dJ7_fill_fda19_8 hl (by decide) rfl (fun ls hl => ?_)
  have loop_k_3 : ∀ (n_k_3 : Nat) (kk_3 : Nat) (fk_3 : Nat → Int32) (h1k_3 : 0 ≤ kk_3) (h2k_3 : kk_3 ≤ 4) (h3k_3 : ∀ j, j < 20 → fk_3 j = if 0 ≤ j ∧ j < kk_3 then 20 else 0) (hn_k_3 : 4 - kk_3 < n_k_3) (H : Heap) (locs : List Loc) (ls : Array Slot), va_P (dC, dI) vwCl [((p0 56), .inl (cI, 20, .inl fk_3))] H → va_D A [((p0 56), .inl (cI, 20, .inl fk_3))] → va_S A s.heap H locs → lv_has ls 5 [(4, .int (nI kk_3)), (0, .ref (p0 56)), (1, .int 0), (2, .int 4), (3, .int 20)] → W p l e ({ frames := 2, cells := 0, slots := 0, locals := 62 }) s m args below meth c H locs 0 0 (MQ below (va_Qv (fun (u9 : Unit) => True) (fun u => k_B (dC, dI) vwCl (tyy cI cJ cZ cM) A ((fun (u9 : Unit) => [((p0 56), .inl (cI, 20, .inl (fun k => if 0 ≤ k ∧ k < 4 then 20 else 0)))]) u)) A) args s 0 0 A) (F0 m 10 ls []) := by
    intro n_k_3
    induction n_k_3 with
    | zero => intro kk_3 fk_3 h1k_3 h2k_3 h3k_3 hn_k_3; exact absurd hn_k_3 (Nat.not_lt_zero _)
    | succ n_k_3 ih_k_3 =>
      intro kk_3 fk_3 h1k_3 h2k_3 h3k_3 hn_k_3 H locs ls hP hD hS hl
      refine lv_iload hx hb dJ7_fill_fda19_10 (lv_at hl 0 rfl) ?_
      refine lv_iload_n hx hb dJ7_fill_fda19_12 rfl (lv_at hl 3 rfl) ?_
      refine lv_icmp_ge (tgt := 27) hx hb dJ7_fill_fda19_13 (by decide) (fun c_4 => ?_) (fun c_4 => ?_)
      · have c_4 : 4 ≤ ((kk_3 : Nat) : Int) := k_leT (by decide +kernel) (nI_toInt (by omega)) c_4
        obtain rfl : kk_3 = 4 := by omega
        have hl : lv_has ls 5 [(4, .int 4), (0, .ref (p0 56)), (1, .int 0), (2, .int 4), (3, .int 20)] := hl
        have hP : va_P (dC, dI) vwCl [((p0 56), .inl (cI, 20, .inl fk_3))] H := hP
        have hD : va_D A [((p0 56), .inl (cI, 20, .inl fk_3))] := hD
        have hP : va_P (dC, dI) vwCl [((p0 56), .inl (cI, 20, .inl (fun k => if 0 ≤ k ∧ k < 4 then 20 else 0)))] H := k_contI (g := (fun k => if 0 ≤ k ∧ k < 4 then 20 else 0)) hP 0 rfl h3k_3 rfl
        have hD : va_D A [((p0 56), .inl (cI, 20, .inl (fun k => if 0 ≤ k ∧ k < 4 then 20 else 0)))] := k_contD hD 0 rfl rfl
        exact k_rv B hP hD hS dJ7_fill_fda19_27 () [0] rfl rfl (Nat.le_of_ble_eq_true rfl) (Nat.le_of_ble_eq_true rfl) trivial
      · have c_4 : ((kk_3 : Nat) : Int) < 4 := k_leF (by decide +kernel) (nI_toInt (by omega)) c_4
        refine lv_aload_n hx hb dJ7_fill_fda19_16 rfl (lv_at hl 1 rfl) ?_
        refine lv_iload hx hb dJ7_fill_fda19_17 (lv_at hl 0 rfl) ?_
        refine lv_iload_n hx hb dJ7_fill_fda19_19 rfl (lv_at hl 4 rfl) ?_
        refine k_iast (g := (upd fk_3 kk_3 20)) (ws' := [((p0 56), .inl (cI, 20, .inl (upd fk_3 kk_3 20)))]) hx hb hK hP hD hS 0 0 kk_3 rfl rfl rfl (by omega) (Nat.le_of_ble_eq_true rfl) rfl rfl dJ7_fill_fda19_20 (fun H locs hP hD hS => ?_)
        refine lv_iinc (v := (nI (kk_3 + 1))) (lv' := [(4, .int (nI (kk_3 + 1))), (0, .ref (p0 56)), (1, .int 0), (2, .int 4), (3, .int 20)]) hx hb dJ7_fill_fda19_21 hl (k := 0) rfl (nI_1 _) (by decide) rfl (fun ls hl => ?_)
        refine lv_goto (tgt := 10) hx hb dJ7_fill_fda19_24 (by decide) ?_
        exact ih_k_3 (kk_3 + 1) (upd fk_3 kk_3 20) (by omega) (by omega) (k_fillR h3k_3 (by omega)) (by omega) H locs ls (hP.sub [0] rfl) (hD.sub [0] (by decide) rfl) hS (lv_sub hl [0, 1, 2, 3, 4] rfl)
  exact loop_k_3 _ 0 (fun _ => 0) (Nat.le_refl _) (Nat.le_of_ble_eq_true rfl) k_fillR0 (Nat.lt_succ_self _) H locs ls hP hD hS hl
set_option maxHeartbeats 4000000 in
set_option maxRecDepth 100000 in
theorem c_X3_bestMargin_v0 (l : Launch) (dC : Nat → ClassId) (dI : Nat → Nat → Nat) (cI cJ cZ cM : ClassId) (p0 : Nat → Nat)   : k_Mi l yX3_bestMargin wsX3_bestMargin ({ frames := 2, cells := 0, slots := 0, locals := 63 }) (dC, dI) vwCl (tyy cI cJ cZ cM) [((p0 54), .inr (3, [.ref (p0 55), .ref (p0 56), .ref (p0 57), .ref (p0 58), .ref (p0 59), .ref (p0 1), .int 0])), ((p0 1), .inr (5, [.ref (p0 2), .ref (p0 3), .ref (p0 4), .ref (p0 5), .ref (p0 6), .ref (p0 7), .ref (p0 8), .ref (p0 9), .ref (p0 10), .ref (p0 11), .ref (p0 12), .ref (p0 13), .int 0, .int 0, .int 0, .int 0, .int 0, .int 100, .int 0, .int 0]))] [.ref (p0 54), .int 0, .int 0, .int 0, .int 0, .int 0] 0 0 (fun (u9 : Unit) => [((p0 54), .inr (3, [.ref (p0 55), .ref (p0 56), .ref (p0 57), .ref (p0 58), .ref (p0 59), .ref (p0 1), .int 0])), ((p0 1), .inr (5, [.ref (p0 2), .ref (p0 3), .ref (p0 4), .ref (p0 5), .ref (p0 6), .ref (p0 7), .ref (p0 8), .ref (p0 9), .ref (p0 10), .ref (p0 11), .ref (p0 12), .ref (p0 13), .int 0, .int 0, .int 0, .int 0, .int 0, .int 100, .int 0, .int 0]))]) (fun (r9 : Int32) (u9 : Unit) => r9 = 0) := by
  refine fun sz => k_enter (cc := cX3_bestMargin) (maxL := 11) (ret := some (.int)) (Qc := fun A => va_Qi (fun (r9 : Int32) (u9 : Unit) => r9 = 0) (fun u => k_B (dC, dI) vwCl (tyy cI cJ cZ cM) A ((fun (u9 : Unit) => [((p0 54), .inr (3, [.ref (p0 55), .ref (p0 56), .ref (p0 57), .ref (p0 58), .ref (p0 59), .ref (p0 1), .int 0])), ((p0 1), .inr (5, [.ref (p0 2), .ref (p0 3), .ref (p0 4), .ref (p0 5), .ref (p0 6), .ref (p0 7), .ref (p0 8), .ref (p0 9), .ref (p0 10), .ref (p0 11), .ref (p0 12), .ref (p0 13), .int 0, .int 0, .int 0, .int 0, .int 0, .int 100, .int 0, .int 0]))]) u)) A) sz (by decide +kernel) rfl (Nat.le_of_ble_eq_true rfl) (fun p e s m args below meth c A ls H locs B hP hD hS hl => ?_)
  obtain ⟨hx, hb, hml, hown, hts, hr, hlk, hnm, hK, hA, hN, hC⟩ := id B
  have hown : s.vm.findClass RX3 = some m.cls := hown
  have hl : lv_has ls 11 [(0, .ref (p0 54)), (1, .int 0), (2, .int 0), (3, .int 0), (4, .int 0), (5, .int 0)] := hl
  have w_0 : (Cond.fieldLink RX3 36 "WishSea$Rivalry" "turns" "I").before args s = true := hts _ (List.mem_of_getElem? (i := 1) rfl)
  have w_1 : (Cond.fieldLink RX3 32 "WishSea$Rivalry" "shore" "LWishSea$Shore;").before args s = true := hts _ (List.mem_of_getElem? (i := 3) rfl)
  have hinX3 : ∀ w ∈ u_ws RX3 TX3 7, w ∈ wsX3_bestMargin := fun _ h => List.mem_cons_of_mem _ (List.mem_append_left _ (List.mem_append_left _ (List.mem_append_right _ h)))
  refine lv_iload_n hx hb dX3_bestMargin_0 rfl (lv_at hl 1 rfl) ?_
  refine lv_aload_n hx hb dX3_bestMargin_1 rfl (lv_at hl 0 rfl) ?_
  refine k_get (D := (dC, dI)) (ci := 3) (v := .int 0) (C := RX3) (T := TX3) (N := 7) hx hb hts hinX3 hown hK hP 0 rfl rfl 6 (by decide) w_0 rfl rfl dX3_bestMargin_2 ?_
  refine lv_icmp_ge (tgt := 17) hx hb dX3_bestMargin_5 (by decide) (fun _ => ?_) (fun q9 => absurd q9 (by decide +kernel))
  refine lv_aload_n hx hb dX3_bestMargin_17 rfl (lv_at hl 0 rfl) ?_
  refine k_get (D := (dC, dI)) (ci := 3) (v := .ref (p0 1)) (C := RX3) (T := TX3) (N := 7) hx hb hts hinX3 hown hK hP 0 rfl rfl 5 (by decide) w_1 rfl rfl dX3_bestMargin_18 ?_
  refine lv_iload_n hx hb dX3_bestMargin_21 rfl (lv_at hl 2 rfl) ?_
  refine k_ci (wc := [((p0 1), .inr (5, [.ref (p0 2), .ref (p0 3), .ref (p0 4), .ref (p0 5), .ref (p0 6), .ref (p0 7), .ref (p0 8), .ref (p0 9), .ref (p0 10), .ref (p0 11), .ref (p0 12), .ref (p0 13), .int 0, .int 0, .int 0, .int 0, .int 0, .int 100, .int 0, .int 0]))]) (wr := [((p0 54), .inr (3, [.ref (p0 55), .ref (p0 56), .ref (p0 57), .ref (p0 58), .ref (p0 59), .ref (p0 1), .int 0]))]) (fun hPc hDc hFc => va_runV (As := [.int 0]) (rest := []) ⟨hx, hb, hml, hown, hts⟩ (c_X5_worthOf_v0 l dC dI cI cJ cZ cM p0 H.size) (cwV 1 hts gX3_bestMargin_X5_worthOf rfl rfl rfl (by decide +kernel) ⟨(Nat.le_of_ble_eq_true rfl), (Nat.le_of_ble_eq_true rfl)⟩) (k_pV hPc hDc hK hN hC hS hFc hP (q0 := 1) (ci := 5) rfl rfl) rfl rfl hl.1 rfl (lv_room (Nat.le_of_ble_eq_true rfl)) dX3_bestMargin_22 ⟨(Nat.le_of_ble_eq_true rfl), (Nat.le_of_ble_eq_true rfl)⟩) hP hD hS hA [1] [0] rfl rfl rfl rfl (by decide) (fun _ => rfl) 0 0 rfl rfl (fun r_1 u_2 H locs hw hP hD hS => ?_)
  obtain rfl : r_1 = 0 := hw
  have hP : va_P (dC, dI) vwCl [((p0 54), .inr (3, [.ref (p0 55), .ref (p0 56), .ref (p0 57), .ref (p0 58), .ref (p0 59), .ref (p0 1), .int 0])), ((p0 1), .inr (5, [.ref (p0 2), .ref (p0 3), .ref (p0 4), .ref (p0 5), .ref (p0 6), .ref (p0 7), .ref (p0 8), .ref (p0 9), .ref (p0 10), .ref (p0 11), .ref (p0 12), .ref (p0 13), .int 0, .int 0, .int 0, .int 0, .int 0, .int 100, .int 0, .int 0]))] H := hP
  have hD : va_D A [((p0 54), .inr (3, [.ref (p0 55), .ref (p0 56), .ref (p0 57), .ref (p0 58), .ref (p0 59), .ref (p0 1), .int 0])), ((p0 1), .inr (5, [.ref (p0 2), .ref (p0 3), .ref (p0 4), .ref (p0 5), .ref (p0 6), .ref (p0 7), .ref (p0 8), .ref (p0 9), .ref (p0 10), .ref (p0 11), .ref (p0 12), .ref (p0 13), .int 0, .int 0, .int 0, .int 0, .int 0, .int 100, .int 0, .int 0]))] := hD
  refine lv_aload_n hx hb dX3_bestMargin_25 rfl (lv_at hl 0 rfl) ?_
  refine k_get (D := (dC, dI)) (ci := 3) (v := .ref (p0 1)) (C := RX3) (T := TX3) (N := 7) hx hb hts hinX3 hown hK hP 0 rfl rfl 5 (by decide) w_1 rfl rfl dX3_bestMargin_26 ?_
  refine lv_iload_n hx hb dX3_bestMargin_29 rfl (lv_at hl 3 rfl) ?_
  refine k_ci (wc := [((p0 1), .inr (5, [.ref (p0 2), .ref (p0 3), .ref (p0 4), .ref (p0 5), .ref (p0 6), .ref (p0 7), .ref (p0 8), .ref (p0 9), .ref (p0 10), .ref (p0 11), .ref (p0 12), .ref (p0 13), .int 0, .int 0, .int 0, .int 0, .int 0, .int 100, .int 0, .int 0]))]) (wr := [((p0 54), .inr (3, [.ref (p0 55), .ref (p0 56), .ref (p0 57), .ref (p0 58), .ref (p0 59), .ref (p0 1), .int 0]))]) (fun hPc hDc hFc => va_runV (As := [.int 0]) (rest := [.int 0]) ⟨hx, hb, hml, hown, hts⟩ (c_X5_worthOf_v0 l dC dI cI cJ cZ cM p0 H.size) (cwV 1 hts gX3_bestMargin_X5_worthOf rfl rfl rfl (by decide +kernel) ⟨(Nat.le_of_ble_eq_true rfl), (Nat.le_of_ble_eq_true rfl)⟩) (k_pV hPc hDc hK hN hC hS hFc hP (q0 := 1) (ci := 5) rfl rfl) rfl rfl hl.1 rfl (lv_room (Nat.le_of_ble_eq_true rfl)) dX3_bestMargin_30 ⟨(Nat.le_of_ble_eq_true rfl), (Nat.le_of_ble_eq_true rfl)⟩) hP hD hS hA [1] [0] rfl rfl rfl rfl (by decide) (fun _ => rfl) 0 0 rfl rfl (fun r_3 u_4 H locs hw hP hD hS => ?_)
  obtain rfl : r_3 = 0 := hw
  have hP : va_P (dC, dI) vwCl [((p0 54), .inr (3, [.ref (p0 55), .ref (p0 56), .ref (p0 57), .ref (p0 58), .ref (p0 59), .ref (p0 1), .int 0])), ((p0 1), .inr (5, [.ref (p0 2), .ref (p0 3), .ref (p0 4), .ref (p0 5), .ref (p0 6), .ref (p0 7), .ref (p0 8), .ref (p0 9), .ref (p0 10), .ref (p0 11), .ref (p0 12), .ref (p0 13), .int 0, .int 0, .int 0, .int 0, .int 0, .int 100, .int 0, .int 0]))] H := hP
  have hD : va_D A [((p0 54), .inr (3, [.ref (p0 55), .ref (p0 56), .ref (p0 57), .ref (p0 58), .ref (p0 59), .ref (p0 1), .int 0])), ((p0 1), .inr (5, [.ref (p0 2), .ref (p0 3), .ref (p0 4), .ref (p0 5), .ref (p0 6), .ref (p0 7), .ref (p0 8), .ref (p0 9), .ref (p0 10), .ref (p0 11), .ref (p0 12), .ref (p0 13), .int 0, .int 0, .int 0, .int 0, .int 0, .int 100, .int 0, .int 0]))] := hD
  refine lv_isub hx hb dX3_bestMargin_33 ?_
  refine k_int (v := 0) (by decide +kernel) ?_
  exact k_ri B hP hD hS dX3_bestMargin_34 () [0, 1] rfl rfl rfl (Nat.le_of_ble_eq_true rfl) (Nat.le_of_ble_eq_true rfl) rfl
set_option maxHeartbeats 4000000 in
set_option maxRecDepth 100000 in
theorem c_X3_play_v0 (l : Launch) (dC : Nat → ClassId) (dI : Nat → Nat → Nat) (cI cJ cZ cM : ClassId) (p0 : Nat → Nat)   : k_Mv l yX3_play wsX3_play ({ frames := 3, cells := 0, slots := 0, locals := 93 }) (dC, dI) vwCl (tyy cI cJ cZ cM) [((p0 54), .inr (3, [.ref (p0 55), .ref (p0 56), .ref (p0 57), .ref (p0 58), .ref (p0 59), .ref (p0 1), .int 0])), ((p0 57), .inl (cZ, 5, .inl (fun _ => 0))), ((p0 56), .inl (cI, 20, .inl (fun _ => 0))), ((p0 1), .inr (5, [.ref (p0 2), .ref (p0 3), .ref (p0 4), .ref (p0 5), .ref (p0 6), .ref (p0 7), .ref (p0 8), .ref (p0 9), .ref (p0 10), .ref (p0 11), .ref (p0 12), .ref (p0 13), .int 0, .int 0, .int 0, .int 0, .int 0, .int 100, .int 0, .int 0])), ((p0 55), .inl (cI, 5, .inl (fun _ => 0)))] [.ref (p0 54), .ref (p0 1), .int 0] 0 0 (fun (u9 : Unit) => [((p0 54), .inr (3, [.ref (p0 55), .ref (p0 56), .ref (p0 57), .ref (p0 58), .ref (p0 59), .ref (p0 1), .int 0])), ((p0 57), .inl (cZ, 5, .inl (upd (fun _ => 0) 0 1))), ((p0 56), .inl (cI, 20, .inl (fun k => if 0 ≤ k ∧ k < 4 then 20 else 0))), ((p0 1), .inr (5, [.ref (p0 2), .ref (p0 3), .ref (p0 4), .ref (p0 5), .ref (p0 6), .ref (p0 7), .ref (p0 8), .ref (p0 9), .ref (p0 10), .ref (p0 11), .ref (p0 12), .ref (p0 13), .int 0, .int 0, .int 0, .int 0, .int 0, .int 100, .int 0, .int 0])), ((p0 55), .inl (cI, 5, .inl (upd (fun _ => 0) 0 0)))]) (fun (u9 : Unit) => True) := by
  refine fun sz => k_enter (cc := cX3_play) (maxL := 10) (ret := none) (Qc := fun A => va_Qv (fun (u9 : Unit) => True) (fun u => k_B (dC, dI) vwCl (tyy cI cJ cZ cM) A ((fun (u9 : Unit) => [((p0 54), .inr (3, [.ref (p0 55), .ref (p0 56), .ref (p0 57), .ref (p0 58), .ref (p0 59), .ref (p0 1), .int 0])), ((p0 57), .inl (cZ, 5, .inl (upd (fun _ => 0) 0 1))), ((p0 56), .inl (cI, 20, .inl (fun k => if 0 ≤ k ∧ k < 4 then 20 else 0))), ((p0 1), .inr (5, [.ref (p0 2), .ref (p0 3), .ref (p0 4), .ref (p0 5), .ref (p0 6), .ref (p0 7), .ref (p0 8), .ref (p0 9), .ref (p0 10), .ref (p0 11), .ref (p0 12), .ref (p0 13), .int 0, .int 0, .int 0, .int 0, .int 0, .int 100, .int 0, .int 0])), ((p0 55), .inl (cI, 5, .inl (upd (fun _ => 0) 0 0)))]) u)) A) sz (by decide +kernel) rfl (Nat.le_of_ble_eq_true rfl) (fun p e s m args below meth c A ls H locs B hP hD hS hl => ?_)
  obtain ⟨hx, hb, hml, hown, hts, hr, hlk, hnm, hK, hA, hN, hC⟩ := id B
  have hown : s.vm.findClass RX3 = some m.cls := hown
  have hl : lv_has ls 10 [(0, .ref (p0 54)), (1, .ref (p0 1)), (2, .int 0)] := hl
  have w_0 : (Cond.fieldLink RX3 18 "WishSea$Rivalry" "played" "[Z").before args s = true := hts _ (List.mem_of_getElem? (i := 1) rfl)
  have w_1 : (Cond.fieldLink RX3 32 "WishSea$Rivalry" "shore" "LWishSea$Shore;").before args s = true := hts _ (List.mem_of_getElem? (i := 2) rfl)
  have w_2 : (Cond.fieldLink RX3 36 "WishSea$Rivalry" "turns" "I").before args s = true := hts _ (List.mem_of_getElem? (i := 3) rfl)
  have w_3 : (Cond.fieldLink RX3 15 "WishSea$Rivalry" "moves" "[I").before args s = true := hts _ (List.mem_of_getElem? (i := 4) rfl)
  have w_4 : (Cond.fieldLink RX3 9 "WishSea$Rivalry" "margins" "[I").before args s = true := hts _ (List.mem_of_getElem? (i := 5) rfl)
  have w_5 : (Cond.fieldLink RX3 46 "WishSea$Shore" "first" "I").before args s = true := hts _ (List.mem_of_getElem? (i := 6) rfl)
  have hinX3 : ∀ w ∈ u_ws RX3 TX3 7, w ∈ wsX3_play := fun _ h => List.mem_cons_of_mem _ (List.mem_append_left _ (List.mem_append_left _ (List.mem_append_right _ h)))
  have hinX5 : ∀ w ∈ u_ws RX5 TX5 20, w ∈ wsX3_play := fun _ h => List.mem_cons_of_mem _ (List.mem_append_left _ (List.mem_append_right _ h))
  refine lv_iload_n hx hb dX3_play_0 rfl (lv_at hl 2 rfl) ?_
  refine lv_if_lt (tgt := 18) hx hb dX3_play_1 (by decide) (fun q9 => absurd q9 (by decide +kernel)) (fun _ => ?_)
  refine lv_iload_n hx hb dX3_play_4 rfl (lv_at hl 2 rfl) ?_
  refine lv_iconst (v := 4) hx hb dX3_play_5 (by decide +kernel) ?_
  refine lv_icmp_gt (tgt := 18) hx hb dX3_play_6 (by decide) (fun q9 => absurd q9 (by decide +kernel)) (fun _ => ?_)
  refine lv_aload_n hx hb dX3_play_9 rfl (lv_at hl 0 rfl) ?_
  refine k_get (D := (dC, dI)) (ci := 3) (v := .ref (p0 57)) (C := RX3) (T := TX3) (N := 7) hx hb hts hinX3 hown hK hP 0 rfl rfl 2 (by decide) w_0 rfl rfl dX3_play_10 ?_
  refine lv_iload_n hx hb dX3_play_13 rfl (lv_at hl 2 rfl) ?_
  refine k_zald (v := 0) hx hb hK hP 1 2 0 rfl rfl rfl (Nat.le_of_ble_eq_true rfl) (Nat.le_of_ble_eq_true rfl) rfl dX3_play_14 ?_
  refine lv_if_eq (tgt := 19) hx hb dX3_play_15 (by decide) (fun _ => ?_) (fun q9 => absurd q9 (by decide +kernel))
  refine lv_aload_n hx hb dX3_play_19 rfl (lv_at hl 0 rfl) ?_
  refine k_get (D := (dC, dI)) (ci := 3) (v := .ref (p0 57)) (C := RX3) (T := TX3) (N := 7) hx hb hts hinX3 hown hK hP 0 rfl rfl 2 (by decide) w_0 rfl rfl dX3_play_20 ?_
  refine lv_iload_n hx hb dX3_play_23 rfl (lv_at hl 2 rfl) ?_
  refine lv_iconst (v := 1) hx hb dX3_play_24 (by decide +kernel) ?_
  refine k_zast (g := (upd (fun _ => 0) 0 1)) (ws' := [((p0 54), .inr (3, [.ref (p0 55), .ref (p0 56), .ref (p0 57), .ref (p0 58), .ref (p0 59), .ref (p0 1), .int 0])), ((p0 57), .inl (cZ, 5, .inl (upd (fun _ => 0) 0 1))), ((p0 56), .inl (cI, 20, .inl (fun _ => 0))), ((p0 1), .inr (5, [.ref (p0 2), .ref (p0 3), .ref (p0 4), .ref (p0 5), .ref (p0 6), .ref (p0 7), .ref (p0 8), .ref (p0 9), .ref (p0 10), .ref (p0 11), .ref (p0 12), .ref (p0 13), .int 0, .int 0, .int 0, .int 0, .int 0, .int 100, .int 0, .int 0])), ((p0 55), .inl (cI, 5, .inl (fun _ => 0)))]) hx hb hK hP hD hS 1 2 0 rfl rfl rfl (Nat.le_of_ble_eq_true rfl) (Nat.le_of_ble_eq_true rfl) rfl rfl dX3_play_25 (fun H locs hP hD hS => ?_)
  refine lv_aload_n hx hb dX3_play_26 rfl (lv_at hl 0 rfl) ?_
  refine lv_aload_n hx hb dX3_play_27 rfl (lv_at hl 1 rfl) ?_
  refine k_put (D := (dC, dI)) (ci := 3) (v := .ref (p0 1)) (C := RX3) (T := TX3) (N := 7) (ws' := [((p0 54), .inr (3, [.ref (p0 55), .ref (p0 56), .ref (p0 57), .ref (p0 58), .ref (p0 59), .ref (p0 1), .int 0])), ((p0 57), .inl (cZ, 5, .inl (upd (fun _ => 0) 0 1))), ((p0 56), .inl (cI, 20, .inl (fun _ => 0))), ((p0 1), .inr (5, [.ref (p0 2), .ref (p0 3), .ref (p0 4), .ref (p0 5), .ref (p0 6), .ref (p0 7), .ref (p0 8), .ref (p0 9), .ref (p0 10), .ref (p0 11), .ref (p0 12), .ref (p0 13), .int 0, .int 0, .int 0, .int 0, .int 0, .int 100, .int 0, .int 0])), ((p0 55), .inl (cI, 5, .inl (fun _ => 0)))]) hx hb hts hinX3 tyX3 tyX3_ok nmX3 hown hK hP hD hS 0 rfl rfl 5 (by decide) w_1 rfl rfl rfl rfl (Nat.le_of_ble_eq_true rfl) rfl dX3_play_28 (fun H locs hP hD hS => ?_)
  refine lv_aload_n hx hb dX3_play_31 rfl (lv_at hl 0 rfl) ?_
  refine lv_iload_n hx hb dX3_play_32 rfl (lv_at hl 2 rfl) ?_
  refine k_put (D := (dC, dI)) (ci := 3) (v := .int 0) (C := RX3) (T := TX3) (N := 7) (ws' := [((p0 54), .inr (3, [.ref (p0 55), .ref (p0 56), .ref (p0 57), .ref (p0 58), .ref (p0 59), .ref (p0 1), .int 0])), ((p0 57), .inl (cZ, 5, .inl (upd (fun _ => 0) 0 1))), ((p0 56), .inl (cI, 20, .inl (fun _ => 0))), ((p0 1), .inr (5, [.ref (p0 2), .ref (p0 3), .ref (p0 4), .ref (p0 5), .ref (p0 6), .ref (p0 7), .ref (p0 8), .ref (p0 9), .ref (p0 10), .ref (p0 11), .ref (p0 12), .ref (p0 13), .int 0, .int 0, .int 0, .int 0, .int 0, .int 100, .int 0, .int 0])), ((p0 55), .inl (cI, 5, .inl (fun _ => 0)))]) hx hb hts hinX3 tyX3 tyX3_ok nmX3 hown hK hP hD hS 0 rfl rfl 6 (by decide) w_2 rfl rfl rfl rfl (Nat.le_of_ble_eq_true rfl) rfl dX3_play_33 (fun H locs hP hD hS => ?_)
  refine lv_aload_n hx hb dX3_play_36 rfl (lv_at hl 0 rfl) ?_
  refine k_get (D := (dC, dI)) (ci := 3) (v := .ref (p0 56)) (C := RX3) (T := TX3) (N := 7) hx hb hts hinX3 hown hK hP 0 rfl rfl 1 (by decide) w_3 rfl rfl dX3_play_37 ?_
  refine lv_iload_n hx hb dX3_play_40 rfl (lv_at hl 2 rfl) ?_
  refine lv_iconst (v := 4) hx hb dX3_play_41 (by decide +kernel) ?_
  refine lv_imul hx hb dX3_play_42 ?_
  refine k_int (v := 0) (by decide +kernel) ?_
  refine lv_iload_n hx hb dX3_play_43 rfl (lv_at hl 2 rfl) ?_
  refine lv_iconst (v := 1) hx hb dX3_play_44 (by decide +kernel) ?_
  refine lv_iadd hx hb dX3_play_45 ?_
  refine k_int (v := 1) (by decide +kernel) ?_
  refine lv_iconst (v := 4) hx hb dX3_play_46 (by decide +kernel) ?_
  refine lv_imul hx hb dX3_play_47 ?_
  refine k_int (v := 4) (by decide +kernel) ?_
  refine lv_bipush (v := 20) hx hb dX3_play_48 (by decide +kernel) ?_
  refine k_cv (wc := [((p0 56), .inl (cI, 20, .inl (fun _ => 0)))]) (wr := [((p0 54), .inr (3, [.ref (p0 55), .ref (p0 56), .ref (p0 57), .ref (p0 58), .ref (p0 59), .ref (p0 1), .int 0])), ((p0 57), .inl (cZ, 5, .inl (upd (fun _ => 0) 0 1))), ((p0 1), .inr (5, [.ref (p0 2), .ref (p0 3), .ref (p0 4), .ref (p0 5), .ref (p0 6), .ref (p0 7), .ref (p0 8), .ref (p0 9), .ref (p0 10), .ref (p0 11), .ref (p0 12), .ref (p0 13), .int 0, .int 0, .int 0, .int 0, .int 0, .int 100, .int 0, .int 0])), ((p0 55), .inl (cI, 5, .inl (fun _ => 0)))]) (fun hPc hDc hFc => va_runS (As := [.ref (p0 56), .int 0, .int 4, .int 20]) (rest := []) ⟨hx, hb, hml, hown, hts⟩ (c_J7_fill_fda19_v1 l dC dI cI cJ cZ cM p0 H.size) (va_cwS 4 hts gX3_play_J7_fill_fda19 rfl rfl rfl (by decide +kernel) ⟨(Nat.le_of_ble_eq_true rfl), (Nat.le_of_ble_eq_true rfl)⟩) (k_pS hPc hDc hK hN hC hS hFc) rfl rfl hl.1 rfl (lv_room (Nat.le_of_ble_eq_true rfl)) dX3_play_50 ⟨(Nat.le_of_ble_eq_true rfl), (Nat.le_of_ble_eq_true rfl)⟩) hP hD hS hA [2] [0, 1, 3, 4] rfl rfl rfl rfl (by decide) (fun _ => rfl) 0 0 rfl rfl (fun u_2 H locs hw hP hD hS => ?_)
  have hP : va_P (dC, dI) vwCl [((p0 54), .inr (3, [.ref (p0 55), .ref (p0 56), .ref (p0 57), .ref (p0 58), .ref (p0 59), .ref (p0 1), .int 0])), ((p0 57), .inl (cZ, 5, .inl (upd (fun _ => 0) 0 1))), ((p0 1), .inr (5, [.ref (p0 2), .ref (p0 3), .ref (p0 4), .ref (p0 5), .ref (p0 6), .ref (p0 7), .ref (p0 8), .ref (p0 9), .ref (p0 10), .ref (p0 11), .ref (p0 12), .ref (p0 13), .int 0, .int 0, .int 0, .int 0, .int 0, .int 100, .int 0, .int 0])), ((p0 55), .inl (cI, 5, .inl (fun _ => 0))), ((p0 56), .inl (cI, 20, .inl (fun k => if 0 ≤ k ∧ k < 4 then 20 else 0)))] H := hP
  have hD : va_D A [((p0 54), .inr (3, [.ref (p0 55), .ref (p0 56), .ref (p0 57), .ref (p0 58), .ref (p0 59), .ref (p0 1), .int 0])), ((p0 57), .inl (cZ, 5, .inl (upd (fun _ => 0) 0 1))), ((p0 1), .inr (5, [.ref (p0 2), .ref (p0 3), .ref (p0 4), .ref (p0 5), .ref (p0 6), .ref (p0 7), .ref (p0 8), .ref (p0 9), .ref (p0 10), .ref (p0 11), .ref (p0 12), .ref (p0 13), .int 0, .int 0, .int 0, .int 0, .int 0, .int 100, .int 0, .int 0])), ((p0 55), .inl (cI, 5, .inl (fun _ => 0))), ((p0 56), .inl (cI, 20, .inl (fun k => if 0 ≤ k ∧ k < 4 then 20 else 0)))] := hD
  refine lv_aload_n hx hb dX3_play_53 rfl (lv_at hl 0 rfl) ?_
  refine k_get (D := (dC, dI)) (ci := 3) (v := .ref (p0 55)) (C := RX3) (T := TX3) (N := 7) hx hb hts hinX3 hown hK hP 0 rfl rfl 0 (by decide) w_4 rfl rfl dX3_play_54 ?_
  refine lv_iload_n hx hb dX3_play_57 rfl (lv_at hl 2 rfl) ?_
  refine lv_aload_n hx hb dX3_play_58 rfl (lv_at hl 0 rfl) ?_
  refine lv_iconst (v := 0) hx hb dX3_play_59 (by decide +kernel) ?_
  refine lv_aload_n hx hb dX3_play_60 rfl (lv_at hl 0 rfl) ?_
  refine k_get (D := (dC, dI)) (ci := 3) (v := .ref (p0 1)) (C := RX3) (T := TX3) (N := 7) hx hb hts hinX3 hown hK hP 0 rfl rfl 5 (by decide) w_1 rfl rfl dX3_play_61 ?_
  refine k_get (D := (dC, dI)) (ci := 5) (v := .int 0) (C := RX5) (T := TX5) (N := 20) hx hb hts hinX5 hown hK hP 2 rfl rfl 16 (by decide) w_5 rfl rfl dX3_play_64 ?_
  refine lv_aload_n hx hb dX3_play_67 rfl (lv_at hl 0 rfl) ?_
  refine k_get (D := (dC, dI)) (ci := 3) (v := .ref (p0 1)) (C := RX3) (T := TX3) (N := 7) hx hb hts hinX3 hown hK hP 0 rfl rfl 5 (by decide) w_1 rfl rfl dX3_play_68 ?_
  refine k_get (D := (dC, dI)) (ci := 5) (v := .int 0) (C := RX5) (T := TX5) (N := 20) hx hb hts hinX5 hown hK hP 2 rfl rfl 16 (by decide) w_5 rfl rfl dX3_play_71 ?_
  refine lv_iconst (v := 0) hx hb dX3_play_74 (by decide +kernel) ?_
  refine lv_iconst (v := 0) hx hb dX3_play_75 (by decide +kernel) ?_
  refine k_ci (wc := [((p0 54), .inr (3, [.ref (p0 55), .ref (p0 56), .ref (p0 57), .ref (p0 58), .ref (p0 59), .ref (p0 1), .int 0])), ((p0 1), .inr (5, [.ref (p0 2), .ref (p0 3), .ref (p0 4), .ref (p0 5), .ref (p0 6), .ref (p0 7), .ref (p0 8), .ref (p0 9), .ref (p0 10), .ref (p0 11), .ref (p0 12), .ref (p0 13), .int 0, .int 0, .int 0, .int 0, .int 0, .int 100, .int 0, .int 0]))]) (wr := [((p0 57), .inl (cZ, 5, .inl (upd (fun _ => 0) 0 1))), ((p0 55), .inl (cI, 5, .inl (fun _ => 0))), ((p0 56), .inl (cI, 20, .inl (fun k => if 0 ≤ k ∧ k < 4 then 20 else 0)))]) (fun hPc hDc hFc => va_runV (As := [.int 0, .int 0, .int 0, .int 0, .int 0]) (rest := [.int 0, .ref (p0 55)]) ⟨hx, hb, hml, hown, hts⟩ (c_X3_bestMargin_v0 l dC dI cI cJ cZ cM p0 H.size) (cwV 5 hts gX3_play_X3_bestMargin rfl rfl rfl (by decide +kernel) ⟨(Nat.le_of_ble_eq_true rfl), (Nat.le_of_ble_eq_true rfl)⟩) (k_pV hPc hDc hK hN hC hS hFc hP (q0 := 0) (ci := 3) rfl rfl) rfl rfl hl.1 rfl (lv_room (Nat.le_of_ble_eq_true rfl)) dX3_play_76 ⟨(Nat.le_of_ble_eq_true rfl), (Nat.le_of_ble_eq_true rfl)⟩) hP hD hS hA [0, 2] [1, 3, 4] rfl rfl rfl rfl (by decide) (fun _ => rfl) 0 0 rfl rfl (fun r_3 u_4 H locs hw hP hD hS => ?_)
  obtain rfl : r_3 = 0 := hw
  have hP : va_P (dC, dI) vwCl [((p0 57), .inl (cZ, 5, .inl (upd (fun _ => 0) 0 1))), ((p0 55), .inl (cI, 5, .inl (fun _ => 0))), ((p0 56), .inl (cI, 20, .inl (fun k => if 0 ≤ k ∧ k < 4 then 20 else 0))), ((p0 54), .inr (3, [.ref (p0 55), .ref (p0 56), .ref (p0 57), .ref (p0 58), .ref (p0 59), .ref (p0 1), .int 0])), ((p0 1), .inr (5, [.ref (p0 2), .ref (p0 3), .ref (p0 4), .ref (p0 5), .ref (p0 6), .ref (p0 7), .ref (p0 8), .ref (p0 9), .ref (p0 10), .ref (p0 11), .ref (p0 12), .ref (p0 13), .int 0, .int 0, .int 0, .int 0, .int 0, .int 100, .int 0, .int 0]))] H := hP
  have hD : va_D A [((p0 57), .inl (cZ, 5, .inl (upd (fun _ => 0) 0 1))), ((p0 55), .inl (cI, 5, .inl (fun _ => 0))), ((p0 56), .inl (cI, 20, .inl (fun k => if 0 ≤ k ∧ k < 4 then 20 else 0))), ((p0 54), .inr (3, [.ref (p0 55), .ref (p0 56), .ref (p0 57), .ref (p0 58), .ref (p0 59), .ref (p0 1), .int 0])), ((p0 1), .inr (5, [.ref (p0 2), .ref (p0 3), .ref (p0 4), .ref (p0 5), .ref (p0 6), .ref (p0 7), .ref (p0 8), .ref (p0 9), .ref (p0 10), .ref (p0 11), .ref (p0 12), .ref (p0 13), .int 0, .int 0, .int 0, .int 0, .int 0, .int 100, .int 0, .int 0]))] := hD
  refine k_iast (g := (upd (fun _ => 0) 0 0)) (ws' := [((p0 57), .inl (cZ, 5, .inl (upd (fun _ => 0) 0 1))), ((p0 55), .inl (cI, 5, .inl (upd (fun _ => 0) 0 0))), ((p0 56), .inl (cI, 20, .inl (fun k => if 0 ≤ k ∧ k < 4 then 20 else 0))), ((p0 54), .inr (3, [.ref (p0 55), .ref (p0 56), .ref (p0 57), .ref (p0 58), .ref (p0 59), .ref (p0 1), .int 0])), ((p0 1), .inr (5, [.ref (p0 2), .ref (p0 3), .ref (p0 4), .ref (p0 5), .ref (p0 6), .ref (p0 7), .ref (p0 8), .ref (p0 9), .ref (p0 10), .ref (p0 11), .ref (p0 12), .ref (p0 13), .int 0, .int 0, .int 0, .int 0, .int 0, .int 100, .int 0, .int 0]))]) hx hb hK hP hD hS 1 0 0 rfl rfl rfl (Nat.le_of_ble_eq_true rfl) (Nat.le_of_ble_eq_true rfl) rfl rfl dX3_play_79 (fun H locs hP hD hS => ?_)
  refine lv_aload_n hx hb dX3_play_80 rfl (lv_at hl 0 rfl) ?_
  refine k_get (D := (dC, dI)) (ci := 3) (v := .ref (p0 1)) (C := RX3) (T := TX3) (N := 7) hx hb hts hinX3 hown hK hP 3 rfl rfl 5 (by decide) w_1 rfl rfl dX3_play_81 ?_
  refine k_get (D := (dC, dI)) (ci := 5) (v := .int 0) (C := RX5) (T := TX5) (N := 20) hx hb hts hinX5 hown hK hP 4 rfl rfl 16 (by decide) w_5 rfl rfl dX3_play_84 ?_
  refine lv_istore_n (lv' := [(3, .int 0), (0, .ref (p0 54)), (1, .ref (p0 1)), (2, .int 0)]) hx hb dX3_play_87 rfl hl (by decide) rfl (fun ls hl => ?_)
  refine lv_aload_n hx hb dX3_play_88 rfl (lv_at hl 1 rfl) ?_
  refine k_get (D := (dC, dI)) (ci := 3) (v := .ref (p0 1)) (C := RX3) (T := TX3) (N := 7) hx hb hts hinX3 hown hK hP 3 rfl rfl 5 (by decide) w_1 rfl rfl dX3_play_89 ?_
  refine k_get (D := (dC, dI)) (ci := 5) (v := .int 0) (C := RX5) (T := TX5) (N := 20) hx hb hts hinX5 hown hK hP 4 rfl rfl 16 (by decide) w_5 rfl rfl dX3_play_92 ?_
  refine lv_istore (lv' := [(4, .int 0), (3, .int 0), (0, .ref (p0 54)), (1, .ref (p0 1)), (2, .int 0)]) hx hb dX3_play_95 hl (by decide) rfl (fun ls hl => ?_)
  refine lv_iconst (v := 0) hx hb dX3_play_97 (by decide +kernel) ?_
  refine lv_istore (lv' := [(5, .int 0), (4, .int 0), (3, .int 0), (0, .ref (p0 54)), (1, .ref (p0 1)), (2, .int 0)]) hx hb dX3_play_98 hl (by decide) rfl (fun ls hl => ?_)
  refine lv_iconst (v := 0) hx hb dX3_play_100 (by decide +kernel) ?_
  refine lv_istore (lv' := [(6, .int 0), (5, .int 0), (4, .int 0), (3, .int 0), (0, .ref (p0 54)), (1, .ref (p0 1)), (2, .int 0)]) hx hb dX3_play_101 hl (by decide) rfl (fun ls hl => ?_)
  refine lv_iconst (v := 0) hx hb dX3_play_103 (by decide +kernel) ?_
  refine lv_istore (lv' := [(7, .int 0), (6, .int 0), (5, .int 0), (4, .int 0), (3, .int 0), (0, .ref (p0 54)), (1, .ref (p0 1)), (2, .int 0)]) hx hb dX3_play_104 hl (by decide) rfl (fun ls hl => ?_)
  refine lv_iload hx hb dX3_play_106 (lv_at hl 0 rfl) ?_
  refine lv_iload_n hx hb dX3_play_108 rfl (lv_at hl 7 rfl) ?_
  refine lv_icmp_ge (tgt := 211) hx hb dX3_play_109 (by decide) (fun _ => ?_) (fun q9 => absurd q9 (by decide +kernel))
  exact k_rv B hP hD hS dX3_play_211 () [3, 0, 2, 4, 1] rfl rfl (Nat.le_of_ble_eq_true rfl) (Nat.le_of_ble_eq_true rfl) trivial
set_option maxHeartbeats 4000000 in
set_option maxRecDepth 100000 in
theorem c_J7_rangeCheck_23922_v2 (l : Launch) (dC : Nat → ClassId) (dI : Nat → Nat → Nat) (cI cJ cZ cM : ClassId)    : k_Mv l yJ7_rangeCheck_23922 wsJ7_rangeCheck_23922 ({ frames := 1, cells := 0, slots := 0, locals := 40 }) (dC, dI) vwCl (tyy cI cJ cZ cM) [] [.int 20, .int 4, .int 8] 0 0 (fun (u9 : Unit) => []) (fun (u9 : Unit) => True) := by
  refine fun sz => k_enter (cc := cJ7_rangeCheck_23922) (maxL := 3) (ret := none) (Qc := fun A => va_Qv (fun (u9 : Unit) => True) (fun u => k_B (dC, dI) vwCl (tyy cI cJ cZ cM) A ((fun (u9 : Unit) => []) u)) A) sz (by decide +kernel) rfl (Nat.le_of_ble_eq_true rfl) (fun p e s m args below meth c A ls H locs B hP hD hS hl => ?_)
  obtain ⟨hx, hb, hml, hown, hts, hr, hlk, hnm, hK, hA, hN, hC⟩ := id B
  have hown : s.vm.findClass RJ7 = some m.cls := hown
  have hl : lv_has ls 3 [(0, .int 20), (1, .int 4), (2, .int 8)] := hl
  refine lv_iload_n hx hb dJ7_rangeCheck_23922_0 rfl (lv_at hl 1 rfl) ?_
  refine lv_iload_n hx hb dJ7_rangeCheck_23922_1 rfl (lv_at hl 2 rfl) ?_
  refine lv_icmp_le (tgt := 46) hx hb dJ7_rangeCheck_23922_2 (by decide) (fun _ => ?_) (fun q9 => absurd q9 (by decide +kernel))
  refine lv_iload_n hx hb dJ7_rangeCheck_23922_46 rfl (lv_at hl 1 rfl) ?_
  refine lv_if_ge (tgt := 59) hx hb dJ7_rangeCheck_23922_47 (by decide) (fun _ => ?_) (fun q9 => absurd q9 (by decide +kernel))
  refine lv_iload_n hx hb dJ7_rangeCheck_23922_59 rfl (lv_at hl 2 rfl) ?_
  refine lv_iload_n hx hb dJ7_rangeCheck_23922_60 rfl (lv_at hl 0 rfl) ?_
  refine lv_icmp_le (tgt := 73) hx hb dJ7_rangeCheck_23922_61 (by decide) (fun _ => ?_) (fun q9 => absurd q9 (by decide +kernel))
  exact k_rv B hP hD hS dJ7_rangeCheck_23922_73 () [] rfl rfl (Nat.le_of_ble_eq_true rfl) (Nat.le_of_ble_eq_true rfl) trivial
set_option maxHeartbeats 4000000 in
set_option maxRecDepth 100000 in
theorem c_J7_fill_fda19_v2 (l : Launch) (dC : Nat → ClassId) (dI : Nat → Nat → Nat) (cI cJ cZ cM : ClassId) (p0 : Nat → Nat)   : k_Mv l yJ7_fill_fda19 wsJ7_fill_fda19 ({ frames := 2, cells := 0, slots := 0, locals := 62 }) (dC, dI) vwCl (tyy cI cJ cZ cM) [((p0 56), .inl (cI, 20, .inl (fun _ => 0)))] [.ref (p0 56), .int 4, .int 8, .int 20] 0 0 (fun (u9 : Unit) => [((p0 56), .inl (cI, 20, .inl (fun k => if 4 ≤ k ∧ k < 8 then 20 else 0)))]) (fun (u9 : Unit) => True) := by
  refine fun sz => k_enter (cc := cJ7_fill_fda19) (maxL := 5) (ret := none) (Qc := fun A => va_Qv (fun (u9 : Unit) => True) (fun u => k_B (dC, dI) vwCl (tyy cI cJ cZ cM) A ((fun (u9 : Unit) => [((p0 56), .inl (cI, 20, .inl (fun k => if 4 ≤ k ∧ k < 8 then 20 else 0)))]) u)) A) sz (by decide +kernel) rfl (Nat.le_of_ble_eq_true rfl) (fun p e s m args below meth c A ls H locs B hP hD hS hl => ?_)
  obtain ⟨hx, hb, hml, hown, hts, hr, hlk, hnm, hK, hA, hN, hC⟩ := id B
  have hown : s.vm.findClass RJ7 = some m.cls := hown
  have hl : lv_has ls 5 [(0, .ref (p0 56)), (1, .int 4), (2, .int 8), (3, .int 20)] := hl
  refine lv_aload_n hx hb dJ7_fill_fda19_0 rfl (lv_at hl 0 rfl) ?_
  refine va_alen (v := 20) hx hb hK hP 0 0 rfl rfl rfl dJ7_fill_fda19_1 ?_
  refine lv_iload_n hx hb dJ7_fill_fda19_2 rfl (lv_at hl 1 rfl) ?_
  refine lv_iload_n hx hb dJ7_fill_fda19_3 rfl (lv_at hl 2 rfl) ?_
  refine k_cv (wc := []) (wr := [((p0 56), .inl (cI, 20, .inl (fun _ => 0)))]) (fun hPc hDc hFc => va_runS (As := [.int 20, .int 4, .int 8]) (rest := []) ⟨hx, hb, hml, hown, hts⟩ (c_J7_rangeCheck_23922_v2 l dC dI cI cJ cZ cM H.size) (va_cwS 3 hts gJ7_fill_fda19_J7_rangeCheck_23922 rfl rfl rfl (by decide +kernel) ⟨(Nat.le_of_ble_eq_true rfl), (Nat.le_of_ble_eq_true rfl)⟩) (k_pS hPc hDc hK hN hC hS hFc) rfl rfl hl.1 rfl (lv_room (Nat.le_of_ble_eq_true rfl)) dJ7_fill_fda19_4 ⟨(Nat.le_of_ble_eq_true rfl), (Nat.le_of_ble_eq_true rfl)⟩) hP hD hS hA [] [0] rfl rfl rfl rfl (by decide) (fun _ => rfl) 0 0 rfl rfl (fun u_2 H locs hw hP hD hS => ?_)
  have hP : va_P (dC, dI) vwCl [((p0 56), .inl (cI, 20, .inl (fun _ => 0)))] H := hP
  have hD : va_D A [((p0 56), .inl (cI, 20, .inl (fun _ => 0)))] := hD
  refine lv_iload_n hx hb dJ7_fill_fda19_7 rfl (lv_at hl 1 rfl) ?_
  refine lv_istore (lv' := [(4, .int 4), (0, .ref (p0 56)), (1, .int 4), (2, .int 8), (3, .int 20)]) hx hb dJ7_fill_fda19_8 hl (by decide) rfl (fun ls hl => ?_)
  have loop_k_3 : ∀ (n_k_3 : Nat) (kk_3 : Nat) (fk_3 : Nat → Int32) (h1k_3 : 4 ≤ kk_3) (h2k_3 : kk_3 ≤ 8) (h3k_3 : ∀ j, j < 20 → fk_3 j = if 4 ≤ j ∧ j < kk_3 then 20 else 0) (hn_k_3 : 8 - kk_3 < n_k_3) (H : Heap) (locs : List Loc) (ls : Array Slot), va_P (dC, dI) vwCl [((p0 56), .inl (cI, 20, .inl fk_3))] H → va_D A [((p0 56), .inl (cI, 20, .inl fk_3))] → va_S A s.heap H locs → lv_has ls 5 [(4, .int (nI kk_3)), (0, .ref (p0 56)), (1, .int 4), (2, .int 8), (3, .int 20)] → W p l e ({ frames := 2, cells := 0, slots := 0, locals := 62 }) s m args below meth c H locs 0 0 (MQ below (va_Qv (fun (u9 : Unit) => True) (fun u => k_B (dC, dI) vwCl (tyy cI cJ cZ cM) A ((fun (u9 : Unit) => [((p0 56), .inl (cI, 20, .inl (fun k => if 4 ≤ k ∧ k < 8 then 20 else 0)))]) u)) A) args s 0 0 A) (F0 m 10 ls []) := by
    intro n_k_3
    induction n_k_3 with
    | zero => intro kk_3 fk_3 h1k_3 h2k_3 h3k_3 hn_k_3; exact absurd hn_k_3 (Nat.not_lt_zero _)
    | succ n_k_3 ih_k_3 =>
      intro kk_3 fk_3 h1k_3 h2k_3 h3k_3 hn_k_3 H locs ls hP hD hS hl
      refine lv_iload hx hb dJ7_fill_fda19_10 (lv_at hl 0 rfl) ?_
      refine lv_iload_n hx hb dJ7_fill_fda19_12 rfl (lv_at hl 3 rfl) ?_
      refine lv_icmp_ge (tgt := 27) hx hb dJ7_fill_fda19_13 (by decide) (fun c_4 => ?_) (fun c_4 => ?_)
      · have c_4 : 8 ≤ ((kk_3 : Nat) : Int) := k_leT (by decide +kernel) (nI_toInt (by omega)) c_4
        obtain rfl : kk_3 = 8 := by omega
        have hl : lv_has ls 5 [(4, .int 8), (0, .ref (p0 56)), (1, .int 4), (2, .int 8), (3, .int 20)] := hl
        have hP : va_P (dC, dI) vwCl [((p0 56), .inl (cI, 20, .inl fk_3))] H := hP
        have hD : va_D A [((p0 56), .inl (cI, 20, .inl fk_3))] := hD
        have hP : va_P (dC, dI) vwCl [((p0 56), .inl (cI, 20, .inl (fun k => if 4 ≤ k ∧ k < 8 then 20 else 0)))] H := k_contI (g := (fun k => if 4 ≤ k ∧ k < 8 then 20 else 0)) hP 0 rfl h3k_3 rfl
        have hD : va_D A [((p0 56), .inl (cI, 20, .inl (fun k => if 4 ≤ k ∧ k < 8 then 20 else 0)))] := k_contD hD 0 rfl rfl
        exact k_rv B hP hD hS dJ7_fill_fda19_27 () [0] rfl rfl (Nat.le_of_ble_eq_true rfl) (Nat.le_of_ble_eq_true rfl) trivial
      · have c_4 : ((kk_3 : Nat) : Int) < 8 := k_leF (by decide +kernel) (nI_toInt (by omega)) c_4
        refine lv_aload_n hx hb dJ7_fill_fda19_16 rfl (lv_at hl 1 rfl) ?_
        refine lv_iload hx hb dJ7_fill_fda19_17 (lv_at hl 0 rfl) ?_
        refine lv_iload_n hx hb dJ7_fill_fda19_19 rfl (lv_at hl 4 rfl) ?_
        refine k_iast (g := (upd fk_3 kk_3 20)) (ws' := [((p0 56), .inl (cI, 20, .inl (upd fk_3 kk_3 20)))]) hx hb hK hP hD hS 0 0 kk_3 rfl rfl rfl (by omega) (Nat.le_of_ble_eq_true rfl) rfl rfl dJ7_fill_fda19_20 (fun H locs hP hD hS => ?_)
        refine lv_iinc (v := (nI (kk_3 + 1))) (lv' := [(4, .int (nI (kk_3 + 1))), (0, .ref (p0 56)), (1, .int 4), (2, .int 8), (3, .int 20)]) hx hb dJ7_fill_fda19_21 hl (k := 0) rfl (nI_1 _) (by decide) rfl (fun ls hl => ?_)
        refine lv_goto (tgt := 10) hx hb dJ7_fill_fda19_24 (by decide) ?_
        exact ih_k_3 (kk_3 + 1) (upd fk_3 kk_3 20) (by omega) (by omega) (k_fillR h3k_3 (by omega)) (by omega) H locs ls (hP.sub [0] rfl) (hD.sub [0] (by decide) rfl) hS (lv_sub hl [0, 1, 2, 3, 4] rfl)
  exact loop_k_3 _ 4 (fun _ => 0) (Nat.le_refl _) (Nat.le_of_ble_eq_true rfl) k_fillR0 (Nat.lt_succ_self _) H locs ls hP hD hS hl
set_option maxHeartbeats 4000000 in
set_option maxRecDepth 100000 in
theorem c_X0_put_v7 (l : Launch) (dC : Nat → ClassId) (dI : Nat → Nat → Nat) (cI cJ cZ cM : ClassId) (p0 : Nat → Nat)   : k_Mv l yX0_put wsX0_put ({ frames := 1, cells := 0, slots := 0, locals := 40 }) (dC, dI) vwCl (tyy cI cJ cZ cM) [((p0 59), .inr (0, [.int 0, .int 0, .int 0, .int 0]))] [.ref (p0 59), .int 0, .int 0, .int 0, .int 0] 0 0 (fun (u9 : Unit) => [((p0 59), .inr (0, [.int 0, .int 0, .int 0, .int 0]))]) (fun (u9 : Unit) => True) := by
  refine fun sz => k_enter (cc := cX0_put) (maxL := 5) (ret := none) (Qc := fun A => va_Qv (fun (u9 : Unit) => True) (fun u => k_B (dC, dI) vwCl (tyy cI cJ cZ cM) A ((fun (u9 : Unit) => [((p0 59), .inr (0, [.int 0, .int 0, .int 0, .int 0]))]) u)) A) sz (by decide +kernel) rfl (Nat.le_of_ble_eq_true rfl) (fun p e s m args below meth c A ls H locs B hP hD hS hl => ?_)
  obtain ⟨hx, hb, hml, hown, hts, hr, hlk, hnm, hK, hA, hN, hC⟩ := id B
  have hown : s.vm.findClass RX0 = some m.cls := hown
  have hl : lv_has ls 5 [(0, .ref (p0 59)), (1, .int 0), (2, .int 0), (3, .int 0), (4, .int 0)] := hl
  have w_0 : (Cond.fieldLink RX0 7 "WishSea$Moment" "things" "I").before args s = true := hts _ (List.mem_of_getElem? (i := 1) rfl)
  have w_1 : (Cond.fieldLink RX0 13 "WishSea$Moment" "sea" "I").before args s = true := hts _ (List.mem_of_getElem? (i := 2) rfl)
  have w_2 : (Cond.fieldLink RX0 16 "WishSea$Moment" "said" "I").before args s = true := hts _ (List.mem_of_getElem? (i := 3) rfl)
  have w_3 : (Cond.fieldLink RX0 19 "WishSea$Moment" "day" "I").before args s = true := hts _ (List.mem_of_getElem? (i := 4) rfl)
  have hinX0 : ∀ w ∈ u_ws RX0 TX0 4, w ∈ wsX0_put := fun _ h => List.mem_cons_of_mem _ (List.mem_append_right _ h)
  refine lv_aload_n hx hb dX0_put_0 rfl (lv_at hl 0 rfl) ?_
  refine lv_iload_n hx hb dX0_put_1 rfl (lv_at hl 1 rfl) ?_
  refine k_put (D := (dC, dI)) (ci := 0) (v := .int 0) (C := RX0) (T := TX0) (N := 4) (ws' := [((p0 59), .inr (0, [.int 0, .int 0, .int 0, .int 0]))]) hx hb hts hinX0 tyX0 tyX0_ok nmX0 hown hK hP hD hS 0 rfl rfl 0 (by decide) w_0 rfl rfl rfl rfl (Nat.le_of_ble_eq_true rfl) rfl dX0_put_2 (fun H locs hP hD hS => ?_)
  refine lv_aload_n hx hb dX0_put_5 rfl (lv_at hl 0 rfl) ?_
  refine lv_iload_n hx hb dX0_put_6 rfl (lv_at hl 2 rfl) ?_
  refine k_put (D := (dC, dI)) (ci := 0) (v := .int 0) (C := RX0) (T := TX0) (N := 4) (ws' := [((p0 59), .inr (0, [.int 0, .int 0, .int 0, .int 0]))]) hx hb hts hinX0 tyX0 tyX0_ok nmX0 hown hK hP hD hS 0 rfl rfl 1 (by decide) w_1 rfl rfl rfl rfl (Nat.le_of_ble_eq_true rfl) rfl dX0_put_7 (fun H locs hP hD hS => ?_)
  refine lv_aload_n hx hb dX0_put_10 rfl (lv_at hl 0 rfl) ?_
  refine lv_iload_n hx hb dX0_put_11 rfl (lv_at hl 3 rfl) ?_
  refine k_put (D := (dC, dI)) (ci := 0) (v := .int 0) (C := RX0) (T := TX0) (N := 4) (ws' := [((p0 59), .inr (0, [.int 0, .int 0, .int 0, .int 0]))]) hx hb hts hinX0 tyX0 tyX0_ok nmX0 hown hK hP hD hS 0 rfl rfl 2 (by decide) w_2 rfl rfl rfl rfl (Nat.le_of_ble_eq_true rfl) rfl dX0_put_12 (fun H locs hP hD hS => ?_)
  refine lv_aload_n hx hb dX0_put_15 rfl (lv_at hl 0 rfl) ?_
  refine lv_iload hx hb dX0_put_16 (lv_at hl 4 rfl) ?_
  refine k_put (D := (dC, dI)) (ci := 0) (v := .int 0) (C := RX0) (T := TX0) (N := 4) (ws' := [((p0 59), .inr (0, [.int 0, .int 0, .int 0, .int 0]))]) hx hb hts hinX0 tyX0 tyX0_ok nmX0 hown hK hP hD hS 0 rfl rfl 3 (by decide) w_3 rfl rfl rfl rfl (Nat.le_of_ble_eq_true rfl) rfl dX0_put_18 (fun H locs hP hD hS => ?_)
  exact k_rv B hP hD hS dX0_put_21 () [0] rfl rfl (Nat.le_of_ble_eq_true rfl) (Nat.le_of_ble_eq_true rfl) trivial
set_option maxHeartbeats 4000000 in
set_option maxRecDepth 100000 in
theorem c_X5_isContent_v2 (l : Launch) (dC : Nat → ClassId) (dI : Nat → Nat → Nat) (cI cJ cZ cM : ClassId) (p0 : Nat → Nat)   : k_Mi l yX5_isContent wsX5_isContent ({ frames := 2, cells := 0, slots := 0, locals := 61 }) (dC, dI) vwCl (tyy cI cJ cZ cM) [((p0 1), .inr (5, [.ref (p0 2), .ref (p0 3), .ref (p0 4), .ref (p0 5), .ref (p0 6), .ref (p0 7), .ref (p0 8), .ref (p0 9), .ref (p0 10), .ref (p0 11), .ref (p0 12), .ref (p0 13), .int 0, .int 0, .int 0, .int 0, .int 0, .int 100, .int 0, .int 0])), ((p0 12), .inl (cI, 3, .inl (fun _ => 0))), ((p0 11), .inl (cI, 3, .inl (fun _ => 0)))] [.ref (p0 1), .ref (p0 59)] 0 0 (fun (u9 : Unit) => [((p0 1), .inr (5, [.ref (p0 2), .ref (p0 3), .ref (p0 4), .ref (p0 5), .ref (p0 6), .ref (p0 7), .ref (p0 8), .ref (p0 9), .ref (p0 10), .ref (p0 11), .ref (p0 12), .ref (p0 13), .int 0, .int 0, .int 0, .int 0, .int 0, .int 100, .int 0, .int 0])), ((p0 12), .inl (cI, 3, .inl (fun _ => 0))), ((p0 11), .inl (cI, 3, .inl (fun _ => 0)))]) (fun (r9 : Int32) (u9 : Unit) => r9 = 0) := by
  refine fun sz => k_enter (cc := cX5_isContent) (maxL := 2) (ret := some (.boolean)) (Qc := fun A => va_Qi (fun (r9 : Int32) (u9 : Unit) => r9 = 0) (fun u => k_B (dC, dI) vwCl (tyy cI cJ cZ cM) A ((fun (u9 : Unit) => [((p0 1), .inr (5, [.ref (p0 2), .ref (p0 3), .ref (p0 4), .ref (p0 5), .ref (p0 6), .ref (p0 7), .ref (p0 8), .ref (p0 9), .ref (p0 10), .ref (p0 11), .ref (p0 12), .ref (p0 13), .int 0, .int 0, .int 0, .int 0, .int 0, .int 100, .int 0, .int 0])), ((p0 12), .inl (cI, 3, .inl (fun _ => 0))), ((p0 11), .inl (cI, 3, .inl (fun _ => 0)))]) u)) A) sz (by decide +kernel) rfl (Nat.le_of_ble_eq_true rfl) (fun p e s m args below meth c A ls H locs B hP hD hS hl => ?_)
  obtain ⟨hx, hb, hml, hown, hts, hr, hlk, hnm, hK, hA, hN, hC⟩ := id B
  have hown : s.vm.findClass RX5 = some m.cls := hown
  have hl : lv_has ls 2 [(0, .ref (p0 1)), (1, .ref (p0 59))] := hl
  refine lv_aload_n hx hb dX5_isContent_0 rfl (lv_at hl 0 rfl) ?_
  refine lv_iconst (v := 2) hx hb dX5_isContent_1 (by decide +kernel) ?_
  refine k_ci (wc := [((p0 1), .inr (5, [.ref (p0 2), .ref (p0 3), .ref (p0 4), .ref (p0 5), .ref (p0 6), .ref (p0 7), .ref (p0 8), .ref (p0 9), .ref (p0 10), .ref (p0 11), .ref (p0 12), .ref (p0 13), .int 0, .int 0, .int 0, .int 0, .int 0, .int 100, .int 0, .int 0])), ((p0 12), .inl (cI, 3, .inl (fun _ => 0))), ((p0 11), .inl (cI, 3, .inl (fun _ => 0)))]) (wr := []) (fun hPc hDc hFc => va_runV (As := [.int 2]) (rest := []) ⟨hx, hb, hml, hown, hts⟩ (c_X5_tells_v1 l dC dI cI cJ cZ cM p0 H.size) (cwV 1 hts gX5_isContent_X5_tells rfl rfl rfl (by decide +kernel) ⟨(Nat.le_of_ble_eq_true rfl), (Nat.le_of_ble_eq_true rfl)⟩) (k_pV hPc hDc hK hN hC hS hFc hP (q0 := 0) (ci := 5) rfl rfl) rfl rfl hl.1 rfl (lv_room (Nat.le_of_ble_eq_true rfl)) dX5_isContent_2 ⟨(Nat.le_of_ble_eq_true rfl), (Nat.le_of_ble_eq_true rfl)⟩) hP hD hS hA [0, 1, 2] [] rfl rfl rfl rfl (by decide) (fun _ => rfl) 0 0 rfl rfl (fun r_1 u_2 H locs hw hP hD hS => ?_)
  obtain rfl : r_1 = 0 := hw
  have hP : va_P (dC, dI) vwCl [((p0 1), .inr (5, [.ref (p0 2), .ref (p0 3), .ref (p0 4), .ref (p0 5), .ref (p0 6), .ref (p0 7), .ref (p0 8), .ref (p0 9), .ref (p0 10), .ref (p0 11), .ref (p0 12), .ref (p0 13), .int 0, .int 0, .int 0, .int 0, .int 0, .int 100, .int 0, .int 0])), ((p0 12), .inl (cI, 3, .inl (fun _ => 0))), ((p0 11), .inl (cI, 3, .inl (fun _ => 0)))] H := hP
  have hD : va_D A [((p0 1), .inr (5, [.ref (p0 2), .ref (p0 3), .ref (p0 4), .ref (p0 5), .ref (p0 6), .ref (p0 7), .ref (p0 8), .ref (p0 9), .ref (p0 10), .ref (p0 11), .ref (p0 12), .ref (p0 13), .int 0, .int 0, .int 0, .int 0, .int 0, .int 100, .int 0, .int 0])), ((p0 12), .inl (cI, 3, .inl (fun _ => 0))), ((p0 11), .inl (cI, 3, .inl (fun _ => 0)))] := hD
  refine lv_if_eq (tgt := 22) hx hb dX5_isContent_5 (by decide) (fun _ => ?_) (fun q9 => absurd q9 (by decide +kernel))
  refine lv_iconst (v := 0) hx hb dX5_isContent_22 (by decide +kernel) ?_
  exact k_ri B hP hD hS dX5_isContent_23 () [0, 1, 2] rfl rfl rfl (Nat.le_of_ble_eq_true rfl) (Nat.le_of_ble_eq_true rfl) rfl
set_option maxHeartbeats 4000000 in
set_option maxRecDepth 100000 in
theorem c_X5_roomOf_v2 (l : Launch) (dC : Nat → ClassId) (dI : Nat → Nat → Nat) (cI cJ cZ cM : ClassId) (p0 : Nat → Nat)   : k_Mi l yX5_roomOf wsX5_roomOf ({ frames := 2, cells := 0, slots := 0, locals := 61 }) (dC, dI) vwCl (tyy cI cJ cZ cM) [((p0 1), .inr (5, [.ref (p0 2), .ref (p0 3), .ref (p0 4), .ref (p0 5), .ref (p0 6), .ref (p0 7), .ref (p0 8), .ref (p0 9), .ref (p0 10), .ref (p0 11), .ref (p0 12), .ref (p0 13), .int 0, .int 0, .int 0, .int 0, .int 0, .int 100, .int 0, .int 0])), ((p0 12), .inl (cI, 3, .inl (fun _ => 0))), ((p0 11), .inl (cI, 3, .inl (fun _ => 0)))] [.ref (p0 1), .ref (p0 59)] 0 0 (fun (u9 : Unit) => [((p0 1), .inr (5, [.ref (p0 2), .ref (p0 3), .ref (p0 4), .ref (p0 5), .ref (p0 6), .ref (p0 7), .ref (p0 8), .ref (p0 9), .ref (p0 10), .ref (p0 11), .ref (p0 12), .ref (p0 13), .int 0, .int 0, .int 0, .int 0, .int 0, .int 100, .int 0, .int 0])), ((p0 12), .inl (cI, 3, .inl (fun _ => 0))), ((p0 11), .inl (cI, 3, .inl (fun _ => 0)))]) (fun (r9 : Int32) (u9 : Unit) => r9 = 99) := by
  refine fun sz => k_enter (cc := cX5_roomOf) (maxL := 2) (ret := some (.int)) (Qc := fun A => va_Qi (fun (r9 : Int32) (u9 : Unit) => r9 = 99) (fun u => k_B (dC, dI) vwCl (tyy cI cJ cZ cM) A ((fun (u9 : Unit) => [((p0 1), .inr (5, [.ref (p0 2), .ref (p0 3), .ref (p0 4), .ref (p0 5), .ref (p0 6), .ref (p0 7), .ref (p0 8), .ref (p0 9), .ref (p0 10), .ref (p0 11), .ref (p0 12), .ref (p0 13), .int 0, .int 0, .int 0, .int 0, .int 0, .int 100, .int 0, .int 0])), ((p0 12), .inl (cI, 3, .inl (fun _ => 0))), ((p0 11), .inl (cI, 3, .inl (fun _ => 0)))]) u)) A) sz (by decide +kernel) rfl (Nat.le_of_ble_eq_true rfl) (fun p e s m args below meth c A ls H locs B hP hD hS hl => ?_)
  obtain ⟨hx, hb, hml, hown, hts, hr, hlk, hnm, hK, hA, hN, hC⟩ := id B
  have hown : s.vm.findClass RX5 = some m.cls := hown
  have hl : lv_has ls 2 [(0, .ref (p0 1)), (1, .ref (p0 59))] := hl
  refine lv_aload_n hx hb dX5_roomOf_0 rfl (lv_at hl 0 rfl) ?_
  refine lv_iconst (v := 1) hx hb dX5_roomOf_1 (by decide +kernel) ?_
  refine k_ci (wc := [((p0 1), .inr (5, [.ref (p0 2), .ref (p0 3), .ref (p0 4), .ref (p0 5), .ref (p0 6), .ref (p0 7), .ref (p0 8), .ref (p0 9), .ref (p0 10), .ref (p0 11), .ref (p0 12), .ref (p0 13), .int 0, .int 0, .int 0, .int 0, .int 0, .int 100, .int 0, .int 0])), ((p0 12), .inl (cI, 3, .inl (fun _ => 0))), ((p0 11), .inl (cI, 3, .inl (fun _ => 0)))]) (wr := []) (fun hPc hDc hFc => va_runV (As := [.int 1]) (rest := []) ⟨hx, hb, hml, hown, hts⟩ (c_X5_tells_v0 l dC dI cI cJ cZ cM p0 H.size) (cwV 1 hts gX5_roomOf_X5_tells rfl rfl rfl (by decide +kernel) ⟨(Nat.le_of_ble_eq_true rfl), (Nat.le_of_ble_eq_true rfl)⟩) (k_pV hPc hDc hK hN hC hS hFc hP (q0 := 0) (ci := 5) rfl rfl) rfl rfl hl.1 rfl (lv_room (Nat.le_of_ble_eq_true rfl)) dX5_roomOf_2 ⟨(Nat.le_of_ble_eq_true rfl), (Nat.le_of_ble_eq_true rfl)⟩) hP hD hS hA [0, 1, 2] [] rfl rfl rfl rfl (by decide) (fun _ => rfl) 0 0 rfl rfl (fun r_1 u_2 H locs hw hP hD hS => ?_)
  obtain rfl : r_1 = 0 := hw
  have hP : va_P (dC, dI) vwCl [((p0 1), .inr (5, [.ref (p0 2), .ref (p0 3), .ref (p0 4), .ref (p0 5), .ref (p0 6), .ref (p0 7), .ref (p0 8), .ref (p0 9), .ref (p0 10), .ref (p0 11), .ref (p0 12), .ref (p0 13), .int 0, .int 0, .int 0, .int 0, .int 0, .int 100, .int 0, .int 0])), ((p0 12), .inl (cI, 3, .inl (fun _ => 0))), ((p0 11), .inl (cI, 3, .inl (fun _ => 0)))] H := hP
  have hD : va_D A [((p0 1), .inr (5, [.ref (p0 2), .ref (p0 3), .ref (p0 4), .ref (p0 5), .ref (p0 6), .ref (p0 7), .ref (p0 8), .ref (p0 9), .ref (p0 10), .ref (p0 11), .ref (p0 12), .ref (p0 13), .int 0, .int 0, .int 0, .int 0, .int 0, .int 100, .int 0, .int 0])), ((p0 12), .inl (cI, 3, .inl (fun _ => 0))), ((p0 11), .inl (cI, 3, .inl (fun _ => 0)))] := hD
  refine lv_if_ne (tgt := 11) hx hb dX5_roomOf_5 (by decide) (fun q9 => absurd q9 (by decide +kernel)) (fun _ => ?_)
  refine lv_bipush (v := 99) hx hb dX5_roomOf_8 (by decide +kernel) ?_
  exact k_ri B hP hD hS dX5_roomOf_10 () [0, 1, 2] rfl rfl rfl (Nat.le_of_ble_eq_true rfl) (Nat.le_of_ble_eq_true rfl) rfl
set_option maxHeartbeats 4000000 in
set_option maxRecDepth 100000 in
theorem c_X5_mayBeSaid_v2 (l : Launch) (dC : Nat → ClassId) (dI : Nat → Nat → Nat) (cI cJ cZ cM : ClassId) (p0 : Nat → Nat)   : k_Mi l yX5_mayBeSaid wsX5_mayBeSaid ({ frames := 3, cells := 0, slots := 0, locals := 82 }) (dC, dI) vwCl (tyy cI cJ cZ cM) [((p0 1), .inr (5, [.ref (p0 2), .ref (p0 3), .ref (p0 4), .ref (p0 5), .ref (p0 6), .ref (p0 7), .ref (p0 8), .ref (p0 9), .ref (p0 10), .ref (p0 11), .ref (p0 12), .ref (p0 13), .int 0, .int 0, .int 0, .int 0, .int 0, .int 100, .int 0, .int 0])), ((p0 12), .inl (cI, 3, .inl (fun _ => 0))), ((p0 11), .inl (cI, 3, .inl (fun _ => 0)))] [.ref (p0 1), .ref (p0 59)] 0 0 (fun (u9 : Unit) => [((p0 1), .inr (5, [.ref (p0 2), .ref (p0 3), .ref (p0 4), .ref (p0 5), .ref (p0 6), .ref (p0 7), .ref (p0 8), .ref (p0 9), .ref (p0 10), .ref (p0 11), .ref (p0 12), .ref (p0 13), .int 0, .int 0, .int 0, .int 0, .int 0, .int 100, .int 0, .int 0])), ((p0 12), .inl (cI, 3, .inl (fun _ => 0))), ((p0 11), .inl (cI, 3, .inl (fun _ => 0)))]) (fun (r9 : Int32) (u9 : Unit) => r9 = 0) := by
  refine fun sz => k_enter (cc := cX5_mayBeSaid) (maxL := 5) (ret := some (.int)) (Qc := fun A => va_Qi (fun (r9 : Int32) (u9 : Unit) => r9 = 0) (fun u => k_B (dC, dI) vwCl (tyy cI cJ cZ cM) A ((fun (u9 : Unit) => [((p0 1), .inr (5, [.ref (p0 2), .ref (p0 3), .ref (p0 4), .ref (p0 5), .ref (p0 6), .ref (p0 7), .ref (p0 8), .ref (p0 9), .ref (p0 10), .ref (p0 11), .ref (p0 12), .ref (p0 13), .int 0, .int 0, .int 0, .int 0, .int 0, .int 100, .int 0, .int 0])), ((p0 12), .inl (cI, 3, .inl (fun _ => 0))), ((p0 11), .inl (cI, 3, .inl (fun _ => 0)))]) u)) A) sz (by decide +kernel) rfl (Nat.le_of_ble_eq_true rfl) (fun p e s m args below meth c A ls H locs B hP hD hS hl => ?_)
  obtain ⟨hx, hb, hml, hown, hts, hr, hlk, hnm, hK, hA, hN, hC⟩ := id B
  have hown : s.vm.findClass RX5 = some m.cls := hown
  have hl : lv_has ls 5 [(0, .ref (p0 1)), (1, .ref (p0 59))] := hl
  have w_0 : (Cond.fieldLink RX5 64 "WishSea$Shore" "wishes" "I").before args s = true := hts _ (List.mem_of_getElem? (i := 1) rfl)
  have hinX5 : ∀ w ∈ u_ws RX5 TX5 20, w ∈ wsX5_mayBeSaid := fun _ h => List.mem_cons_of_mem _ (List.mem_append_left _ (List.mem_append_right _ h))
  refine lv_aload_n hx hb dX5_mayBeSaid_0 rfl (lv_at hl 0 rfl) ?_
  refine lv_aload_n hx hb dX5_mayBeSaid_1 rfl (lv_at hl 1 rfl) ?_
  refine k_ci (wc := [((p0 1), .inr (5, [.ref (p0 2), .ref (p0 3), .ref (p0 4), .ref (p0 5), .ref (p0 6), .ref (p0 7), .ref (p0 8), .ref (p0 9), .ref (p0 10), .ref (p0 11), .ref (p0 12), .ref (p0 13), .int 0, .int 0, .int 0, .int 0, .int 0, .int 100, .int 0, .int 0])), ((p0 12), .inl (cI, 3, .inl (fun _ => 0))), ((p0 11), .inl (cI, 3, .inl (fun _ => 0)))]) (wr := []) (fun hPc hDc hFc => va_runV (As := [.ref (p0 59)]) (rest := []) ⟨hx, hb, hml, hown, hts⟩ (c_X5_isContent_v2 l dC dI cI cJ cZ cM p0 H.size) (cwV 1 hts gX5_mayBeSaid_X5_isContent rfl rfl rfl (by decide +kernel) ⟨(Nat.le_of_ble_eq_true rfl), (Nat.le_of_ble_eq_true rfl)⟩) (k_pV hPc hDc hK hN hC hS hFc hP (q0 := 0) (ci := 5) rfl rfl) rfl rfl hl.1 rfl (lv_room (Nat.le_of_ble_eq_true rfl)) dX5_mayBeSaid_2 ⟨(Nat.le_of_ble_eq_true rfl), (Nat.le_of_ble_eq_true rfl)⟩) hP hD hS hA [0, 1, 2] [] rfl rfl rfl rfl (by decide) (fun _ => rfl) 0 0 rfl rfl (fun r_1 u_2 H locs hw hP hD hS => ?_)
  obtain rfl : r_1 = 0 := hw
  have hP : va_P (dC, dI) vwCl [((p0 1), .inr (5, [.ref (p0 2), .ref (p0 3), .ref (p0 4), .ref (p0 5), .ref (p0 6), .ref (p0 7), .ref (p0 8), .ref (p0 9), .ref (p0 10), .ref (p0 11), .ref (p0 12), .ref (p0 13), .int 0, .int 0, .int 0, .int 0, .int 0, .int 100, .int 0, .int 0])), ((p0 12), .inl (cI, 3, .inl (fun _ => 0))), ((p0 11), .inl (cI, 3, .inl (fun _ => 0)))] H := hP
  have hD : va_D A [((p0 1), .inr (5, [.ref (p0 2), .ref (p0 3), .ref (p0 4), .ref (p0 5), .ref (p0 6), .ref (p0 7), .ref (p0 8), .ref (p0 9), .ref (p0 10), .ref (p0 11), .ref (p0 12), .ref (p0 13), .int 0, .int 0, .int 0, .int 0, .int 0, .int 100, .int 0, .int 0])), ((p0 12), .inl (cI, 3, .inl (fun _ => 0))), ((p0 11), .inl (cI, 3, .inl (fun _ => 0)))] := hD
  refine lv_if_eq (tgt := 10) hx hb dX5_mayBeSaid_5 (by decide) (fun _ => ?_) (fun q9 => absurd q9 (by decide +kernel))
  refine lv_aload_n hx hb dX5_mayBeSaid_10 rfl (lv_at hl 0 rfl) ?_
  refine lv_aload_n hx hb dX5_mayBeSaid_11 rfl (lv_at hl 1 rfl) ?_
  refine k_ci (wc := [((p0 1), .inr (5, [.ref (p0 2), .ref (p0 3), .ref (p0 4), .ref (p0 5), .ref (p0 6), .ref (p0 7), .ref (p0 8), .ref (p0 9), .ref (p0 10), .ref (p0 11), .ref (p0 12), .ref (p0 13), .int 0, .int 0, .int 0, .int 0, .int 0, .int 100, .int 0, .int 0])), ((p0 12), .inl (cI, 3, .inl (fun _ => 0))), ((p0 11), .inl (cI, 3, .inl (fun _ => 0)))]) (wr := []) (fun hPc hDc hFc => va_runV (As := [.ref (p0 59)]) (rest := []) ⟨hx, hb, hml, hown, hts⟩ (c_X5_roomOf_v2 l dC dI cI cJ cZ cM p0 H.size) (cwV 1 hts gX5_mayBeSaid_X5_roomOf rfl rfl rfl (by decide +kernel) ⟨(Nat.le_of_ble_eq_true rfl), (Nat.le_of_ble_eq_true rfl)⟩) (k_pV hPc hDc hK hN hC hS hFc hP (q0 := 0) (ci := 5) rfl rfl) rfl rfl hl.1 rfl (lv_room (Nat.le_of_ble_eq_true rfl)) dX5_mayBeSaid_12 ⟨(Nat.le_of_ble_eq_true rfl), (Nat.le_of_ble_eq_true rfl)⟩) hP hD hS hA [0, 1, 2] [] rfl rfl rfl rfl (by decide) (fun _ => rfl) 0 0 rfl rfl (fun r_3 u_4 H locs hw hP hD hS => ?_)
  obtain rfl : r_3 = 99 := hw
  have hP : va_P (dC, dI) vwCl [((p0 1), .inr (5, [.ref (p0 2), .ref (p0 3), .ref (p0 4), .ref (p0 5), .ref (p0 6), .ref (p0 7), .ref (p0 8), .ref (p0 9), .ref (p0 10), .ref (p0 11), .ref (p0 12), .ref (p0 13), .int 0, .int 0, .int 0, .int 0, .int 0, .int 100, .int 0, .int 0])), ((p0 12), .inl (cI, 3, .inl (fun _ => 0))), ((p0 11), .inl (cI, 3, .inl (fun _ => 0)))] H := hP
  have hD : va_D A [((p0 1), .inr (5, [.ref (p0 2), .ref (p0 3), .ref (p0 4), .ref (p0 5), .ref (p0 6), .ref (p0 7), .ref (p0 8), .ref (p0 9), .ref (p0 10), .ref (p0 11), .ref (p0 12), .ref (p0 13), .int 0, .int 0, .int 0, .int 0, .int 0, .int 100, .int 0, .int 0])), ((p0 12), .inl (cI, 3, .inl (fun _ => 0))), ((p0 11), .inl (cI, 3, .inl (fun _ => 0)))] := hD
  refine lv_istore_n (lv' := [(2, .int 99), (0, .ref (p0 1)), (1, .ref (p0 59))]) hx hb dX5_mayBeSaid_15 rfl hl (by decide) rfl (fun ls hl => ?_)
  refine lv_iconst (v := 0) hx hb dX5_mayBeSaid_16 (by decide +kernel) ?_
  refine lv_istore_n (lv' := [(3, .int 0), (2, .int 99), (0, .ref (p0 1)), (1, .ref (p0 59))]) hx hb dX5_mayBeSaid_17 rfl hl (by decide) rfl (fun ls hl => ?_)
  refine lv_iconst (v := 0) hx hb dX5_mayBeSaid_18 (by decide +kernel) ?_
  refine lv_istore (lv' := [(4, .int 0), (3, .int 0), (2, .int 99), (0, .ref (p0 1)), (1, .ref (p0 59))]) hx hb dX5_mayBeSaid_19 hl (by decide) rfl (fun ls hl => ?_)
  refine lv_iload hx hb dX5_mayBeSaid_21 (lv_at hl 0 rfl) ?_
  refine lv_aload_n hx hb dX5_mayBeSaid_23 rfl (lv_at hl 3 rfl) ?_
  refine k_get (D := (dC, dI)) (ci := 5) (v := .int 0) (C := RX5) (T := TX5) (N := 20) hx hb hts hinX5 hown hK hP 0 rfl rfl 14 (by decide) w_0 rfl rfl dX5_mayBeSaid_24 ?_
  refine lv_icmp_ge (tgt := 57) hx hb dX5_mayBeSaid_27 (by decide) (fun _ => ?_) (fun q9 => absurd q9 (by decide +kernel))
  refine lv_iload_n hx hb dX5_mayBeSaid_57 rfl (lv_at hl 1 rfl) ?_
  exact k_ri B hP hD hS dX5_mayBeSaid_58 () [0, 1, 2] rfl rfl rfl (Nat.le_of_ble_eq_true rfl) (Nat.le_of_ble_eq_true rfl) rfl
set_option maxHeartbeats 4000000 in
set_option maxRecDepth 100000 in
theorem c_X3_bestMargin_v1 (l : Launch) (dC : Nat → ClassId) (dI : Nat → Nat → Nat) (cI cJ cZ cM : ClassId) (p0 : Nat → Nat)   : k_Mi l yX3_bestMargin wsX3_bestMargin ({ frames := 2, cells := 0, slots := 0, locals := 63 }) (dC, dI) vwCl (tyy cI cJ cZ cM) [((p0 54), .inr (3, [.ref (p0 55), .ref (p0 56), .ref (p0 57), .ref (p0 58), .ref (p0 59), .ref (p0 1), .int 1])), ((p0 1), .inr (5, [.ref (p0 2), .ref (p0 3), .ref (p0 4), .ref (p0 5), .ref (p0 6), .ref (p0 7), .ref (p0 8), .ref (p0 9), .ref (p0 10), .ref (p0 11), .ref (p0 12), .ref (p0 13), .int 0, .int 0, .int 0, .int 0, .int 0, .int 100, .int 0, .int 0]))] [.ref (p0 54), .int 1, .int 0, .int 0, .int 0, .int 0] 0 0 (fun (u9 : Unit) => [((p0 54), .inr (3, [.ref (p0 55), .ref (p0 56), .ref (p0 57), .ref (p0 58), .ref (p0 59), .ref (p0 1), .int 1])), ((p0 1), .inr (5, [.ref (p0 2), .ref (p0 3), .ref (p0 4), .ref (p0 5), .ref (p0 6), .ref (p0 7), .ref (p0 8), .ref (p0 9), .ref (p0 10), .ref (p0 11), .ref (p0 12), .ref (p0 13), .int 0, .int 0, .int 0, .int 0, .int 0, .int 100, .int 0, .int 0]))]) (fun (r9 : Int32) (u9 : Unit) => r9 = 0) := by
  refine fun sz => k_enter (cc := cX3_bestMargin) (maxL := 11) (ret := some (.int)) (Qc := fun A => va_Qi (fun (r9 : Int32) (u9 : Unit) => r9 = 0) (fun u => k_B (dC, dI) vwCl (tyy cI cJ cZ cM) A ((fun (u9 : Unit) => [((p0 54), .inr (3, [.ref (p0 55), .ref (p0 56), .ref (p0 57), .ref (p0 58), .ref (p0 59), .ref (p0 1), .int 1])), ((p0 1), .inr (5, [.ref (p0 2), .ref (p0 3), .ref (p0 4), .ref (p0 5), .ref (p0 6), .ref (p0 7), .ref (p0 8), .ref (p0 9), .ref (p0 10), .ref (p0 11), .ref (p0 12), .ref (p0 13), .int 0, .int 0, .int 0, .int 0, .int 0, .int 100, .int 0, .int 0]))]) u)) A) sz (by decide +kernel) rfl (Nat.le_of_ble_eq_true rfl) (fun p e s m args below meth c A ls H locs B hP hD hS hl => ?_)
  obtain ⟨hx, hb, hml, hown, hts, hr, hlk, hnm, hK, hA, hN, hC⟩ := id B
  have hown : s.vm.findClass RX3 = some m.cls := hown
  have hl : lv_has ls 11 [(0, .ref (p0 54)), (1, .int 1), (2, .int 0), (3, .int 0), (4, .int 0), (5, .int 0)] := hl
  have w_0 : (Cond.fieldLink RX3 36 "WishSea$Rivalry" "turns" "I").before args s = true := hts _ (List.mem_of_getElem? (i := 1) rfl)
  have w_1 : (Cond.fieldLink RX3 32 "WishSea$Rivalry" "shore" "LWishSea$Shore;").before args s = true := hts _ (List.mem_of_getElem? (i := 3) rfl)
  have hinX3 : ∀ w ∈ u_ws RX3 TX3 7, w ∈ wsX3_bestMargin := fun _ h => List.mem_cons_of_mem _ (List.mem_append_left _ (List.mem_append_left _ (List.mem_append_right _ h)))
  refine lv_iload_n hx hb dX3_bestMargin_0 rfl (lv_at hl 1 rfl) ?_
  refine lv_aload_n hx hb dX3_bestMargin_1 rfl (lv_at hl 0 rfl) ?_
  refine k_get (D := (dC, dI)) (ci := 3) (v := .int 1) (C := RX3) (T := TX3) (N := 7) hx hb hts hinX3 hown hK hP 0 rfl rfl 6 (by decide) w_0 rfl rfl dX3_bestMargin_2 ?_
  refine lv_icmp_ge (tgt := 17) hx hb dX3_bestMargin_5 (by decide) (fun _ => ?_) (fun q9 => absurd q9 (by decide +kernel))
  refine lv_aload_n hx hb dX3_bestMargin_17 rfl (lv_at hl 0 rfl) ?_
  refine k_get (D := (dC, dI)) (ci := 3) (v := .ref (p0 1)) (C := RX3) (T := TX3) (N := 7) hx hb hts hinX3 hown hK hP 0 rfl rfl 5 (by decide) w_1 rfl rfl dX3_bestMargin_18 ?_
  refine lv_iload_n hx hb dX3_bestMargin_21 rfl (lv_at hl 2 rfl) ?_
  refine k_ci (wc := [((p0 1), .inr (5, [.ref (p0 2), .ref (p0 3), .ref (p0 4), .ref (p0 5), .ref (p0 6), .ref (p0 7), .ref (p0 8), .ref (p0 9), .ref (p0 10), .ref (p0 11), .ref (p0 12), .ref (p0 13), .int 0, .int 0, .int 0, .int 0, .int 0, .int 100, .int 0, .int 0]))]) (wr := [((p0 54), .inr (3, [.ref (p0 55), .ref (p0 56), .ref (p0 57), .ref (p0 58), .ref (p0 59), .ref (p0 1), .int 1]))]) (fun hPc hDc hFc => va_runV (As := [.int 0]) (rest := []) ⟨hx, hb, hml, hown, hts⟩ (c_X5_worthOf_v0 l dC dI cI cJ cZ cM p0 H.size) (cwV 1 hts gX3_bestMargin_X5_worthOf rfl rfl rfl (by decide +kernel) ⟨(Nat.le_of_ble_eq_true rfl), (Nat.le_of_ble_eq_true rfl)⟩) (k_pV hPc hDc hK hN hC hS hFc hP (q0 := 1) (ci := 5) rfl rfl) rfl rfl hl.1 rfl (lv_room (Nat.le_of_ble_eq_true rfl)) dX3_bestMargin_22 ⟨(Nat.le_of_ble_eq_true rfl), (Nat.le_of_ble_eq_true rfl)⟩) hP hD hS hA [1] [0] rfl rfl rfl rfl (by decide) (fun _ => rfl) 0 0 rfl rfl (fun r_1 u_2 H locs hw hP hD hS => ?_)
  obtain rfl : r_1 = 0 := hw
  have hP : va_P (dC, dI) vwCl [((p0 54), .inr (3, [.ref (p0 55), .ref (p0 56), .ref (p0 57), .ref (p0 58), .ref (p0 59), .ref (p0 1), .int 1])), ((p0 1), .inr (5, [.ref (p0 2), .ref (p0 3), .ref (p0 4), .ref (p0 5), .ref (p0 6), .ref (p0 7), .ref (p0 8), .ref (p0 9), .ref (p0 10), .ref (p0 11), .ref (p0 12), .ref (p0 13), .int 0, .int 0, .int 0, .int 0, .int 0, .int 100, .int 0, .int 0]))] H := hP
  have hD : va_D A [((p0 54), .inr (3, [.ref (p0 55), .ref (p0 56), .ref (p0 57), .ref (p0 58), .ref (p0 59), .ref (p0 1), .int 1])), ((p0 1), .inr (5, [.ref (p0 2), .ref (p0 3), .ref (p0 4), .ref (p0 5), .ref (p0 6), .ref (p0 7), .ref (p0 8), .ref (p0 9), .ref (p0 10), .ref (p0 11), .ref (p0 12), .ref (p0 13), .int 0, .int 0, .int 0, .int 0, .int 0, .int 100, .int 0, .int 0]))] := hD
  refine lv_aload_n hx hb dX3_bestMargin_25 rfl (lv_at hl 0 rfl) ?_
  refine k_get (D := (dC, dI)) (ci := 3) (v := .ref (p0 1)) (C := RX3) (T := TX3) (N := 7) hx hb hts hinX3 hown hK hP 0 rfl rfl 5 (by decide) w_1 rfl rfl dX3_bestMargin_26 ?_
  refine lv_iload_n hx hb dX3_bestMargin_29 rfl (lv_at hl 3 rfl) ?_
  refine k_ci (wc := [((p0 1), .inr (5, [.ref (p0 2), .ref (p0 3), .ref (p0 4), .ref (p0 5), .ref (p0 6), .ref (p0 7), .ref (p0 8), .ref (p0 9), .ref (p0 10), .ref (p0 11), .ref (p0 12), .ref (p0 13), .int 0, .int 0, .int 0, .int 0, .int 0, .int 100, .int 0, .int 0]))]) (wr := [((p0 54), .inr (3, [.ref (p0 55), .ref (p0 56), .ref (p0 57), .ref (p0 58), .ref (p0 59), .ref (p0 1), .int 1]))]) (fun hPc hDc hFc => va_runV (As := [.int 0]) (rest := [.int 0]) ⟨hx, hb, hml, hown, hts⟩ (c_X5_worthOf_v0 l dC dI cI cJ cZ cM p0 H.size) (cwV 1 hts gX3_bestMargin_X5_worthOf rfl rfl rfl (by decide +kernel) ⟨(Nat.le_of_ble_eq_true rfl), (Nat.le_of_ble_eq_true rfl)⟩) (k_pV hPc hDc hK hN hC hS hFc hP (q0 := 1) (ci := 5) rfl rfl) rfl rfl hl.1 rfl (lv_room (Nat.le_of_ble_eq_true rfl)) dX3_bestMargin_30 ⟨(Nat.le_of_ble_eq_true rfl), (Nat.le_of_ble_eq_true rfl)⟩) hP hD hS hA [1] [0] rfl rfl rfl rfl (by decide) (fun _ => rfl) 0 0 rfl rfl (fun r_3 u_4 H locs hw hP hD hS => ?_)
  obtain rfl : r_3 = 0 := hw
  have hP : va_P (dC, dI) vwCl [((p0 54), .inr (3, [.ref (p0 55), .ref (p0 56), .ref (p0 57), .ref (p0 58), .ref (p0 59), .ref (p0 1), .int 1])), ((p0 1), .inr (5, [.ref (p0 2), .ref (p0 3), .ref (p0 4), .ref (p0 5), .ref (p0 6), .ref (p0 7), .ref (p0 8), .ref (p0 9), .ref (p0 10), .ref (p0 11), .ref (p0 12), .ref (p0 13), .int 0, .int 0, .int 0, .int 0, .int 0, .int 100, .int 0, .int 0]))] H := hP
  have hD : va_D A [((p0 54), .inr (3, [.ref (p0 55), .ref (p0 56), .ref (p0 57), .ref (p0 58), .ref (p0 59), .ref (p0 1), .int 1])), ((p0 1), .inr (5, [.ref (p0 2), .ref (p0 3), .ref (p0 4), .ref (p0 5), .ref (p0 6), .ref (p0 7), .ref (p0 8), .ref (p0 9), .ref (p0 10), .ref (p0 11), .ref (p0 12), .ref (p0 13), .int 0, .int 0, .int 0, .int 0, .int 0, .int 100, .int 0, .int 0]))] := hD
  refine lv_isub hx hb dX3_bestMargin_33 ?_
  refine k_int (v := 0) (by decide +kernel) ?_
  exact k_ri B hP hD hS dX3_bestMargin_34 () [0, 1] rfl rfl rfl (Nat.le_of_ble_eq_true rfl) (Nat.le_of_ble_eq_true rfl) rfl
set_option maxHeartbeats 4000000 in
set_option maxRecDepth 100000 in
theorem c_X3_bestMargin_v2 (l : Launch) (dC : Nat → ClassId) (dI : Nat → Nat → Nat) (cI cJ cZ cM : ClassId) (p0 : Nat → Nat)   : k_Mi l yX3_bestMargin wsX3_bestMargin ({ frames := 4, cells := 0, slots := 0, locals := 106 }) (dC, dI) vwCl (tyy cI cJ cZ cM) [((p0 54), .inr (3, [.ref (p0 55), .ref (p0 56), .ref (p0 57), .ref (p0 58), .ref (p0 59), .ref (p0 1), .int 1])), ((p0 58), .inl (cI, 4, .inl (fun _ => 0))), ((p0 59), .inr (0, [.int 0, .int 0, .int 0, .int 0])), ((p0 1), .inr (5, [.ref (p0 2), .ref (p0 3), .ref (p0 4), .ref (p0 5), .ref (p0 6), .ref (p0 7), .ref (p0 8), .ref (p0 9), .ref (p0 10), .ref (p0 11), .ref (p0 12), .ref (p0 13), .int 0, .int 0, .int 0, .int 0, .int 0, .int 100, .int 0, .int 0])), ((p0 12), .inl (cI, 3, .inl (fun _ => 0))), ((p0 11), .inl (cI, 3, .inl (fun _ => 0)))] [.ref (p0 54), .int 0, .int 0, .int 0, .int 0, .int 0] 0 0 (fun (u9 : Unit) => [((p0 54), .inr (3, [.ref (p0 55), .ref (p0 56), .ref (p0 57), .ref (p0 58), .ref (p0 59), .ref (p0 1), .int 1])), ((p0 58), .inl (cI, 4, .inl (upd (fun _ => 0) 0 20))), ((p0 59), .inr (0, [.int 0, .int 0, .int 0, .int 0])), ((p0 1), .inr (5, [.ref (p0 2), .ref (p0 3), .ref (p0 4), .ref (p0 5), .ref (p0 6), .ref (p0 7), .ref (p0 8), .ref (p0 9), .ref (p0 10), .ref (p0 11), .ref (p0 12), .ref (p0 13), .int 0, .int 0, .int 0, .int 0, .int 0, .int 100, .int 0, .int 0])), ((p0 12), .inl (cI, 3, .inl (fun _ => 0))), ((p0 11), .inl (cI, 3, .inl (fun _ => 0)))]) (fun (r9 : Int32) (u9 : Unit) => r9 = 0) := by
  refine fun sz => k_enter (cc := cX3_bestMargin) (maxL := 11) (ret := some (.int)) (Qc := fun A => va_Qi (fun (r9 : Int32) (u9 : Unit) => r9 = 0) (fun u => k_B (dC, dI) vwCl (tyy cI cJ cZ cM) A ((fun (u9 : Unit) => [((p0 54), .inr (3, [.ref (p0 55), .ref (p0 56), .ref (p0 57), .ref (p0 58), .ref (p0 59), .ref (p0 1), .int 1])), ((p0 58), .inl (cI, 4, .inl (upd (fun _ => 0) 0 20))), ((p0 59), .inr (0, [.int 0, .int 0, .int 0, .int 0])), ((p0 1), .inr (5, [.ref (p0 2), .ref (p0 3), .ref (p0 4), .ref (p0 5), .ref (p0 6), .ref (p0 7), .ref (p0 8), .ref (p0 9), .ref (p0 10), .ref (p0 11), .ref (p0 12), .ref (p0 13), .int 0, .int 0, .int 0, .int 0, .int 0, .int 100, .int 0, .int 0])), ((p0 12), .inl (cI, 3, .inl (fun _ => 0))), ((p0 11), .inl (cI, 3, .inl (fun _ => 0)))]) u)) A) sz (by decide +kernel) rfl (Nat.le_of_ble_eq_true rfl) (fun p e s m args below meth c A ls H locs B hP hD hS hl => ?_)
  obtain ⟨hx, hb, hml, hown, hts, hr, hlk, hnm, hK, hA, hN, hC⟩ := id B
  have hown : s.vm.findClass RX3 = some m.cls := hown
  have hl : lv_has ls 11 [(0, .ref (p0 54)), (1, .int 0), (2, .int 0), (3, .int 0), (4, .int 0), (5, .int 0)] := hl
  have w_0 : (Cond.fieldLink RX3 36 "WishSea$Rivalry" "turns" "I").before args s = true := hts _ (List.mem_of_getElem? (i := 1) rfl)
  have w_1 : (Cond.fieldLink RX3 22 "WishSea$Rivalry" "chosen" "[I").before args s = true := hts _ (List.mem_of_getElem? (i := 2) rfl)
  have w_2 : (Cond.fieldLink RX3 28 "WishSea$Rivalry" "here" "LWishSea$Moment;").before args s = true := hts _ (List.mem_of_getElem? (i := 4) rfl)
  have w_3 : (Cond.fieldLink RX3 32 "WishSea$Rivalry" "shore" "LWishSea$Shore;").before args s = true := hts _ (List.mem_of_getElem? (i := 3) rfl)
  have w_4 : (Cond.constant RX3 82 (-1000000000)).before args s = true := hts _ (List.mem_of_getElem? (i := 5) rfl)
  have w_5 : (Cond.fieldLink RX3 83 "WishSea$Shore" "wishes" "I").before args s = true := hts _ (List.mem_of_getElem? (i := 6) rfl)
  have w_6 : (Cond.methodLink RX3 90 Lib.Math.max.name).before args s = true := hts _ (List.mem_of_getElem? (i := 7) rfl)
  have w_7 : (Cond.static Lib.Math.max.name).before args s = true := hts _ (List.mem_of_getElem? (i := 8) rfl)
  have w_8 : (Cond.initialized "java/lang/Math").before args s = true := hts _ (List.mem_of_getElem? (i := 9) rfl)
  have w_9 : (Cond.code Lib.Math.max.name Lib.Math.max.code 2 (some .int)).before args s = true := hts _ (List.mem_of_getElem? (i := 10) rfl)
  have hinX3 : ∀ w ∈ u_ws RX3 TX3 7, w ∈ wsX3_bestMargin := fun _ h => List.mem_cons_of_mem _ (List.mem_append_left _ (List.mem_append_left _ (List.mem_append_right _ h)))
  have hinX5 : ∀ w ∈ u_ws RX5 TX5 20, w ∈ wsX3_bestMargin := fun _ h => List.mem_cons_of_mem _ (List.mem_append_left _ (List.mem_append_right _ h))
  refine lv_iload_n hx hb dX3_bestMargin_0 rfl (lv_at hl 1 rfl) ?_
  refine lv_aload_n hx hb dX3_bestMargin_1 rfl (lv_at hl 0 rfl) ?_
  refine k_get (D := (dC, dI)) (ci := 3) (v := .int 1) (C := RX3) (T := TX3) (N := 7) hx hb hts hinX3 hown hK hP 0 rfl rfl 6 (by decide) w_0 rfl rfl dX3_bestMargin_2 ?_
  refine lv_icmp_ge (tgt := 17) hx hb dX3_bestMargin_5 (by decide) (fun q9 => absurd q9 (by decide +kernel)) (fun _ => ?_)
  refine lv_iload_n hx hb dX3_bestMargin_8 rfl (lv_at hl 1 rfl) ?_
  refine lv_aload_n hx hb dX3_bestMargin_9 rfl (lv_at hl 0 rfl) ?_
  refine k_get (D := (dC, dI)) (ci := 3) (v := .ref (p0 58)) (C := RX3) (T := TX3) (N := 7) hx hb hts hinX3 hown hK hP 0 rfl rfl 3 (by decide) w_1 rfl rfl dX3_bestMargin_10 ?_
  refine va_alen (v := 4) hx hb hK hP 1 0 rfl rfl rfl dX3_bestMargin_13 ?_
  refine lv_icmp_lt (tgt := 35) hx hb dX3_bestMargin_14 (by decide) (fun _ => ?_) (fun q9 => absurd q9 (by decide +kernel))
  refine lv_aload_n hx hb dX3_bestMargin_35 rfl (lv_at hl 0 rfl) ?_
  refine k_get (D := (dC, dI)) (ci := 3) (v := .ref (p0 59)) (C := RX3) (T := TX3) (N := 7) hx hb hts hinX3 hown hK hP 0 rfl rfl 4 (by decide) w_2 rfl rfl dX3_bestMargin_36 ?_
  refine lv_iload_n hx hb dX3_bestMargin_39 rfl (lv_at hl 2 rfl) ?_
  refine lv_iload hx hb dX3_bestMargin_40 (lv_at hl 4 rfl) ?_
  refine lv_iload hx hb dX3_bestMargin_42 (lv_at hl 5 rfl) ?_
  refine lv_iconst (v := 0) hx hb dX3_bestMargin_44 (by decide +kernel) ?_
  refine k_cv (wc := [((p0 59), .inr (0, [.int 0, .int 0, .int 0, .int 0]))]) (wr := [((p0 54), .inr (3, [.ref (p0 55), .ref (p0 56), .ref (p0 57), .ref (p0 58), .ref (p0 59), .ref (p0 1), .int 1])), ((p0 58), .inl (cI, 4, .inl (fun _ => 0))), ((p0 1), .inr (5, [.ref (p0 2), .ref (p0 3), .ref (p0 4), .ref (p0 5), .ref (p0 6), .ref (p0 7), .ref (p0 8), .ref (p0 9), .ref (p0 10), .ref (p0 11), .ref (p0 12), .ref (p0 13), .int 0, .int 0, .int 0, .int 0, .int 0, .int 100, .int 0, .int 0])), ((p0 12), .inl (cI, 3, .inl (fun _ => 0))), ((p0 11), .inl (cI, 3, .inl (fun _ => 0)))]) (fun hPc hDc hFc => va_runV (As := [.int 0, .int 0, .int 0, .int 0]) (rest := []) ⟨hx, hb, hml, hown, hts⟩ (c_X0_put_v7 l dC dI cI cJ cZ cM p0 H.size) (cwV 4 hts gX3_bestMargin_X0_put rfl rfl rfl (by decide +kernel) ⟨(Nat.le_of_ble_eq_true rfl), (Nat.le_of_ble_eq_true rfl)⟩) (k_pV hPc hDc hK hN hC hS hFc hP (q0 := 2) (ci := 0) rfl rfl) rfl rfl hl.1 rfl (lv_room (Nat.le_of_ble_eq_true rfl)) dX3_bestMargin_45 ⟨(Nat.le_of_ble_eq_true rfl), (Nat.le_of_ble_eq_true rfl)⟩) hP hD hS hA [2] [0, 1, 3, 4, 5] rfl rfl rfl rfl (by decide) (fun _ => rfl) 0 0 rfl rfl (fun u_2 H locs hw hP hD hS => ?_)
  have hP : va_P (dC, dI) vwCl [((p0 54), .inr (3, [.ref (p0 55), .ref (p0 56), .ref (p0 57), .ref (p0 58), .ref (p0 59), .ref (p0 1), .int 1])), ((p0 58), .inl (cI, 4, .inl (fun _ => 0))), ((p0 1), .inr (5, [.ref (p0 2), .ref (p0 3), .ref (p0 4), .ref (p0 5), .ref (p0 6), .ref (p0 7), .ref (p0 8), .ref (p0 9), .ref (p0 10), .ref (p0 11), .ref (p0 12), .ref (p0 13), .int 0, .int 0, .int 0, .int 0, .int 0, .int 100, .int 0, .int 0])), ((p0 12), .inl (cI, 3, .inl (fun _ => 0))), ((p0 11), .inl (cI, 3, .inl (fun _ => 0))), ((p0 59), .inr (0, [.int 0, .int 0, .int 0, .int 0]))] H := hP
  have hD : va_D A [((p0 54), .inr (3, [.ref (p0 55), .ref (p0 56), .ref (p0 57), .ref (p0 58), .ref (p0 59), .ref (p0 1), .int 1])), ((p0 58), .inl (cI, 4, .inl (fun _ => 0))), ((p0 1), .inr (5, [.ref (p0 2), .ref (p0 3), .ref (p0 4), .ref (p0 5), .ref (p0 6), .ref (p0 7), .ref (p0 8), .ref (p0 9), .ref (p0 10), .ref (p0 11), .ref (p0 12), .ref (p0 13), .int 0, .int 0, .int 0, .int 0, .int 0, .int 100, .int 0, .int 0])), ((p0 12), .inl (cI, 3, .inl (fun _ => 0))), ((p0 11), .inl (cI, 3, .inl (fun _ => 0))), ((p0 59), .inr (0, [.int 0, .int 0, .int 0, .int 0]))] := hD
  refine lv_aload_n hx hb dX3_bestMargin_48 rfl (lv_at hl 0 rfl) ?_
  refine k_get (D := (dC, dI)) (ci := 3) (v := .ref (p0 1)) (C := RX3) (T := TX3) (N := 7) hx hb hts hinX3 hown hK hP 0 rfl rfl 5 (by decide) w_3 rfl rfl dX3_bestMargin_49 ?_
  refine lv_aload_n hx hb dX3_bestMargin_52 rfl (lv_at hl 0 rfl) ?_
  refine k_get (D := (dC, dI)) (ci := 3) (v := .ref (p0 59)) (C := RX3) (T := TX3) (N := 7) hx hb hts hinX3 hown hK hP 0 rfl rfl 4 (by decide) w_2 rfl rfl dX3_bestMargin_53 ?_
  refine k_ci (wc := [((p0 1), .inr (5, [.ref (p0 2), .ref (p0 3), .ref (p0 4), .ref (p0 5), .ref (p0 6), .ref (p0 7), .ref (p0 8), .ref (p0 9), .ref (p0 10), .ref (p0 11), .ref (p0 12), .ref (p0 13), .int 0, .int 0, .int 0, .int 0, .int 0, .int 100, .int 0, .int 0])), ((p0 12), .inl (cI, 3, .inl (fun _ => 0))), ((p0 11), .inl (cI, 3, .inl (fun _ => 0)))]) (wr := [((p0 54), .inr (3, [.ref (p0 55), .ref (p0 56), .ref (p0 57), .ref (p0 58), .ref (p0 59), .ref (p0 1), .int 1])), ((p0 58), .inl (cI, 4, .inl (fun _ => 0))), ((p0 59), .inr (0, [.int 0, .int 0, .int 0, .int 0]))]) (fun hPc hDc hFc => va_runV (As := [.ref (p0 59)]) (rest := []) ⟨hx, hb, hml, hown, hts⟩ (c_X5_mayBeSaid_v2 l dC dI cI cJ cZ cM p0 H.size) (cwV 1 hts gX3_bestMargin_X5_mayBeSaid rfl rfl rfl (by decide +kernel) ⟨(Nat.le_of_ble_eq_true rfl), (Nat.le_of_ble_eq_true rfl)⟩) (k_pV hPc hDc hK hN hC hS hFc hP (q0 := 2) (ci := 5) rfl rfl) rfl rfl hl.1 rfl (lv_room (Nat.le_of_ble_eq_true rfl)) dX3_bestMargin_56 ⟨(Nat.le_of_ble_eq_true rfl), (Nat.le_of_ble_eq_true rfl)⟩) hP hD hS hA [2, 3, 4] [0, 1, 5] rfl rfl rfl rfl (by decide) (fun _ => rfl) 0 0 rfl rfl (fun r_3 u_4 H locs hw hP hD hS => ?_)
  obtain rfl : r_3 = 0 := hw
  have hP : va_P (dC, dI) vwCl [((p0 54), .inr (3, [.ref (p0 55), .ref (p0 56), .ref (p0 57), .ref (p0 58), .ref (p0 59), .ref (p0 1), .int 1])), ((p0 58), .inl (cI, 4, .inl (fun _ => 0))), ((p0 59), .inr (0, [.int 0, .int 0, .int 0, .int 0])), ((p0 1), .inr (5, [.ref (p0 2), .ref (p0 3), .ref (p0 4), .ref (p0 5), .ref (p0 6), .ref (p0 7), .ref (p0 8), .ref (p0 9), .ref (p0 10), .ref (p0 11), .ref (p0 12), .ref (p0 13), .int 0, .int 0, .int 0, .int 0, .int 0, .int 100, .int 0, .int 0])), ((p0 12), .inl (cI, 3, .inl (fun _ => 0))), ((p0 11), .inl (cI, 3, .inl (fun _ => 0)))] H := hP
  have hD : va_D A [((p0 54), .inr (3, [.ref (p0 55), .ref (p0 56), .ref (p0 57), .ref (p0 58), .ref (p0 59), .ref (p0 1), .int 1])), ((p0 58), .inl (cI, 4, .inl (fun _ => 0))), ((p0 59), .inr (0, [.int 0, .int 0, .int 0, .int 0])), ((p0 1), .inr (5, [.ref (p0 2), .ref (p0 3), .ref (p0 4), .ref (p0 5), .ref (p0 6), .ref (p0 7), .ref (p0 8), .ref (p0 9), .ref (p0 10), .ref (p0 11), .ref (p0 12), .ref (p0 13), .int 0, .int 0, .int 0, .int 0, .int 0, .int 100, .int 0, .int 0])), ((p0 12), .inl (cI, 3, .inl (fun _ => 0))), ((p0 11), .inl (cI, 3, .inl (fun _ => 0)))] := hD
  refine lv_istore (lv' := [(6, .int 0), (0, .ref (p0 54)), (1, .int 0), (2, .int 0), (3, .int 0), (4, .int 0), (5, .int 0)]) hx hb dX3_bestMargin_59 hl (by decide) rfl (fun ls hl => ?_)
  refine lv_ldc (v := (-1000000000)) hx hb hown w_4 dX3_bestMargin_61 ?_
  refine lv_istore (lv' := [(7, .int (-1000000000)), (6, .int 0), (0, .ref (p0 54)), (1, .int 0), (2, .int 0), (3, .int 0), (4, .int 0), (5, .int 0)]) hx hb dX3_bestMargin_63 hl (by decide) rfl (fun ls hl => ?_)
  refine lv_bipush (v := 20) hx hb dX3_bestMargin_65 (by decide +kernel) ?_
  refine lv_istore (lv' := [(8, .int 20), (7, .int (-1000000000)), (6, .int 0), (0, .ref (p0 54)), (1, .int 0), (2, .int 0), (3, .int 0), (4, .int 0), (5, .int 0)]) hx hb dX3_bestMargin_67 hl (by decide) rfl (fun ls hl => ?_)
  refine lv_iconst (v := 0) hx hb dX3_bestMargin_69 (by decide +kernel) ?_
  refine lv_istore (lv' := [(9, .int 0), (8, .int 20), (7, .int (-1000000000)), (6, .int 0), (0, .ref (p0 54)), (1, .int 0), (2, .int 0), (3, .int 0), (4, .int 0), (5, .int 0)]) hx hb dX3_bestMargin_70 hl (by decide) rfl (fun ls hl => ?_)
  refine lv_iload hx hb dX3_bestMargin_72 (lv_at hl 0 rfl) ?_
  refine lv_aload_n hx hb dX3_bestMargin_74 rfl (lv_at hl 4 rfl) ?_
  refine k_get (D := (dC, dI)) (ci := 3) (v := .ref (p0 1)) (C := RX3) (T := TX3) (N := 7) hx hb hts hinX3 hown hK hP 0 rfl rfl 5 (by decide) w_3 rfl rfl dX3_bestMargin_75 ?_
  refine k_get (D := (dC, dI)) (ci := 5) (v := .int 0) (C := RX5) (T := TX5) (N := 20) hx hb hts hinX5 hown hK hP 3 rfl rfl 14 (by decide) w_5 rfl rfl dX3_bestMargin_78 ?_
  refine lv_icmp_ge (tgt := 133) hx hb dX3_bestMargin_81 (by decide) (fun _ => ?_) (fun q9 => absurd q9 (by decide +kernel))
  refine lv_aload_n hx hb dX3_bestMargin_133 rfl (lv_at hl 4 rfl) ?_
  refine lv_iload_n hx hb dX3_bestMargin_134 rfl (lv_at hl 5 rfl) ?_
  refine lv_iconst (v := 1) hx hb dX3_bestMargin_135 (by decide +kernel) ?_
  refine lv_iadd hx hb dX3_bestMargin_136 ?_
  refine k_int (v := 1) (by decide +kernel) ?_
  refine lv_iload_n hx hb dX3_bestMargin_137 rfl (lv_at hl 7 rfl) ?_
  refine lv_iload_n hx hb dX3_bestMargin_138 rfl (lv_at hl 6 rfl) ?_
  refine lv_iload hx hb dX3_bestMargin_139 (lv_at hl 8 rfl) ?_
  refine lv_iload hx hb dX3_bestMargin_141 (lv_at hl 9 rfl) ?_
  refine k_ci (wc := [((p0 54), .inr (3, [.ref (p0 55), .ref (p0 56), .ref (p0 57), .ref (p0 58), .ref (p0 59), .ref (p0 1), .int 1])), ((p0 1), .inr (5, [.ref (p0 2), .ref (p0 3), .ref (p0 4), .ref (p0 5), .ref (p0 6), .ref (p0 7), .ref (p0 8), .ref (p0 9), .ref (p0 10), .ref (p0 11), .ref (p0 12), .ref (p0 13), .int 0, .int 0, .int 0, .int 0, .int 0, .int 100, .int 0, .int 0]))]) (wr := [((p0 58), .inl (cI, 4, .inl (fun _ => 0))), ((p0 59), .inr (0, [.int 0, .int 0, .int 0, .int 0])), ((p0 12), .inl (cI, 3, .inl (fun _ => 0))), ((p0 11), .inl (cI, 3, .inl (fun _ => 0)))]) (fun hPc hDc hFc => va_runV (As := [.int 1, .int 0, .int 0, .int 0, .int 0]) (rest := []) ⟨hx, hb, hml, hown, hts⟩ (c_X3_bestMargin_v1 l dC dI cI cJ cZ cM p0 H.size) (cwV 5 hts gX3_bestMargin_X3_bestMargin rfl rfl rfl (by decide +kernel) ⟨(Nat.le_of_ble_eq_true rfl), (Nat.le_of_ble_eq_true rfl)⟩) (k_pV hPc hDc hK hN hC hS hFc hP (q0 := 0) (ci := 3) rfl rfl) rfl rfl hl.1 rfl (lv_room (Nat.le_of_ble_eq_true rfl)) dX3_bestMargin_143 ⟨(Nat.le_of_ble_eq_true rfl), (Nat.le_of_ble_eq_true rfl)⟩) hP hD hS hA [0, 3] [1, 2, 4, 5] rfl rfl rfl rfl (by decide) (fun _ => rfl) 0 0 rfl rfl (fun r_5 u_6 H locs hw hP hD hS => ?_)
  obtain rfl : r_5 = 0 := hw
  have hP : va_P (dC, dI) vwCl [((p0 58), .inl (cI, 4, .inl (fun _ => 0))), ((p0 59), .inr (0, [.int 0, .int 0, .int 0, .int 0])), ((p0 12), .inl (cI, 3, .inl (fun _ => 0))), ((p0 11), .inl (cI, 3, .inl (fun _ => 0))), ((p0 54), .inr (3, [.ref (p0 55), .ref (p0 56), .ref (p0 57), .ref (p0 58), .ref (p0 59), .ref (p0 1), .int 1])), ((p0 1), .inr (5, [.ref (p0 2), .ref (p0 3), .ref (p0 4), .ref (p0 5), .ref (p0 6), .ref (p0 7), .ref (p0 8), .ref (p0 9), .ref (p0 10), .ref (p0 11), .ref (p0 12), .ref (p0 13), .int 0, .int 0, .int 0, .int 0, .int 0, .int 100, .int 0, .int 0]))] H := hP
  have hD : va_D A [((p0 58), .inl (cI, 4, .inl (fun _ => 0))), ((p0 59), .inr (0, [.int 0, .int 0, .int 0, .int 0])), ((p0 12), .inl (cI, 3, .inl (fun _ => 0))), ((p0 11), .inl (cI, 3, .inl (fun _ => 0))), ((p0 54), .inr (3, [.ref (p0 55), .ref (p0 56), .ref (p0 57), .ref (p0 58), .ref (p0 59), .ref (p0 1), .int 1])), ((p0 1), .inr (5, [.ref (p0 2), .ref (p0 3), .ref (p0 4), .ref (p0 5), .ref (p0 6), .ref (p0 7), .ref (p0 8), .ref (p0 9), .ref (p0 10), .ref (p0 11), .ref (p0 12), .ref (p0 13), .int 0, .int 0, .int 0, .int 0, .int 0, .int 100, .int 0, .int 0]))] := hD
  refine lv_ineg hx hb dX3_bestMargin_146 ?_
  refine k_int (v := 0) (by decide +kernel) ?_
  refine lv_istore (lv' := [(9, .int 0), (8, .int 20), (7, .int (-1000000000)), (6, .int 0), (0, .ref (p0 54)), (1, .int 0), (2, .int 0), (3, .int 0), (4, .int 0), (5, .int 0)]) hx hb dX3_bestMargin_147 hl (by decide) rfl (fun ls hl => ?_)
  refine lv_aload_n hx hb dX3_bestMargin_149 rfl (lv_at hl 4 rfl) ?_
  refine k_get (D := (dC, dI)) (ci := 3) (v := .ref (p0 58)) (C := RX3) (T := TX3) (N := 7) hx hb hts hinX3 hown hK hP 4 rfl rfl 3 (by decide) w_1 rfl rfl dX3_bestMargin_150 ?_
  refine lv_iload_n hx hb dX3_bestMargin_153 rfl (lv_at hl 5 rfl) ?_
  refine lv_iload hx hb dX3_bestMargin_154 (lv_at hl 0 rfl) ?_
  refine lv_iload hx hb dX3_bestMargin_156 (lv_at hl 2 rfl) ?_
  refine lv_icmp_le (tgt := 166) hx hb dX3_bestMargin_158 (by decide) (fun q9 => absurd q9 (by decide +kernel)) (fun _ => ?_)
  refine lv_bipush (v := 20) hx hb dX3_bestMargin_161 (by decide +kernel) ?_
  refine lv_goto (tgt := 168) hx hb dX3_bestMargin_163 (by decide) ?_
  refine k_iast (g := (upd (fun _ => 0) 0 20)) (ws' := [((p0 58), .inl (cI, 4, .inl (upd (fun _ => 0) 0 20))), ((p0 59), .inr (0, [.int 0, .int 0, .int 0, .int 0])), ((p0 12), .inl (cI, 3, .inl (fun _ => 0))), ((p0 11), .inl (cI, 3, .inl (fun _ => 0))), ((p0 54), .inr (3, [.ref (p0 55), .ref (p0 56), .ref (p0 57), .ref (p0 58), .ref (p0 59), .ref (p0 1), .int 1])), ((p0 1), .inr (5, [.ref (p0 2), .ref (p0 3), .ref (p0 4), .ref (p0 5), .ref (p0 6), .ref (p0 7), .ref (p0 8), .ref (p0 9), .ref (p0 10), .ref (p0 11), .ref (p0 12), .ref (p0 13), .int 0, .int 0, .int 0, .int 0, .int 0, .int 100, .int 0, .int 0]))]) hx hb hK hP hD hS 0 0 0 rfl rfl rfl (Nat.le_of_ble_eq_true rfl) (Nat.le_of_ble_eq_true rfl) rfl rfl dX3_bestMargin_168 (fun H locs hP hD hS => ?_)
  refine lv_iload hx hb dX3_bestMargin_169 (lv_at hl 2 rfl) ?_
  refine lv_iload hx hb dX3_bestMargin_171 (lv_at hl 0 rfl) ?_
  refine va_mmax hx hb (hml.trans hl.1.symm) hown w_6 w_7 w_8 w_9 (Nat.le_of_ble_eq_true rfl) (Nat.le_of_ble_eq_true rfl) (Nat.le_of_ble_eq_true rfl) (Nat.le_of_ble_eq_true rfl) dX3_bestMargin_173 ?_
  refine k_int (v := 0) (by decide +kernel) ?_
  exact k_ri B hP hD hS dX3_bestMargin_176 () [4, 0, 1, 5, 2, 3] rfl rfl rfl (Nat.le_of_ble_eq_true rfl) (Nat.le_of_ble_eq_true rfl) rfl
