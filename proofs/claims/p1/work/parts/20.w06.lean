set_option maxHeartbeats 4000000 in
set_option maxRecDepth 100000 in
theorem c_X6_went_v0 (l : Launch) (dC : Nat → ClassId) (dI : Nat → Nat → Nat) (cI cJ cZ cM : ClassId) (p0 : Nat) (p1 : Int32) (p2 : Nat → Nat)   : k_Mi l yX6_went wsX6_went ({ frames := 1, cells := 0, slots := 0, locals := 40 }) (dC, dI) vwCl (tyy cI cJ cZ cM) [(p0, .inr (6, [.ref (p2 0), .int 0, .ref (p2 1), .ref (p2 14), .ref (p2 27), .ref (p2 28), .ref (p2 29), .ref (p2 30), .ref (p2 54), .null, .int 1, .int 1, .int 999, .ref (p2 61), .ref (p2 62), .ref (p2 63), .ref (p2 60)])), ((p2 61), .inl (cI, 5, .inl (fun _ => (-1))))] [.ref p0, .int p1] 0 0 (fun (u9 : Unit) => [(p0, .inr (6, [.ref (p2 0), .int 0, .ref (p2 1), .ref (p2 14), .ref (p2 27), .ref (p2 28), .ref (p2 29), .ref (p2 30), .ref (p2 54), .null, .int 1, .int 1, .int 999, .ref (p2 61), .ref (p2 62), .ref (p2 63), .ref (p2 60)])), ((p2 61), .inl (cI, 5, .inl (fun _ => (-1))))]) (fun (r9 : Int32) (u9 : Unit) => r9 = (-1)) := by
  refine fun sz => k_enter (cc := cX6_went) (maxL := 2) (ret := some (.int)) (Qc := fun A => va_Qi (fun (r9 : Int32) (u9 : Unit) => r9 = (-1)) (fun u => k_B (dC, dI) vwCl (tyy cI cJ cZ cM) A ((fun (u9 : Unit) => [(p0, .inr (6, [.ref (p2 0), .int 0, .ref (p2 1), .ref (p2 14), .ref (p2 27), .ref (p2 28), .ref (p2 29), .ref (p2 30), .ref (p2 54), .null, .int 1, .int 1, .int 999, .ref (p2 61), .ref (p2 62), .ref (p2 63), .ref (p2 60)])), ((p2 61), .inl (cI, 5, .inl (fun _ => (-1))))]) u)) A) sz (by decide +kernel) rfl (Nat.le_of_ble_eq_true rfl) (fun p e s m args below meth c A ls H locs B hP hD hS hl => ?_)
  obtain ⟨hx, hb, hml, hown, hts, hr, hlk, hnm, hK, hA, hN, hC⟩ := id B
  have hown : s.vm.findClass RX6 = some m.cls := hown
  have hl : lv_has ls 2 [(0, .ref p0), (1, .int p1)] := hl
  have w_0 : (Cond.fieldLink RX6 68 "WishSea" "gone" "[I").before args s = true := hts _ (List.mem_of_getElem? (i := 1) rfl)
  have hinX6 : ∀ w ∈ u_ws RX6 TX6 17, w ∈ wsX6_went := fun _ h => List.mem_cons_of_mem _ (List.mem_append_right _ h)
  refine lv_iload_n hx hb dX6_went_0 rfl (lv_at hl 1 rfl) ?_
  refine lv_if_lt (tgt := 22) hx hb dX6_went_1 (by decide) (fun c_1 => ?_) (fun c_1 => ?_)
  · have c_1 : p1.toInt < 0 := k_ltT rfl (by decide +kernel) c_1
    refine lv_iconst (v := (-1)) hx hb dX6_went_22 (by decide +kernel) ?_
    exact k_ri B hP hD hS dX6_went_23 () [0, 1] rfl rfl rfl (Nat.le_of_ble_eq_true rfl) (Nat.le_of_ble_eq_true rfl) rfl
  · have c_1 : 0 ≤ p1.toInt := k_ltF rfl (by decide +kernel) c_1
    refine lv_iload_n hx hb dX6_went_4 rfl (lv_at hl 1 rfl) ?_
    refine lv_aload_n hx hb dX6_went_5 rfl (lv_at hl 0 rfl) ?_
    refine k_get (D := (dC, dI)) (ci := 6) (v := .ref (p2 61)) (C := RX6) (T := TX6) (N := 17) hx hb hts hinX6 hown hK hP 0 rfl rfl 13 (by decide) w_0 rfl rfl dX6_went_6 ?_
    refine va_alen (v := 5) hx hb hK hP 1 0 rfl rfl rfl dX6_went_9 ?_
    refine lv_icmp_ge (tgt := 22) hx hb dX6_went_10 (by decide) (fun c_2 => ?_) (fun c_2 => ?_)
    · have c_2 : 5 ≤ p1.toInt := k_leT (by decide +kernel) rfl c_2
      refine lv_iconst (v := (-1)) hx hb dX6_went_22 (by decide +kernel) ?_
      exact k_ri B hP hD hS dX6_went_23 () [0, 1] rfl rfl rfl (Nat.le_of_ble_eq_true rfl) (Nat.le_of_ble_eq_true rfl) rfl
    · have c_2 : p1.toInt < 5 := k_leF (by decide +kernel) rfl c_2
      refine lv_aload_n hx hb dX6_went_13 rfl (lv_at hl 0 rfl) ?_
      refine k_get (D := (dC, dI)) (ci := 6) (v := .ref (p2 61)) (C := RX6) (T := TX6) (N := 17) hx hb hts hinX6 hown hK hP 0 rfl rfl 13 (by decide) w_0 rfl rfl dX6_went_14 ?_
      refine lv_iload_n hx hb dX6_went_17 rfl (lv_at hl 1 rfl) ?_
      rcases (show p1.toInt = 0 ∨ p1.toInt = 1 ∨ p1.toInt = 2 ∨ p1.toInt = 3 ∨ p1.toInt = 4 by omega) with c_3 | c_3 | c_3 | c_3 | c_3
      · obtain rfl : p1 = 0 := k_eqL (by decide +kernel) c_3
        refine k_iald (v := (-1)) hx hb hK hP 1 0 0 rfl rfl rfl (Nat.le_of_ble_eq_true rfl) (Nat.le_of_ble_eq_true rfl) rfl dX6_went_18 ?_
        refine lv_goto (tgt := 23) hx hb dX6_went_19 (by decide) ?_
        exact k_ri B hP hD hS dX6_went_23 () [0, 1] rfl rfl rfl (Nat.le_of_ble_eq_true rfl) (Nat.le_of_ble_eq_true rfl) rfl
      · obtain rfl : p1 = 1 := k_eqL (by decide +kernel) c_3
        refine k_iald (v := (-1)) hx hb hK hP 1 0 1 rfl rfl rfl (Nat.le_of_ble_eq_true rfl) (Nat.le_of_ble_eq_true rfl) rfl dX6_went_18 ?_
        refine lv_goto (tgt := 23) hx hb dX6_went_19 (by decide) ?_
        exact k_ri B hP hD hS dX6_went_23 () [0, 1] rfl rfl rfl (Nat.le_of_ble_eq_true rfl) (Nat.le_of_ble_eq_true rfl) rfl
      · obtain rfl : p1 = 2 := k_eqL (by decide +kernel) c_3
        refine k_iald (v := (-1)) hx hb hK hP 1 0 2 rfl rfl rfl (Nat.le_of_ble_eq_true rfl) (Nat.le_of_ble_eq_true rfl) rfl dX6_went_18 ?_
        refine lv_goto (tgt := 23) hx hb dX6_went_19 (by decide) ?_
        exact k_ri B hP hD hS dX6_went_23 () [0, 1] rfl rfl rfl (Nat.le_of_ble_eq_true rfl) (Nat.le_of_ble_eq_true rfl) rfl
      · obtain rfl : p1 = 3 := k_eqL (by decide +kernel) c_3
        refine k_iald (v := (-1)) hx hb hK hP 1 0 3 rfl rfl rfl (Nat.le_of_ble_eq_true rfl) (Nat.le_of_ble_eq_true rfl) rfl dX6_went_18 ?_
        refine lv_goto (tgt := 23) hx hb dX6_went_19 (by decide) ?_
        exact k_ri B hP hD hS dX6_went_23 () [0, 1] rfl rfl rfl (Nat.le_of_ble_eq_true rfl) (Nat.le_of_ble_eq_true rfl) rfl
      · obtain rfl : p1 = 4 := k_eqL (by decide +kernel) c_3
        refine k_iald (v := (-1)) hx hb hK hP 1 0 4 rfl rfl rfl (Nat.le_of_ble_eq_true rfl) (Nat.le_of_ble_eq_true rfl) rfl dX6_went_18 ?_
        refine lv_goto (tgt := 23) hx hb dX6_went_19 (by decide) ?_
        exact k_ri B hP hD hS dX6_went_23 () [0, 1] rfl rfl rfl (Nat.le_of_ble_eq_true rfl) (Nat.le_of_ble_eq_true rfl) rfl
set_option maxHeartbeats 4000000 in
set_option maxRecDepth 100000 in
theorem c_X7_went_v0 (l : Launch) (dC : Nat → ClassId) (dI : Nat → Nat → Nat) (cI cJ cZ cM : ClassId) (p0 : Nat) (p1 : Int32) (p2 : Nat → Nat)   : k_Mi l yX7_went wsX7_went ({ frames := 1, cells := 0, slots := 0, locals := 40 }) (dC, dI) vwCl (tyy cI cJ cZ cM) [(p0, .inr (7, oM p2 i7 j7))] [.ref p0, .int p1] 0 0 (fun (u9 : Unit) => [(p0, .inr (7, oM p2 i7 j7))]) (fun (r9 : Int32) (u9 : Unit) => r9 = (-1)) := by
  refine fun sz => k_enter (cc := cX7_went) (maxL := 2) (ret := some (.int)) (Qc := fun A => va_Qi (fun (r9 : Int32) (u9 : Unit) => r9 = (-1)) (fun u => k_B (dC, dI) vwCl (tyy cI cJ cZ cM) A ((fun (u9 : Unit) => [(p0, .inr (7, oM p2 i7 j7))]) u)) A) sz (by decide +kernel) rfl (Nat.le_of_ble_eq_true rfl) (fun p e s m args below meth c A ls H locs B hP hD hS hl => ?_)
  obtain ⟨hx, hb, hml, hown, hts, hr, hlk, hnm, hK, hA, hN, hC⟩ := id B
  have hown : s.vm.findClass RX7 = some m.cls := hown
  have hl : lv_has ls 2 [(0, .ref p0), (1, .int p1)] := hl
  have w_0 : (Cond.fieldLink RX7 216 "WishSeaModel" "wentEnd" "I").before args s = true := hts _ (List.mem_of_getElem? (i := 1) rfl)
  have hinX7 : ∀ w ∈ u_ws RX7 TX7 92, w ∈ wsX7_went := fun _ h => List.mem_cons_of_mem _ (List.mem_append_right _ h)
  refine lv_aload_n hx hb dX7_went_0 rfl (lv_at hl 0 rfl) ?_
  refine k_get (D := (dC, dI)) (ci := 7) (v := .int (-1)) (C := RX7) (T := TX7) (N := 92) hx hb hts hinX7 hown hK hP 0 rfl rfl 67 (by decide) w_0 rfl rfl dX7_went_1 ?_
  refine lv_iconst (v := (-1)) hx hb dX7_went_4 (by decide +kernel) ?_
  refine lv_icmp_ne (tgt := 10) hx hb dX7_went_5 (by decide) (fun q9 => absurd q9 (by decide +kernel)) (fun _ => ?_)
  refine lv_iconst (v := (-1)) hx hb dX7_went_8 (by decide +kernel) ?_
  exact k_ri B hP hD hS dX7_went_9 () [0] rfl rfl rfl (Nat.le_of_ble_eq_true rfl) (Nat.le_of_ble_eq_true rfl) rfl
set_option maxHeartbeats 4000000 in
set_option maxRecDepth 100000 in
theorem c_X4_init_v0 (l : Launch) (dC : Nat → ClassId) (dI : Nat → Nat → Nat) (cI cJ cZ cM : ClassId) (p0 : Nat) (p1 : Nat → Nat)   : k_Mv l yX4_init wsX4_init ({ frames := 2, cells := 3, slots := 9224, locals := 60 }) (dC, dI) vwCl (tyy cI cJ cZ cM) [(p0, .inr (4, [.null, .null, .null, .null, .int 0, .int 0]))] [.ref p0, .ref (p1 1)] 3 9224 (fun (u9 : (Nat → Nat)) => [(p0, .inr (4, [.ref (u9 0), .ref (u9 1), .ref (u9 2), .ref (p1 1), .int 0, .int 0])), ((u9 0), .inl (cI, 9216, .inl (fun _ => 0))), ((u9 1), .inr (0, [.int 0, .int 0, .int 0, .int 0])), ((u9 2), .inr (0, [.int 0, .int 0, .int 0, .int 0]))]) (fun (u9 : (Nat → Nat)) => True) := by
  refine fun sz => k_enter (cc := cX4_init) (maxL := 2) (ret := none) (Qc := fun A => va_Qv (fun (u9 : (Nat → Nat)) => True) (fun u => k_B (dC, dI) vwCl (tyy cI cJ cZ cM) A ((fun (u9 : (Nat → Nat)) => [(p0, .inr (4, [.ref (u9 0), .ref (u9 1), .ref (u9 2), .ref (p1 1), .int 0, .int 0])), ((u9 0), .inl (cI, 9216, .inl (fun _ => 0))), ((u9 1), .inr (0, [.int 0, .int 0, .int 0, .int 0])), ((u9 2), .inr (0, [.int 0, .int 0, .int 0, .int 0]))]) u)) A) sz (by decide +kernel) rfl (Nat.le_of_ble_eq_true rfl) (fun p e s m args below meth c A ls H locs B hP hD hS hl => ?_)
  obtain ⟨hx, hb, hml, hown, hts, hr, hlk, hnm, hK, hA, hN, hC⟩ := id B
  have hown : s.vm.findClass RX4 = some m.cls := hown
  have hl : lv_has ls 2 [(0, .ref p0), (1, .ref (p1 1))] := hl
  have w_0 : (Cond.methodLink RX4 3 objectInit).before args s = true := hts _ (List.mem_of_getElem? (i := 1) rfl)
  have w_1 : (Cond.instanceMethod objectInit).before args s = true := hts _ (List.mem_of_getElem? (i := 2) rfl)
  have w_2 : (Cond.code objectInit ⟨#[0xb1]⟩ 1 none).before args s = true := hts _ (List.mem_of_getElem? (i := 3) rfl)
  have w_3 : (Cond.arrayClass .int).before args s = true := hts _ (List.mem_of_getElem? (i := 4) rfl)
  have w_4 : (Cond.fieldLink RX4 9 "WishSea$Rungs" "table" "[I").before args s = true := hts _ (List.mem_of_getElem? (i := 5) rfl)
  have w_5 : (Cond.classLink RX4 15 RX0).before args s = true := hts _ (List.mem_of_getElem? (i := 6) rfl)
  have w_6 : (Cond.instantiable RX0 4).before args s = true := hts _ (List.mem_of_getElem? (i := 7) rfl)
  have w_7 : (Cond.initialized RX0).before args s = true := hts _ (List.mem_of_getElem? (i := 8) rfl)
  have w_8 : (Cond.instanceMethod yX0_init).before args s = true := hts _ (List.mem_of_getElem? (i := 12) rfl)
  have w_9 : (Cond.fieldLink RX4 18 "WishSea$Rungs" "from" "LWishSea$Moment;").before args s = true := hts _ (List.mem_of_getElem? (i := 9) rfl)
  have w_10 : (Cond.fieldLink RX4 22 "WishSea$Rungs" "here" "LWishSea$Moment;").before args s = true := hts _ (List.mem_of_getElem? (i := 10) rfl)
  have w_11 : (Cond.fieldLink RX4 25 "WishSea$Rungs" "shore" "LWishSea$Shore;").before args s = true := hts _ (List.mem_of_getElem? (i := 11) rfl)
  have hinX4 : ∀ w ∈ u_ws RX4 TX4 6, w ∈ wsX4_init := fun _ h => List.mem_cons_of_mem _ (List.mem_append_left _ (List.mem_append_right _ h))
  have hinX0 : ∀ w ∈ u_ws RX0 TX0 4, w ∈ wsX4_init := fun _ h => List.mem_cons_of_mem _ (List.mem_append_right _ h)
  refine lv_aload_n hx hb dX4_init_0 rfl (lv_at hl 0 rfl) ?_
  refine W.objInit hx hb hown w_0 w_1 w_2 rfl (by rw [hml]; exact hl.1) rfl dX4_init_1 (Nat.le_of_ble_eq_true rfl) (Nat.le_of_ble_eq_true rfl) ?_
  refine W.eq (g2 := F0 m 4 ls []) rfl ?_
  refine lv_aload_n hx hb dX4_init_4 rfl (lv_at hl 0 rfl) ?_
  refine lv_sipush (v := 9216) hx hb dX4_init_5 (by decide +kernel) ?_
  refine k_newI hx hb w_3 hK hP hD hS hA 0 rfl 9216 rfl (Nat.le_of_ble_eq_true rfl) (Nat.le_of_ble_eq_true rfl) (Nat.le_of_ble_eq_true rfl) dX4_init_8 (fun n_1 H hP hD hS => ?_)
  refine W.widen (k := 1) (n := 9216) (Nat.le_of_ble_eq_true rfl) (Nat.le_of_ble_eq_true rfl) ?_
  have hP : va_P (dC, dI) vwCl [(p0, .inr (4, [.null, .null, .null, .null, .int 0, .int 0])), (n_1, .inl (cI, 9216, .inl (fun _ => 0)))] H := hP
  have hD : va_D A [(p0, .inr (4, [.null, .null, .null, .null, .int 0, .int 0])), (n_1, .inl (cI, 9216, .inl (fun _ => 0)))] := hD
  refine k_putF (D := (dC, dI)) (ci := 4) (v := .ref n_1) (C := RX4) (T := TX4) (N := 6) (ws' := [(p0, .inr (4, [.ref n_1, .null, .null, .null, .int 0, .int 0])), (n_1, .inl (cI, 9216, .inl (fun _ => 0)))]) hx hb hts hinX4 tyX4 tyX4_ok nmX4 hown hK hP hD hS 0 rfl rfl 0 (by decide) w_4 rfl rfl (hnm _ rfl) rfl rfl rfl (Nat.le_of_ble_eq_true rfl) rfl dX4_init_10 (fun H locs hP hD hS => ?_)
  refine lv_aload_n hx hb dX4_init_13 rfl (lv_at hl 0 rfl) ?_
  refine k_new (D := (dC, dI)) (ci := 0) (fs := [.int 0, .int 0, .int 0, .int 0]) (C := RX0) (T := TX0) (N := 4) hx hb hts hinX0 tyX0 tyX0_ok hown w_5 w_6 w_7 hK hP hD hS hA rfl (by decide +kernel) 2 9220 rfl rfl (Nat.le_of_ble_eq_true rfl) (Nat.le_of_ble_eq_true rfl) dX4_init_14 (fun n_2 => [(p0, .inr (4, [.ref n_1, .null, .null, .null, .int 0, .int 0])), (n_1, .inl (cI, 9216, .inl (fun _ => 0))), (n_2, .inr (0, [.int 0, .int 0, .int 0, .int 0]))]) (fun _ => rfl) (fun n_2 H hP hD hS => ?_)
  refine lv_dup hx hb dX4_init_17 rfl ?_
  refine k_cv (wc := []) (wr := [(p0, .inr (4, [.ref n_1, .null, .null, .null, .int 0, .int 0])), (n_1, .inl (cI, 9216, .inl (fun _ => 0))), (n_2, .inr (0, [.int 0, .int 0, .int 0, .int 0]))]) (fun hPc hDc hFc => va_runIN (As := []) (rest := [.ref n_2, .ref p0]) ⟨hx, hb, hml, hown, hts⟩ (c_X0_init_v0 l dC dI cI cJ cZ cM n_2 H.size) ⟨va_cnB 0 hts gX4_init_X0_init_n17 rfl rfl rfl (hN.1 _ (List.mem_of_getElem? (i := 4) rfl)) w_7 (by decide +kernel) ⟨(Nat.le_of_ble_eq_true rfl), (Nat.le_of_ble_eq_true rfl)⟩, rfl, w_8⟩ (k_pS hPc hDc hK hN hC hS hFc) rfl rfl hl.1 rfl (lv_room (Nat.le_of_ble_eq_true rfl)) dX4_init_18 ⟨(Nat.le_of_ble_eq_true rfl), (Nat.le_of_ble_eq_true rfl)⟩) hP hD hS hA [] [0, 1, 2] rfl rfl rfl rfl (by decide) (fun _ => rfl) 2 9220 rfl rfl (fun u_4 H locs hw hP hD hS => ?_)
  have hP : va_P (dC, dI) vwCl [(p0, .inr (4, [.ref n_1, .null, .null, .null, .int 0, .int 0])), (n_1, .inl (cI, 9216, .inl (fun _ => 0))), (n_2, .inr (0, [.int 0, .int 0, .int 0, .int 0]))] H := hP
  have hD : va_D A [(p0, .inr (4, [.ref n_1, .null, .null, .null, .int 0, .int 0])), (n_1, .inl (cI, 9216, .inl (fun _ => 0))), (n_2, .inr (0, [.int 0, .int 0, .int 0, .int 0]))] := hD
  refine k_putF (D := (dC, dI)) (ci := 4) (v := .ref n_2) (C := RX4) (T := TX4) (N := 6) (ws' := [(p0, .inr (4, [.ref n_1, .ref n_2, .null, .null, .int 0, .int 0])), (n_1, .inl (cI, 9216, .inl (fun _ => 0))), (n_2, .inr (0, [.int 0, .int 0, .int 0, .int 0]))]) hx hb hts hinX4 tyX4 tyX4_ok nmX4 hown hK hP hD hS 0 rfl rfl 1 (by decide) w_9 rfl rfl (hnm _ rfl) rfl rfl rfl (Nat.le_of_ble_eq_true rfl) rfl dX4_init_21 (fun H locs hP hD hS => ?_)
  refine lv_aload_n hx hb dX4_init_24 rfl (lv_at hl 0 rfl) ?_
  refine k_new (D := (dC, dI)) (ci := 0) (fs := [.int 0, .int 0, .int 0, .int 0]) (C := RX0) (T := TX0) (N := 4) hx hb hts hinX0 tyX0 tyX0_ok hown w_5 w_6 w_7 hK hP hD hS hA rfl (by decide +kernel) 3 9224 rfl rfl (Nat.le_of_ble_eq_true rfl) (Nat.le_of_ble_eq_true rfl) dX4_init_25 (fun n_5 => [(p0, .inr (4, [.ref n_1, .ref n_2, .null, .null, .int 0, .int 0])), (n_1, .inl (cI, 9216, .inl (fun _ => 0))), (n_2, .inr (0, [.int 0, .int 0, .int 0, .int 0])), (n_5, .inr (0, [.int 0, .int 0, .int 0, .int 0]))]) (fun _ => rfl) (fun n_5 H hP hD hS => ?_)
  refine lv_dup hx hb dX4_init_28 rfl ?_
  refine k_cv (wc := []) (wr := [(p0, .inr (4, [.ref n_1, .ref n_2, .null, .null, .int 0, .int 0])), (n_1, .inl (cI, 9216, .inl (fun _ => 0))), (n_2, .inr (0, [.int 0, .int 0, .int 0, .int 0])), (n_5, .inr (0, [.int 0, .int 0, .int 0, .int 0]))]) (fun hPc hDc hFc => va_runIN (As := []) (rest := [.ref n_5, .ref p0]) ⟨hx, hb, hml, hown, hts⟩ (c_X0_init_v0 l dC dI cI cJ cZ cM n_5 H.size) ⟨va_cnB 0 hts gX4_init_X0_init_n17 rfl rfl rfl (hN.1 _ (List.mem_of_getElem? (i := 4) rfl)) w_7 (by decide +kernel) ⟨(Nat.le_of_ble_eq_true rfl), (Nat.le_of_ble_eq_true rfl)⟩, rfl, w_8⟩ (k_pS hPc hDc hK hN hC hS hFc) rfl rfl hl.1 rfl (lv_room (Nat.le_of_ble_eq_true rfl)) dX4_init_29 ⟨(Nat.le_of_ble_eq_true rfl), (Nat.le_of_ble_eq_true rfl)⟩) hP hD hS hA [] [0, 1, 2, 3] rfl rfl rfl rfl (by decide) (fun _ => rfl) 3 9224 rfl rfl (fun u_7 H locs hw hP hD hS => ?_)
  have hP : va_P (dC, dI) vwCl [(p0, .inr (4, [.ref n_1, .ref n_2, .null, .null, .int 0, .int 0])), (n_1, .inl (cI, 9216, .inl (fun _ => 0))), (n_2, .inr (0, [.int 0, .int 0, .int 0, .int 0])), (n_5, .inr (0, [.int 0, .int 0, .int 0, .int 0]))] H := hP
  have hD : va_D A [(p0, .inr (4, [.ref n_1, .ref n_2, .null, .null, .int 0, .int 0])), (n_1, .inl (cI, 9216, .inl (fun _ => 0))), (n_2, .inr (0, [.int 0, .int 0, .int 0, .int 0])), (n_5, .inr (0, [.int 0, .int 0, .int 0, .int 0]))] := hD
  refine k_putF (D := (dC, dI)) (ci := 4) (v := .ref n_5) (C := RX4) (T := TX4) (N := 6) (ws' := [(p0, .inr (4, [.ref n_1, .ref n_2, .ref n_5, .null, .int 0, .int 0])), (n_1, .inl (cI, 9216, .inl (fun _ => 0))), (n_2, .inr (0, [.int 0, .int 0, .int 0, .int 0])), (n_5, .inr (0, [.int 0, .int 0, .int 0, .int 0]))]) hx hb hts hinX4 tyX4 tyX4_ok nmX4 hown hK hP hD hS 0 rfl rfl 2 (by decide) w_10 rfl rfl (hnm _ rfl) rfl rfl rfl (Nat.le_of_ble_eq_true rfl) rfl dX4_init_32 (fun H locs hP hD hS => ?_)
  refine lv_aload_n hx hb dX4_init_35 rfl (lv_at hl 0 rfl) ?_
  refine lv_aload_n hx hb dX4_init_36 rfl (lv_at hl 1 rfl) ?_
  refine k_put (D := (dC, dI)) (ci := 4) (v := .ref (p1 1)) (C := RX4) (T := TX4) (N := 6) (ws' := [(p0, .inr (4, [.ref n_1, .ref n_2, .ref n_5, .ref (p1 1), .int 0, .int 0])), (n_1, .inl (cI, 9216, .inl (fun _ => 0))), (n_2, .inr (0, [.int 0, .int 0, .int 0, .int 0])), (n_5, .inr (0, [.int 0, .int 0, .int 0, .int 0]))]) hx hb hts hinX4 tyX4 tyX4_ok nmX4 hown hK hP hD hS 0 rfl rfl 3 (by decide) w_11 rfl rfl rfl rfl (Nat.le_of_ble_eq_true rfl) rfl dX4_init_37 (fun H locs hP hD hS => ?_)
  exact k_rv B hP hD hS dX4_init_40 (fun k9 => match k9 with | 0 => n_1 | 1 => n_2 | 2 => n_5 | _ => 0) [0, 1, 2, 3] rfl rfl (Nat.le_of_ble_eq_true rfl) (Nat.le_of_ble_eq_true rfl) trivial
set_option maxHeartbeats 4000000 in
set_option maxRecDepth 100000 in
theorem c_X6_theRungs_v0 (l : Launch) (dC : Nat → ClassId) (dI : Nat → Nat → Nat) (cI cJ cZ cM : ClassId) (p0 : Nat) (p1 : Nat → Nat)   : k_Mr l yX6_theRungs wsX6_theRungs ({ frames := 3, cells := 4, slots := 9230, locals := 81 }) (dC, dI) vwCl (tyy cI cJ cZ cM) [(p0, .inr (6, [.ref (p1 0), .int 0, .ref (p1 1), .ref (p1 14), .ref (p1 27), .ref (p1 28), .ref (p1 29), .ref (p1 30), .ref (p1 54), .null, .int 1, .int 1, .int 999, .ref (p1 61), .ref (p1 62), .ref (p1 63), .ref (p1 60)]))] [.ref p0] 4 9230 (fun (u9 : (Nat → Nat)) => [(p0, .inr (6, [.ref (p1 0), .int 0, .ref (p1 1), .ref (p1 14), .ref (p1 27), .ref (p1 28), .ref (p1 29), .ref (p1 30), .ref (p1 54), .ref (u9 0), .int 1, .int 1, .int 999, .ref (p1 61), .ref (p1 62), .ref (p1 63), .ref (p1 60)])), ((u9 0), .inr (4, [.ref (u9 1), .ref (u9 2), .ref (u9 3), .ref (p1 1), .int 0, .int 0])), ((u9 1), .inl (cI, 9216, .inl (fun _ => 0))), ((u9 2), .inr (0, [.int 0, .int 0, .int 0, .int 0])), ((u9 3), .inr (0, [.int 0, .int 0, .int 0, .int 0]))]) (fun (r9 : Nat) (u9 : (Nat → Nat)) => r9 = (u9 0)) := by
  refine fun sz => k_enter (cc := cX6_theRungs) (maxL := 1) (ret := some (.object "WishSea$Rungs")) (Qc := fun A => va_Qr (fun _ : (Nat → Nat) => True) (fun u a t => (fun (r9 : Nat) (u9 : (Nat → Nat)) => r9 = (u9 0)) a u ∧ k_B (dC, dI) vwCl (tyy cI cJ cZ cM) A ((fun (u9 : (Nat → Nat)) => [(p0, .inr (6, [.ref (p1 0), .int 0, .ref (p1 1), .ref (p1 14), .ref (p1 27), .ref (p1 28), .ref (p1 29), .ref (p1 30), .ref (p1 54), .ref (u9 0), .int 1, .int 1, .int 999, .ref (p1 61), .ref (p1 62), .ref (p1 63), .ref (p1 60)])), ((u9 0), .inr (4, [.ref (u9 1), .ref (u9 2), .ref (u9 3), .ref (p1 1), .int 0, .int 0])), ((u9 1), .inl (cI, 9216, .inl (fun _ => 0))), ((u9 2), .inr (0, [.int 0, .int 0, .int 0, .int 0])), ((u9 3), .inr (0, [.int 0, .int 0, .int 0, .int 0]))]) u) t) A) sz (by decide +kernel) rfl (Nat.le_of_ble_eq_true rfl) (fun p e s m args below meth c A ls H locs B hP hD hS hl => ?_)
  obtain ⟨hx, hb, hml, hown, hts, hr, hlk, hnm, hK, hA, hN, hC⟩ := id B
  have hown : s.vm.findClass RX6 = some m.cls := hown
  have hl : lv_has ls 1 [(0, .ref p0)] := hl
  have w_0 : (Cond.fieldLink RX6 358 "WishSea" "rungs" "LWishSea$Rungs;").before args s = true := hts _ (List.mem_of_getElem? (i := 1) rfl)
  have w_1 : (Cond.classLink RX6 265 RX4).before args s = true := hts _ (List.mem_of_getElem? (i := 2) rfl)
  have w_2 : (Cond.instantiable RX4 6).before args s = true := hts _ (List.mem_of_getElem? (i := 3) rfl)
  have w_3 : (Cond.initialized RX4).before args s = true := hts _ (List.mem_of_getElem? (i := 4) rfl)
  have w_4 : (Cond.fieldLink RX6 16 "WishSea" "live" "LWishSea$Shore;").before args s = true := hts _ (List.mem_of_getElem? (i := 5) rfl)
  have w_5 : (Cond.methodLink RX6 382 yX4_init).before args s = true := hts _ (List.mem_of_getElem? (i := 6) rfl)
  have w_6 : (Cond.instanceMethod yX4_init).before args s = true := hts _ (List.mem_of_getElem? (i := 7) rfl)
  have hinX6 : ∀ w ∈ u_ws RX6 TX6 17, w ∈ wsX6_theRungs := fun _ h => List.mem_cons_of_mem _ (List.mem_append_left _ (List.mem_append_left _ (List.mem_append_right _ h)))
  have hinX4 : ∀ w ∈ u_ws RX4 TX4 6, w ∈ wsX6_theRungs := fun _ h => List.mem_cons_of_mem _ (List.mem_append_left _ (List.mem_append_right _ h))
  refine lv_aload_n hx hb dX6_theRungs_0 rfl (lv_at hl 0 rfl) ?_
  refine k_get (D := (dC, dI)) (ci := 6) (v := .null) (C := RX6) (T := TX6) (N := 17) hx hb hts hinX6 hown hK hP 0 rfl rfl 9 (by decide) w_0 rfl rfl dX6_theRungs_1 ?_
  refine lv_ifnonnullN hx hb dX6_theRungs_4 ?_
  refine lv_aload_n hx hb dX6_theRungs_7 rfl (lv_at hl 0 rfl) ?_
  refine k_new (D := (dC, dI)) (ci := 4) (fs := [.null, .null, .null, .null, .int 0, .int 0]) (C := RX4) (T := TX4) (N := 6) hx hb hts hinX4 tyX4 tyX4_ok hown w_1 w_2 w_3 hK hP hD hS hA rfl (by decide +kernel) 1 6 rfl rfl (Nat.le_of_ble_eq_true rfl) (Nat.le_of_ble_eq_true rfl) dX6_theRungs_8 (fun n_1 => [(p0, .inr (6, [.ref (p1 0), .int 0, .ref (p1 1), .ref (p1 14), .ref (p1 27), .ref (p1 28), .ref (p1 29), .ref (p1 30), .ref (p1 54), .null, .int 1, .int 1, .int 999, .ref (p1 61), .ref (p1 62), .ref (p1 63), .ref (p1 60)])), (n_1, .inr (4, [.null, .null, .null, .null, .int 0, .int 0]))]) (fun _ => rfl) (fun n_1 H hP hD hS => ?_)
  refine lv_dup hx hb dX6_theRungs_11 rfl ?_
  refine lv_aload_n hx hb dX6_theRungs_12 rfl (lv_at hl 0 rfl) ?_
  refine k_get (D := (dC, dI)) (ci := 6) (v := .ref (p1 1)) (C := RX6) (T := TX6) (N := 17) hx hb hts hinX6 hown hK hP 0 rfl rfl 2 (by decide) w_4 rfl rfl dX6_theRungs_13 ?_
  refine k_cv (wc := [(n_1, .inr (4, [.null, .null, .null, .null, .int 0, .int 0]))]) (wr := [(p0, .inr (6, [.ref (p1 0), .int 0, .ref (p1 1), .ref (p1 14), .ref (p1 27), .ref (p1 28), .ref (p1 29), .ref (p1 30), .ref (p1 54), .null, .int 1, .int 1, .int 999, .ref (p1 61), .ref (p1 62), .ref (p1 63), .ref (p1 60)]))]) (fun hPc hDc hFc => va_runI (As := [.ref (p1 1)]) (rest := [.ref n_1, .ref p0]) ⟨hx, hb, hml, hown, hts⟩ (c_X4_init_v0 l dC dI cI cJ cZ cM n_1 p1 H.size) (cwI 1 hts gX6_theRungs_X4_init rfl rfl rfl w_3 w_5 w_6 rfl (by decide +kernel) ⟨(Nat.le_of_ble_eq_true rfl), (Nat.le_of_ble_eq_true rfl)⟩) (k_pS hPc hDc hK hN hC hS hFc) rfl rfl hl.1 rfl (lv_room (Nat.le_of_ble_eq_true rfl)) dX6_theRungs_16 ⟨(Nat.le_of_ble_eq_true rfl), (Nat.le_of_ble_eq_true rfl)⟩) hP hD hS hA [1] [0] rfl rfl rfl rfl (by decide) (fun _ => rfl) 4 9230 rfl rfl (fun u_3 H locs hw hP hD hS => ?_)
  have hP : va_P (dC, dI) vwCl [(p0, .inr (6, [.ref (p1 0), .int 0, .ref (p1 1), .ref (p1 14), .ref (p1 27), .ref (p1 28), .ref (p1 29), .ref (p1 30), .ref (p1 54), .null, .int 1, .int 1, .int 999, .ref (p1 61), .ref (p1 62), .ref (p1 63), .ref (p1 60)])), (n_1, .inr (4, [.ref (u_3 0), .ref (u_3 1), .ref (u_3 2), .ref (p1 1), .int 0, .int 0])), ((u_3 0), .inl (cI, 9216, .inl (fun _ => 0))), ((u_3 1), .inr (0, [.int 0, .int 0, .int 0, .int 0])), ((u_3 2), .inr (0, [.int 0, .int 0, .int 0, .int 0]))] H := hP
  have hD : va_D A [(p0, .inr (6, [.ref (p1 0), .int 0, .ref (p1 1), .ref (p1 14), .ref (p1 27), .ref (p1 28), .ref (p1 29), .ref (p1 30), .ref (p1 54), .null, .int 1, .int 1, .int 999, .ref (p1 61), .ref (p1 62), .ref (p1 63), .ref (p1 60)])), (n_1, .inr (4, [.ref (u_3 0), .ref (u_3 1), .ref (u_3 2), .ref (p1 1), .int 0, .int 0])), ((u_3 0), .inl (cI, 9216, .inl (fun _ => 0))), ((u_3 1), .inr (0, [.int 0, .int 0, .int 0, .int 0])), ((u_3 2), .inr (0, [.int 0, .int 0, .int 0, .int 0]))] := hD
  refine k_put (D := (dC, dI)) (ci := 6) (v := .ref n_1) (C := RX6) (T := TX6) (N := 17) (ws' := [(p0, .inr (6, [.ref (p1 0), .int 0, .ref (p1 1), .ref (p1 14), .ref (p1 27), .ref (p1 28), .ref (p1 29), .ref (p1 30), .ref (p1 54), .ref n_1, .int 1, .int 1, .int 999, .ref (p1 61), .ref (p1 62), .ref (p1 63), .ref (p1 60)])), (n_1, .inr (4, [.ref (u_3 0), .ref (u_3 1), .ref (u_3 2), .ref (p1 1), .int 0, .int 0])), ((u_3 0), .inl (cI, 9216, .inl (fun _ => 0))), ((u_3 1), .inr (0, [.int 0, .int 0, .int 0, .int 0])), ((u_3 2), .inr (0, [.int 0, .int 0, .int 0, .int 0]))]) hx hb hts hinX6 tyX6 tyX6_ok nmX6 hown hK hP hD hS 0 rfl rfl 9 (by decide) w_0 rfl rfl rfl rfl (Nat.le_of_ble_eq_true rfl) rfl dX6_theRungs_19 (fun H locs hP hD hS => ?_)
  refine lv_aload_n hx hb dX6_theRungs_22 rfl (lv_at hl 0 rfl) ?_
  refine k_get (D := (dC, dI)) (ci := 6) (v := .ref n_1) (C := RX6) (T := TX6) (N := 17) hx hb hts hinX6 hown hK hP 0 rfl rfl 9 (by decide) w_0 rfl rfl dX6_theRungs_23 ?_
  exact k_rr B hP hD hS dX6_theRungs_26 (fun k9 => match k9 with | 0 => n_1 | 1 => (u_3 0) | 2 => (u_3 1) | 3 => (u_3 2) | _ => 0) [0, 1, 2, 3, 4] (by first | exact Or.inl ⟨_, rfl⟩ | exact Or.inr ⟨_, rfl⟩) rfl rfl (Nat.le_of_ble_eq_true rfl) (Nat.le_of_ble_eq_true rfl) rfl
set_option maxHeartbeats 4000000 in
set_option maxRecDepth 100000 in
theorem c_X0_put_v5 (l : Launch) (dC : Nat → ClassId) (dI : Nat → Nat → Nat) (cI cJ cZ cM : ClassId) (p0 : Nat → Nat)   : k_Mv l yX0_put wsX0_put ({ frames := 1, cells := 0, slots := 0, locals := 40 }) (dC, dI) vwCl (tyy cI cJ cZ cM) [((p0 2), .inr (0, [.int 0, .int 0, .int 0, .int 0]))] [.ref (p0 2), .int 0, .int 0, .int 0, .int 0] 0 0 (fun (u9 : Unit) => [((p0 2), .inr (0, [.int 0, .int 0, .int 0, .int 0]))]) (fun (u9 : Unit) => True) := by
  refine fun sz => k_enter (cc := cX0_put) (maxL := 5) (ret := none) (Qc := fun A => va_Qv (fun (u9 : Unit) => True) (fun u => k_B (dC, dI) vwCl (tyy cI cJ cZ cM) A ((fun (u9 : Unit) => [((p0 2), .inr (0, [.int 0, .int 0, .int 0, .int 0]))]) u)) A) sz (by decide +kernel) rfl (Nat.le_of_ble_eq_true rfl) (fun p e s m args below meth c A ls H locs B hP hD hS hl => ?_)
  obtain ⟨hx, hb, hml, hown, hts, hr, hlk, hnm, hK, hA, hN, hC⟩ := id B
  have hown : s.vm.findClass RX0 = some m.cls := hown
  have hl : lv_has ls 5 [(0, .ref (p0 2)), (1, .int 0), (2, .int 0), (3, .int 0), (4, .int 0)] := hl
  have w_0 : (Cond.fieldLink RX0 7 "WishSea$Moment" "things" "I").before args s = true := hts _ (List.mem_of_getElem? (i := 1) rfl)
  have w_1 : (Cond.fieldLink RX0 13 "WishSea$Moment" "sea" "I").before args s = true := hts _ (List.mem_of_getElem? (i := 2) rfl)
  have w_2 : (Cond.fieldLink RX0 16 "WishSea$Moment" "said" "I").before args s = true := hts _ (List.mem_of_getElem? (i := 3) rfl)
  have w_3 : (Cond.fieldLink RX0 19 "WishSea$Moment" "day" "I").before args s = true := hts _ (List.mem_of_getElem? (i := 4) rfl)
  have hinX0 : ∀ w ∈ u_ws RX0 TX0 4, w ∈ wsX0_put := fun _ h => List.mem_cons_of_mem _ (List.mem_append_right _ h)
  refine lv_aload_n hx hb dX0_put_0 rfl (lv_at hl 0 rfl) ?_
  refine lv_iload_n hx hb dX0_put_1 rfl (lv_at hl 1 rfl) ?_
  refine k_put (D := (dC, dI)) (ci := 0) (v := .int 0) (C := RX0) (T := TX0) (N := 4) (ws' := [((p0 2), .inr (0, [.int 0, .int 0, .int 0, .int 0]))]) hx hb hts hinX0 tyX0 tyX0_ok nmX0 hown hK hP hD hS 0 rfl rfl 0 (by decide) w_0 rfl rfl rfl rfl (Nat.le_of_ble_eq_true rfl) rfl dX0_put_2 (fun H locs hP hD hS => ?_)
  refine lv_aload_n hx hb dX0_put_5 rfl (lv_at hl 0 rfl) ?_
  refine lv_iload_n hx hb dX0_put_6 rfl (lv_at hl 2 rfl) ?_
  refine k_put (D := (dC, dI)) (ci := 0) (v := .int 0) (C := RX0) (T := TX0) (N := 4) (ws' := [((p0 2), .inr (0, [.int 0, .int 0, .int 0, .int 0]))]) hx hb hts hinX0 tyX0 tyX0_ok nmX0 hown hK hP hD hS 0 rfl rfl 1 (by decide) w_1 rfl rfl rfl rfl (Nat.le_of_ble_eq_true rfl) rfl dX0_put_7 (fun H locs hP hD hS => ?_)
  refine lv_aload_n hx hb dX0_put_10 rfl (lv_at hl 0 rfl) ?_
  refine lv_iload_n hx hb dX0_put_11 rfl (lv_at hl 3 rfl) ?_
  refine k_put (D := (dC, dI)) (ci := 0) (v := .int 0) (C := RX0) (T := TX0) (N := 4) (ws' := [((p0 2), .inr (0, [.int 0, .int 0, .int 0, .int 0]))]) hx hb hts hinX0 tyX0 tyX0_ok nmX0 hown hK hP hD hS 0 rfl rfl 2 (by decide) w_2 rfl rfl rfl rfl (Nat.le_of_ble_eq_true rfl) rfl dX0_put_12 (fun H locs hP hD hS => ?_)
  refine lv_aload_n hx hb dX0_put_15 rfl (lv_at hl 0 rfl) ?_
  refine lv_iload hx hb dX0_put_16 (lv_at hl 4 rfl) ?_
  refine k_put (D := (dC, dI)) (ci := 0) (v := .int 0) (C := RX0) (T := TX0) (N := 4) (ws' := [((p0 2), .inr (0, [.int 0, .int 0, .int 0, .int 0]))]) hx hb hts hinX0 tyX0 tyX0_ok nmX0 hown hK hP hD hS 0 rfl rfl 3 (by decide) w_3 rfl rfl rfl rfl (Nat.le_of_ble_eq_true rfl) rfl dX0_put_18 (fun H locs hP hD hS => ?_)
  exact k_rv B hP hD hS dX0_put_21 () [0] rfl rfl (Nat.le_of_ble_eq_true rfl) (Nat.le_of_ble_eq_true rfl) trivial
set_option maxHeartbeats 4000000 in
set_option maxRecDepth 100000 in
theorem c_X0_take_v2 (l : Launch) (dC : Nat → ClassId) (dI : Nat → Nat → Nat) (cI cJ cZ cM : ClassId) (p0 : Nat → Nat) (p1 : Nat → Nat)   : k_Mv l yX0_take wsX0_take ({ frames := 2, cells := 0, slots := 0, locals := 64 }) (dC, dI) vwCl (tyy cI cJ cZ cM) [((p1 28), .inr (0, [.int 0, .int 0, .int 0, .int 0])), ((p0 2), .inr (0, [.int 0, .int 0, .int 0, .int 0]))] [.ref (p0 2), .ref (p1 28)] 0 0 (fun (u9 : Unit) => [((p1 28), .inr (0, [.int 0, .int 0, .int 0, .int 0])), ((p0 2), .inr (0, [.int 0, .int 0, .int 0, .int 0]))]) (fun (u9 : Unit) => True) := by
  refine fun sz => k_enter (cc := cX0_take) (maxL := 2) (ret := none) (Qc := fun A => va_Qv (fun (u9 : Unit) => True) (fun u => k_B (dC, dI) vwCl (tyy cI cJ cZ cM) A ((fun (u9 : Unit) => [((p1 28), .inr (0, [.int 0, .int 0, .int 0, .int 0])), ((p0 2), .inr (0, [.int 0, .int 0, .int 0, .int 0]))]) u)) A) sz (by decide +kernel) rfl (Nat.le_of_ble_eq_true rfl) (fun p e s m args below meth c A ls H locs B hP hD hS hl => ?_)
  obtain ⟨hx, hb, hml, hown, hts, hr, hlk, hnm, hK, hA, hN, hC⟩ := id B
  have hown : s.vm.findClass RX0 = some m.cls := hown
  have hl : lv_has ls 2 [(0, .ref (p0 2)), (1, .ref (p1 28))] := hl
  have w_0 : (Cond.fieldLink RX0 7 "WishSea$Moment" "things" "I").before args s = true := hts _ (List.mem_of_getElem? (i := 1) rfl)
  have w_1 : (Cond.fieldLink RX0 13 "WishSea$Moment" "sea" "I").before args s = true := hts _ (List.mem_of_getElem? (i := 2) rfl)
  have w_2 : (Cond.fieldLink RX0 16 "WishSea$Moment" "said" "I").before args s = true := hts _ (List.mem_of_getElem? (i := 3) rfl)
  have w_3 : (Cond.fieldLink RX0 19 "WishSea$Moment" "day" "I").before args s = true := hts _ (List.mem_of_getElem? (i := 4) rfl)
  have hinX0 : ∀ w ∈ u_ws RX0 TX0 4, w ∈ wsX0_take := fun _ h => List.mem_cons_of_mem _ (List.mem_append_right _ h)
  refine lv_aload_n hx hb dX0_take_0 rfl (lv_at hl 0 rfl) ?_
  refine lv_aload_n hx hb dX0_take_1 rfl (lv_at hl 1 rfl) ?_
  refine k_get (D := (dC, dI)) (ci := 0) (v := .int 0) (C := RX0) (T := TX0) (N := 4) hx hb hts hinX0 hown hK hP 0 rfl rfl 0 (by decide) w_0 rfl rfl dX0_take_2 ?_
  refine lv_aload_n hx hb dX0_take_5 rfl (lv_at hl 1 rfl) ?_
  refine k_get (D := (dC, dI)) (ci := 0) (v := .int 0) (C := RX0) (T := TX0) (N := 4) hx hb hts hinX0 hown hK hP 0 rfl rfl 1 (by decide) w_1 rfl rfl dX0_take_6 ?_
  refine lv_aload_n hx hb dX0_take_9 rfl (lv_at hl 1 rfl) ?_
  refine k_get (D := (dC, dI)) (ci := 0) (v := .int 0) (C := RX0) (T := TX0) (N := 4) hx hb hts hinX0 hown hK hP 0 rfl rfl 2 (by decide) w_2 rfl rfl dX0_take_10 ?_
  refine lv_aload_n hx hb dX0_take_13 rfl (lv_at hl 1 rfl) ?_
  refine k_get (D := (dC, dI)) (ci := 0) (v := .int 0) (C := RX0) (T := TX0) (N := 4) hx hb hts hinX0 hown hK hP 0 rfl rfl 3 (by decide) w_3 rfl rfl dX0_take_14 ?_
  refine k_cv (wc := [((p0 2), .inr (0, [.int 0, .int 0, .int 0, .int 0]))]) (wr := [((p1 28), .inr (0, [.int 0, .int 0, .int 0, .int 0]))]) (fun hPc hDc hFc => va_runV (As := [.int 0, .int 0, .int 0, .int 0]) (rest := []) ⟨hx, hb, hml, hown, hts⟩ (c_X0_put_v5 l dC dI cI cJ cZ cM p0 H.size) (cwV 4 hts gX0_take_X0_put rfl rfl rfl (by decide +kernel) ⟨(Nat.le_of_ble_eq_true rfl), (Nat.le_of_ble_eq_true rfl)⟩) (k_pV hPc hDc hK hN hC hS hFc hP (q0 := 1) (ci := 0) rfl rfl) rfl rfl hl.1 rfl (lv_room (Nat.le_of_ble_eq_true rfl)) dX0_take_17 ⟨(Nat.le_of_ble_eq_true rfl), (Nat.le_of_ble_eq_true rfl)⟩) hP hD hS hA [1] [0] rfl rfl rfl rfl (by decide) (fun _ => rfl) 0 0 rfl rfl (fun u_2 H locs hw hP hD hS => ?_)
  have hP : va_P (dC, dI) vwCl [((p1 28), .inr (0, [.int 0, .int 0, .int 0, .int 0])), ((p0 2), .inr (0, [.int 0, .int 0, .int 0, .int 0]))] H := hP
  have hD : va_D A [((p1 28), .inr (0, [.int 0, .int 0, .int 0, .int 0])), ((p0 2), .inr (0, [.int 0, .int 0, .int 0, .int 0]))] := hD
  exact k_rv B hP hD hS dX0_take_20 () [0, 1] rfl rfl (Nat.le_of_ble_eq_true rfl) (Nat.le_of_ble_eq_true rfl) trivial
set_option maxHeartbeats 4000000 in
set_option maxRecDepth 100000 in
theorem c_J7_rangeCheck_23922_v0 (l : Launch) (dC : Nat → ClassId) (dI : Nat → Nat → Nat) (cI cJ cZ cM : ClassId)    : k_Mv l yJ7_rangeCheck_23922 wsJ7_rangeCheck_23922 ({ frames := 1, cells := 0, slots := 0, locals := 40 }) (dC, dI) vwCl (tyy cI cJ cZ cM) [] [.int 9216, .int 0, .int 9] 0 0 (fun (u9 : Unit) => []) (fun (u9 : Unit) => True) := by
  refine fun sz => k_enter (cc := cJ7_rangeCheck_23922) (maxL := 3) (ret := none) (Qc := fun A => va_Qv (fun (u9 : Unit) => True) (fun u => k_B (dC, dI) vwCl (tyy cI cJ cZ cM) A ((fun (u9 : Unit) => []) u)) A) sz (by decide +kernel) rfl (Nat.le_of_ble_eq_true rfl) (fun p e s m args below meth c A ls H locs B hP hD hS hl => ?_)
  obtain ⟨hx, hb, hml, hown, hts, hr, hlk, hnm, hK, hA, hN, hC⟩ := id B
  have hown : s.vm.findClass RJ7 = some m.cls := hown
  have hl : lv_has ls 3 [(0, .int 9216), (1, .int 0), (2, .int 9)] := hl
  refine lv_iload_n hx hb dJ7_rangeCheck_23922_0 rfl (lv_at hl 1 rfl) ?_
  refine lv_iload_n hx hb dJ7_rangeCheck_23922_1 rfl (lv_at hl 2 rfl) ?_
  refine lv_icmp_le (tgt := 46) hx hb dJ7_rangeCheck_23922_2 (by decide) (fun _ => ?_) (fun q9 => absurd q9 (by decide +kernel))
  refine lv_iload_n hx hb dJ7_rangeCheck_23922_46 rfl (lv_at hl 1 rfl) ?_
  refine lv_if_ge (tgt := 59) hx hb dJ7_rangeCheck_23922_47 (by decide) (fun _ => ?_) (fun q9 => absurd q9 (by decide +kernel))
  refine lv_iload_n hx hb dJ7_rangeCheck_23922_59 rfl (lv_at hl 2 rfl) ?_
  refine lv_iload_n hx hb dJ7_rangeCheck_23922_60 rfl (lv_at hl 0 rfl) ?_
  refine lv_icmp_le (tgt := 73) hx hb dJ7_rangeCheck_23922_61 (by decide) (fun _ => ?_) (fun q9 => absurd q9 (by decide +kernel))
  exact k_rv B hP hD hS dJ7_rangeCheck_23922_73 () [] rfl rfl (Nat.le_of_ble_eq_true rfl) (Nat.le_of_ble_eq_true rfl) trivial
set_option maxHeartbeats 4000000 in
set_option maxRecDepth 100000 in
theorem c_J7_fill_fda19_v0 (l : Launch) (dC : Nat → ClassId) (dI : Nat → Nat → Nat) (cI cJ cZ cM : ClassId) (p0 : Nat → Nat)   : k_Mv l yJ7_fill_fda19 wsJ7_fill_fda19 ({ frames := 2, cells := 0, slots := 0, locals := 62 }) (dC, dI) vwCl (tyy cI cJ cZ cM) [((p0 1), .inl (cI, 9216, .inl (fun _ => 0)))] [.ref (p0 1), .int 0, .int 9, .int 2147483647] 0 0 (fun (u9 : Unit) => [((p0 1), .inl (cI, 9216, .inl (fun k => if 0 ≤ k ∧ k < 9 then 2147483647 else 0)))]) (fun (u9 : Unit) => True) := by
  refine fun sz => k_enter (cc := cJ7_fill_fda19) (maxL := 5) (ret := none) (Qc := fun A => va_Qv (fun (u9 : Unit) => True) (fun u => k_B (dC, dI) vwCl (tyy cI cJ cZ cM) A ((fun (u9 : Unit) => [((p0 1), .inl (cI, 9216, .inl (fun k => if 0 ≤ k ∧ k < 9 then 2147483647 else 0)))]) u)) A) sz (by decide +kernel) rfl (Nat.le_of_ble_eq_true rfl) (fun p e s m args below meth c A ls H locs B hP hD hS hl => ?_)
  obtain ⟨hx, hb, hml, hown, hts, hr, hlk, hnm, hK, hA, hN, hC⟩ := id B
  have hown : s.vm.findClass RJ7 = some m.cls := hown
  have hl : lv_has ls 5 [(0, .ref (p0 1)), (1, .int 0), (2, .int 9), (3, .int 2147483647)] := hl
  refine lv_aload_n hx hb dJ7_fill_fda19_0 rfl (lv_at hl 0 rfl) ?_
  refine va_alen (v := 9216) hx hb hK hP 0 0 rfl rfl rfl dJ7_fill_fda19_1 ?_
  refine lv_iload_n hx hb dJ7_fill_fda19_2 rfl (lv_at hl 1 rfl) ?_
  refine lv_iload_n hx hb dJ7_fill_fda19_3 rfl (lv_at hl 2 rfl) ?_
  refine k_cv (wc := []) (wr := [((p0 1), .inl (cI, 9216, .inl (fun _ => 0)))]) (fun hPc hDc hFc => va_runS (As := [.int 9216, .int 0, .int 9]) (rest := []) ⟨hx, hb, hml, hown, hts⟩ (c_J7_rangeCheck_23922_v0 l dC dI cI cJ cZ cM H.size) (va_cwS 3 hts gJ7_fill_fda19_J7_rangeCheck_23922 rfl rfl rfl (by decide +kernel) ⟨(Nat.le_of_ble_eq_true rfl), (Nat.le_of_ble_eq_true rfl)⟩) (k_pS hPc hDc hK hN hC hS hFc) rfl rfl hl.1 rfl (lv_room (Nat.le_of_ble_eq_true rfl)) dJ7_fill_fda19_4 ⟨(Nat.le_of_ble_eq_true rfl), (Nat.le_of_ble_eq_true rfl)⟩) hP hD hS hA [] [0] rfl rfl rfl rfl (by decide) (fun _ => rfl) 0 0 rfl rfl (fun u_2 H locs hw hP hD hS => ?_)
  have hP : va_P (dC, dI) vwCl [((p0 1), .inl (cI, 9216, .inl (fun _ => 0)))] H := hP
  have hD : va_D A [((p0 1), .inl (cI, 9216, .inl (fun _ => 0)))] := hD
  refine lv_iload_n hx hb dJ7_fill_fda19_7 rfl (lv_at hl 1 rfl) ?_
  refine lv_istore (lv' := [(4, .int 0), (0, .ref (p0 1)), (1, .int 0), (2, .int 9), (3, .int 2147483647)]) hx hb dJ7_fill_fda19_8 hl (by decide) rfl (fun ls hl => ?_)
  have loop_k_3 : ∀ (n_k_3 : Nat) (kk_3 : Nat) (fk_3 : Nat → Int32) (h1k_3 : 0 ≤ kk_3) (h2k_3 : kk_3 ≤ 9) (h3k_3 : ∀ j, j < 9216 → fk_3 j = if 0 ≤ j ∧ j < kk_3 then 2147483647 else 0) (hn_k_3 : 9 - kk_3 < n_k_3) (H : Heap) (locs : List Loc) (ls : Array Slot), va_P (dC, dI) vwCl [((p0 1), .inl (cI, 9216, .inl fk_3))] H → va_D A [((p0 1), .inl (cI, 9216, .inl fk_3))] → va_S A s.heap H locs → lv_has ls 5 [(4, .int (nI kk_3)), (0, .ref (p0 1)), (1, .int 0), (2, .int 9), (3, .int 2147483647)] → W p l e ({ frames := 2, cells := 0, slots := 0, locals := 62 }) s m args below meth c H locs 0 0 (MQ below (va_Qv (fun (u9 : Unit) => True) (fun u => k_B (dC, dI) vwCl (tyy cI cJ cZ cM) A ((fun (u9 : Unit) => [((p0 1), .inl (cI, 9216, .inl (fun k => if 0 ≤ k ∧ k < 9 then 2147483647 else 0)))]) u)) A) args s 0 0 A) (F0 m 10 ls []) := by
    intro n_k_3
    induction n_k_3 with
    | zero => intro kk_3 fk_3 h1k_3 h2k_3 h3k_3 hn_k_3; exact absurd hn_k_3 (Nat.not_lt_zero _)
    | succ n_k_3 ih_k_3 =>
      intro kk_3 fk_3 h1k_3 h2k_3 h3k_3 hn_k_3 H locs ls hP hD hS hl
      refine lv_iload hx hb dJ7_fill_fda19_10 (lv_at hl 0 rfl) ?_
      refine lv_iload_n hx hb dJ7_fill_fda19_12 rfl (lv_at hl 3 rfl) ?_
      refine lv_icmp_ge (tgt := 27) hx hb dJ7_fill_fda19_13 (by decide) (fun c_4 => ?_) (fun c_4 => ?_)
      · have c_4 : 9 ≤ ((kk_3 : Nat) : Int) := k_leT (by decide +kernel) (nI_toInt (by omega)) c_4
        obtain rfl : kk_3 = 9 := by omega
        have hl : lv_has ls 5 [(4, .int 9), (0, .ref (p0 1)), (1, .int 0), (2, .int 9), (3, .int 2147483647)] := hl
        have hP : va_P (dC, dI) vwCl [((p0 1), .inl (cI, 9216, .inl fk_3))] H := hP
        have hD : va_D A [((p0 1), .inl (cI, 9216, .inl fk_3))] := hD
        have hP : va_P (dC, dI) vwCl [((p0 1), .inl (cI, 9216, .inl (fun k => if 0 ≤ k ∧ k < 9 then 2147483647 else 0)))] H := k_contI (g := (fun k => if 0 ≤ k ∧ k < 9 then 2147483647 else 0)) hP 0 rfl h3k_3 rfl
        have hD : va_D A [((p0 1), .inl (cI, 9216, .inl (fun k => if 0 ≤ k ∧ k < 9 then 2147483647 else 0)))] := k_contD hD 0 rfl rfl
        exact k_rv B hP hD hS dJ7_fill_fda19_27 () [0] rfl rfl (Nat.le_of_ble_eq_true rfl) (Nat.le_of_ble_eq_true rfl) trivial
      · have c_4 : ((kk_3 : Nat) : Int) < 9 := k_leF (by decide +kernel) (nI_toInt (by omega)) c_4
        refine lv_aload_n hx hb dJ7_fill_fda19_16 rfl (lv_at hl 1 rfl) ?_
        refine lv_iload hx hb dJ7_fill_fda19_17 (lv_at hl 0 rfl) ?_
        refine lv_iload_n hx hb dJ7_fill_fda19_19 rfl (lv_at hl 4 rfl) ?_
        refine k_iast (g := (upd fk_3 kk_3 2147483647)) (ws' := [((p0 1), .inl (cI, 9216, .inl (upd fk_3 kk_3 2147483647)))]) hx hb hK hP hD hS 0 0 kk_3 rfl rfl rfl (by omega) (Nat.le_of_ble_eq_true rfl) rfl rfl dJ7_fill_fda19_20 (fun H locs hP hD hS => ?_)
        refine lv_iinc (v := (nI (kk_3 + 1))) (lv' := [(4, .int (nI (kk_3 + 1))), (0, .ref (p0 1)), (1, .int 0), (2, .int 9), (3, .int 2147483647)]) hx hb dJ7_fill_fda19_21 hl (k := 0) rfl (nI_1 _) (by decide) rfl (fun ls hl => ?_)
        refine lv_goto (tgt := 10) hx hb dJ7_fill_fda19_24 (by decide) ?_
        exact ih_k_3 (kk_3 + 1) (upd fk_3 kk_3 2147483647) (by omega) (by omega) (k_fillR h3k_3 (by omega)) (by omega) H locs ls (hP.sub [0] rfl) (hD.sub [0] (by decide) rfl) hS (lv_sub hl [0, 1, 2, 3, 4] rfl)
  exact loop_k_3 _ 0 (fun _ => 0) (Nat.le_refl _) (Nat.le_of_ble_eq_true rfl) k_fillR0 (Nat.lt_succ_self _) H locs ls hP hD hS hl
set_option maxHeartbeats 4000000 in
set_option maxRecDepth 100000 in
theorem c_X4_setOf_v0 (l : Launch) (dC : Nat → ClassId) (dI : Nat → Nat → Nat) (cI cJ cZ cM : ClassId) (p0 : Nat → Nat) (p1 : Nat → Nat)   : k_Mi l yX4_setOf wsX4_setOf ({ frames := 1, cells := 0, slots := 0, locals := 40 }) (dC, dI) vwCl (tyy cI cJ cZ cM) [((p0 0), .inr (4, [.ref (p0 1), .ref (p0 2), .ref (p0 3), .ref (p1 1), .int 1, .int 1]))] [.ref (p0 0), .int 0] 0 0 (fun (u9 : Unit) => [((p0 0), .inr (4, [.ref (p0 1), .ref (p0 2), .ref (p0 3), .ref (p1 1), .int 1, .int 1]))]) (fun (r9 : Int32) (u9 : Unit) => r9 = 0) := by
  refine fun sz => k_enter (cc := cX4_setOf) (maxL := 2) (ret := some (.int)) (Qc := fun A => va_Qi (fun (r9 : Int32) (u9 : Unit) => r9 = 0) (fun u => k_B (dC, dI) vwCl (tyy cI cJ cZ cM) A ((fun (u9 : Unit) => [((p0 0), .inr (4, [.ref (p0 1), .ref (p0 2), .ref (p0 3), .ref (p1 1), .int 1, .int 1]))]) u)) A) sz (by decide +kernel) rfl (Nat.le_of_ble_eq_true rfl) (fun p e s m args below meth c A ls H locs B hP hD hS hl => ?_)
  obtain ⟨hx, hb, hml, hown, hts, hr, hlk, hnm, hK, hA, hN, hC⟩ := id B
  have hown : s.vm.findClass RX4 = some m.cls := hown
  have hl : lv_has ls 2 [(0, .ref (p0 0)), (1, .int 0)] := hl
  have w_0 : (Cond.fieldLink RX4 47 "WishSea$Rungs" "sets" "I").before args s = true := hts _ (List.mem_of_getElem? (i := 1) rfl)
  have hinX4 : ∀ w ∈ u_ws RX4 TX4 6, w ∈ wsX4_setOf := fun _ h => List.mem_cons_of_mem _ (List.mem_append_right _ h)
  refine lv_aload_n hx hb dX4_setOf_0 rfl (lv_at hl 0 rfl) ?_
  refine k_get (D := (dC, dI)) (ci := 4) (v := .int 1) (C := RX4) (T := TX4) (N := 6) hx hb hts hinX4 hown hK hP 0 rfl rfl 4 (by decide) w_0 rfl rfl dX4_setOf_1 ?_
  refine lv_if_le (tgt := 16) hx hb dX4_setOf_4 (by decide) (fun q9 => absurd q9 (by decide +kernel)) (fun _ => ?_)
  refine lv_iload_n hx hb dX4_setOf_7 rfl (lv_at hl 1 rfl) ?_
  refine lv_aload_n hx hb dX4_setOf_8 rfl (lv_at hl 0 rfl) ?_
  refine k_get (D := (dC, dI)) (ci := 4) (v := .int 1) (C := RX4) (T := TX4) (N := 6) hx hb hts hinX4 hown hK hP 0 rfl rfl 4 (by decide) w_0 rfl rfl dX4_setOf_9 ?_
  refine lv_irem hx hb dX4_setOf_12 (by decide +kernel) ?_
  refine k_int (v := 0) (by decide +kernel) ?_
  refine lv_goto (tgt := 17) hx hb dX4_setOf_13 (by decide) ?_
  exact k_ri B hP hD hS dX4_setOf_17 () [0] rfl rfl rfl (Nat.le_of_ble_eq_true rfl) (Nat.le_of_ble_eq_true rfl) rfl
set_option maxHeartbeats 4000000 in
set_option maxRecDepth 100000 in
theorem c_X4_seaOf_v0 (l : Launch) (dC : Nat → ClassId) (dI : Nat → Nat → Nat) (cI cJ cZ cM : ClassId) (p0 : Nat → Nat) (p1 : Nat → Nat)   : k_Mi l yX4_seaOf wsX4_seaOf ({ frames := 1, cells := 0, slots := 0, locals := 40 }) (dC, dI) vwCl (tyy cI cJ cZ cM) [((p0 0), .inr (4, [.ref (p0 1), .ref (p0 2), .ref (p0 3), .ref (p1 1), .int 1, .int 1])), ((p0 1), .inl (cI, 9216, .inl (upd (fun k => if 0 ≤ k ∧ k < 9 then 2147483647 else 0) 0 0)))] [.ref (p0 0), .int 0] 0 0 (fun (u9 : Unit) => [((p0 0), .inr (4, [.ref (p0 1), .ref (p0 2), .ref (p0 3), .ref (p1 1), .int 1, .int 1])), ((p0 1), .inl (cI, 9216, .inl (upd (fun k => if 0 ≤ k ∧ k < 9 then 2147483647 else 0) 0 0)))]) (fun (r9 : Int32) (u9 : Unit) => r9 = 0) := by
  refine fun sz => k_enter (cc := cX4_seaOf) (maxL := 2) (ret := some (.int)) (Qc := fun A => va_Qi (fun (r9 : Int32) (u9 : Unit) => r9 = 0) (fun u => k_B (dC, dI) vwCl (tyy cI cJ cZ cM) A ((fun (u9 : Unit) => [((p0 0), .inr (4, [.ref (p0 1), .ref (p0 2), .ref (p0 3), .ref (p1 1), .int 1, .int 1])), ((p0 1), .inl (cI, 9216, .inl (upd (fun k => if 0 ≤ k ∧ k < 9 then 2147483647 else 0) 0 0)))]) u)) A) sz (by decide +kernel) rfl (Nat.le_of_ble_eq_true rfl) (fun p e s m args below meth c A ls H locs B hP hD hS hl => ?_)
  obtain ⟨hx, hb, hml, hown, hts, hr, hlk, hnm, hK, hA, hN, hC⟩ := id B
  have hown : s.vm.findClass RX4 = some m.cls := hown
  have hl : lv_has ls 2 [(0, .ref (p0 0)), (1, .int 0)] := hl
  have w_0 : (Cond.fieldLink RX4 9 "WishSea$Rungs" "table" "[I").before args s = true := hts _ (List.mem_of_getElem? (i := 1) rfl)
  have hinX4 : ∀ w ∈ u_ws RX4 TX4 6, w ∈ wsX4_seaOf := fun _ h => List.mem_cons_of_mem _ (List.mem_append_right _ h)
  refine lv_iload_n hx hb dX4_seaOf_0 rfl (lv_at hl 1 rfl) ?_
  refine lv_if_lt (tgt := 25) hx hb dX4_seaOf_1 (by decide) (fun q9 => absurd q9 (by decide +kernel)) (fun _ => ?_)
  refine lv_iload_n hx hb dX4_seaOf_4 rfl (lv_at hl 1 rfl) ?_
  refine lv_aload_n hx hb dX4_seaOf_5 rfl (lv_at hl 0 rfl) ?_
  refine k_get (D := (dC, dI)) (ci := 4) (v := .ref (p0 1)) (C := RX4) (T := TX4) (N := 6) hx hb hts hinX4 hown hK hP 0 rfl rfl 0 (by decide) w_0 rfl rfl dX4_seaOf_6 ?_
  refine va_alen (v := 9216) hx hb hK hP 1 0 rfl rfl rfl dX4_seaOf_9 ?_
  refine lv_icmp_ge (tgt := 25) hx hb dX4_seaOf_10 (by decide) (fun q9 => absurd q9 (by decide +kernel)) (fun _ => ?_)
  refine lv_aload_n hx hb dX4_seaOf_13 rfl (lv_at hl 0 rfl) ?_
  refine k_get (D := (dC, dI)) (ci := 4) (v := .ref (p0 1)) (C := RX4) (T := TX4) (N := 6) hx hb hts hinX4 hown hK hP 0 rfl rfl 0 (by decide) w_0 rfl rfl dX4_seaOf_14 ?_
  refine lv_iload_n hx hb dX4_seaOf_17 rfl (lv_at hl 1 rfl) ?_
  refine k_iald (v := 0) hx hb hK hP 1 0 0 rfl rfl rfl (Nat.le_of_ble_eq_true rfl) (Nat.le_of_ble_eq_true rfl) rfl dX4_seaOf_18 ?_
  refine lv_bipush (v := 14) hx hb dX4_seaOf_19 (by decide +kernel) ?_
  refine lv_ishr hx hb dX4_seaOf_21 ?_
  refine k_int (v := 0) (by decide +kernel) ?_
  refine lv_goto (tgt := 26) hx hb dX4_seaOf_22 (by decide) ?_
  exact k_ri B hP hD hS dX4_seaOf_26 () [0, 1] rfl rfl rfl (Nat.le_of_ble_eq_true rfl) (Nat.le_of_ble_eq_true rfl) rfl
set_option maxHeartbeats 4000000 in
set_option maxRecDepth 100000 in
theorem c_X4_wishesOf_v0 (l : Launch) (dC : Nat → ClassId) (dI : Nat → Nat → Nat) (cI cJ cZ cM : ClassId) (p0 : Nat → Nat) (p1 : Nat → Nat)   : k_Mi l yX4_wishesOf wsX4_wishesOf ({ frames := 1, cells := 0, slots := 0, locals := 40 }) (dC, dI) vwCl (tyy cI cJ cZ cM) [((p0 0), .inr (4, [.ref (p0 1), .ref (p0 2), .ref (p0 3), .ref (p1 1), .int 1, .int 1]))] [.ref (p0 0), .int 0] 0 0 (fun (u9 : Unit) => [((p0 0), .inr (4, [.ref (p0 1), .ref (p0 2), .ref (p0 3), .ref (p1 1), .int 1, .int 1]))]) (fun (r9 : Int32) (u9 : Unit) => r9 = 0) := by
  refine fun sz => k_enter (cc := cX4_wishesOf) (maxL := 2) (ret := some (.int)) (Qc := fun A => va_Qi (fun (r9 : Int32) (u9 : Unit) => r9 = 0) (fun u => k_B (dC, dI) vwCl (tyy cI cJ cZ cM) A ((fun (u9 : Unit) => [((p0 0), .inr (4, [.ref (p0 1), .ref (p0 2), .ref (p0 3), .ref (p1 1), .int 1, .int 1]))]) u)) A) sz (by decide +kernel) rfl (Nat.le_of_ble_eq_true rfl) (fun p e s m args below meth c A ls H locs B hP hD hS hl => ?_)
  obtain ⟨hx, hb, hml, hown, hts, hr, hlk, hnm, hK, hA, hN, hC⟩ := id B
  have hown : s.vm.findClass RX4 = some m.cls := hown
  have hl : lv_has ls 2 [(0, .ref (p0 0)), (1, .int 0)] := hl
  have w_0 : (Cond.fieldLink RX4 47 "WishSea$Rungs" "sets" "I").before args s = true := hts _ (List.mem_of_getElem? (i := 1) rfl)
  have hinX4 : ∀ w ∈ u_ws RX4 TX4 6, w ∈ wsX4_wishesOf := fun _ h => List.mem_cons_of_mem _ (List.mem_append_right _ h)
  refine lv_aload_n hx hb dX4_wishesOf_0 rfl (lv_at hl 0 rfl) ?_
  refine k_get (D := (dC, dI)) (ci := 4) (v := .int 1) (C := RX4) (T := TX4) (N := 6) hx hb hts hinX4 hown hK hP 0 rfl rfl 4 (by decide) w_0 rfl rfl dX4_wishesOf_1 ?_
  refine lv_if_le (tgt := 16) hx hb dX4_wishesOf_4 (by decide) (fun q9 => absurd q9 (by decide +kernel)) (fun _ => ?_)
  refine lv_iload_n hx hb dX4_wishesOf_7 rfl (lv_at hl 1 rfl) ?_
  refine lv_aload_n hx hb dX4_wishesOf_8 rfl (lv_at hl 0 rfl) ?_
  refine k_get (D := (dC, dI)) (ci := 4) (v := .int 1) (C := RX4) (T := TX4) (N := 6) hx hb hts hinX4 hown hK hP 0 rfl rfl 4 (by decide) w_0 rfl rfl dX4_wishesOf_9 ?_
  refine lv_idiv hx hb dX4_wishesOf_12 (by decide +kernel) ?_
  refine k_int (v := 0) (by decide +kernel) ?_
  refine lv_goto (tgt := 17) hx hb dX4_wishesOf_13 (by decide) ?_
  exact k_ri B hP hD hS dX4_wishesOf_17 () [0] rfl rfl rfl (Nat.le_of_ble_eq_true rfl) (Nat.le_of_ble_eq_true rfl) rfl
set_option maxHeartbeats 4000000 in
set_option maxRecDepth 100000 in
theorem c_X0_put_v6 (l : Launch) (dC : Nat → ClassId) (dI : Nat → Nat → Nat) (cI cJ cZ cM : ClassId) (p0 : Nat → Nat)   : k_Mv l yX0_put wsX0_put ({ frames := 1, cells := 0, slots := 0, locals := 40 }) (dC, dI) vwCl (tyy cI cJ cZ cM) [((p0 3), .inr (0, [.int 0, .int 0, .int 0, .int 0]))] [.ref (p0 3), .int 0, .int 0, .int 0, .int 0] 0 0 (fun (u9 : Unit) => [((p0 3), .inr (0, [.int 0, .int 0, .int 0, .int 0]))]) (fun (u9 : Unit) => True) := by
  refine fun sz => k_enter (cc := cX0_put) (maxL := 5) (ret := none) (Qc := fun A => va_Qv (fun (u9 : Unit) => True) (fun u => k_B (dC, dI) vwCl (tyy cI cJ cZ cM) A ((fun (u9 : Unit) => [((p0 3), .inr (0, [.int 0, .int 0, .int 0, .int 0]))]) u)) A) sz (by decide +kernel) rfl (Nat.le_of_ble_eq_true rfl) (fun p e s m args below meth c A ls H locs B hP hD hS hl => ?_)
  obtain ⟨hx, hb, hml, hown, hts, hr, hlk, hnm, hK, hA, hN, hC⟩ := id B
  have hown : s.vm.findClass RX0 = some m.cls := hown
  have hl : lv_has ls 5 [(0, .ref (p0 3)), (1, .int 0), (2, .int 0), (3, .int 0), (4, .int 0)] := hl
  have w_0 : (Cond.fieldLink RX0 7 "WishSea$Moment" "things" "I").before args s = true := hts _ (List.mem_of_getElem? (i := 1) rfl)
  have w_1 : (Cond.fieldLink RX0 13 "WishSea$Moment" "sea" "I").before args s = true := hts _ (List.mem_of_getElem? (i := 2) rfl)
  have w_2 : (Cond.fieldLink RX0 16 "WishSea$Moment" "said" "I").before args s = true := hts _ (List.mem_of_getElem? (i := 3) rfl)
  have w_3 : (Cond.fieldLink RX0 19 "WishSea$Moment" "day" "I").before args s = true := hts _ (List.mem_of_getElem? (i := 4) rfl)
  have hinX0 : ∀ w ∈ u_ws RX0 TX0 4, w ∈ wsX0_put := fun _ h => List.mem_cons_of_mem _ (List.mem_append_right _ h)
  refine lv_aload_n hx hb dX0_put_0 rfl (lv_at hl 0 rfl) ?_
  refine lv_iload_n hx hb dX0_put_1 rfl (lv_at hl 1 rfl) ?_
  refine k_put (D := (dC, dI)) (ci := 0) (v := .int 0) (C := RX0) (T := TX0) (N := 4) (ws' := [((p0 3), .inr (0, [.int 0, .int 0, .int 0, .int 0]))]) hx hb hts hinX0 tyX0 tyX0_ok nmX0 hown hK hP hD hS 0 rfl rfl 0 (by decide) w_0 rfl rfl rfl rfl (Nat.le_of_ble_eq_true rfl) rfl dX0_put_2 (fun H locs hP hD hS => ?_)
  refine lv_aload_n hx hb dX0_put_5 rfl (lv_at hl 0 rfl) ?_
  refine lv_iload_n hx hb dX0_put_6 rfl (lv_at hl 2 rfl) ?_
  refine k_put (D := (dC, dI)) (ci := 0) (v := .int 0) (C := RX0) (T := TX0) (N := 4) (ws' := [((p0 3), .inr (0, [.int 0, .int 0, .int 0, .int 0]))]) hx hb hts hinX0 tyX0 tyX0_ok nmX0 hown hK hP hD hS 0 rfl rfl 1 (by decide) w_1 rfl rfl rfl rfl (Nat.le_of_ble_eq_true rfl) rfl dX0_put_7 (fun H locs hP hD hS => ?_)
  refine lv_aload_n hx hb dX0_put_10 rfl (lv_at hl 0 rfl) ?_
  refine lv_iload_n hx hb dX0_put_11 rfl (lv_at hl 3 rfl) ?_
  refine k_put (D := (dC, dI)) (ci := 0) (v := .int 0) (C := RX0) (T := TX0) (N := 4) (ws' := [((p0 3), .inr (0, [.int 0, .int 0, .int 0, .int 0]))]) hx hb hts hinX0 tyX0 tyX0_ok nmX0 hown hK hP hD hS 0 rfl rfl 2 (by decide) w_2 rfl rfl rfl rfl (Nat.le_of_ble_eq_true rfl) rfl dX0_put_12 (fun H locs hP hD hS => ?_)
  refine lv_aload_n hx hb dX0_put_15 rfl (lv_at hl 0 rfl) ?_
  refine lv_iload hx hb dX0_put_16 (lv_at hl 4 rfl) ?_
  refine k_put (D := (dC, dI)) (ci := 0) (v := .int 0) (C := RX0) (T := TX0) (N := 4) (ws' := [((p0 3), .inr (0, [.int 0, .int 0, .int 0, .int 0]))]) hx hb hts hinX0 tyX0 tyX0_ok nmX0 hown hK hP hD hS 0 rfl rfl 3 (by decide) w_3 rfl rfl rfl rfl (Nat.le_of_ble_eq_true rfl) rfl dX0_put_18 (fun H locs hP hD hS => ?_)
  exact k_rv B hP hD hS dX0_put_21 () [0] rfl rfl (Nat.le_of_ble_eq_true rfl) (Nat.le_of_ble_eq_true rfl) trivial
set_option maxHeartbeats 4000000 in
set_option maxRecDepth 100000 in
theorem c_X4_stand_v0 (l : Launch) (dC : Nat → ClassId) (dI : Nat → Nat → Nat) (cI cJ cZ cM : ClassId) (p0 : Nat → Nat) (p1 : Nat → Nat)   : k_Mv l yX4_stand wsX4_stand ({ frames := 2, cells := 0, slots := 0, locals := 64 }) (dC, dI) vwCl (tyy cI cJ cZ cM) [((p0 0), .inr (4, [.ref (p0 1), .ref (p0 2), .ref (p0 3), .ref (p1 1), .int 1, .int 1])), ((p0 1), .inl (cI, 9216, .inl (upd (fun k => if 0 ≤ k ∧ k < 9 then 2147483647 else 0) 0 0))), ((p0 2), .inr (0, [.int 0, .int 0, .int 0, .int 0])), ((p0 3), .inr (0, [.int 0, .int 0, .int 0, .int 0]))] [.ref (p0 0), .int 0] 0 0 (fun (u9 : Unit) => [((p0 0), .inr (4, [.ref (p0 1), .ref (p0 2), .ref (p0 3), .ref (p1 1), .int 1, .int 1])), ((p0 1), .inl (cI, 9216, .inl (upd (fun k => if 0 ≤ k ∧ k < 9 then 2147483647 else 0) 0 0))), ((p0 2), .inr (0, [.int 0, .int 0, .int 0, .int 0])), ((p0 3), .inr (0, [.int 0, .int 0, .int 0, .int 0]))]) (fun (u9 : Unit) => True) := by
  refine fun sz => k_enter (cc := cX4_stand) (maxL := 2) (ret := none) (Qc := fun A => va_Qv (fun (u9 : Unit) => True) (fun u => k_B (dC, dI) vwCl (tyy cI cJ cZ cM) A ((fun (u9 : Unit) => [((p0 0), .inr (4, [.ref (p0 1), .ref (p0 2), .ref (p0 3), .ref (p1 1), .int 1, .int 1])), ((p0 1), .inl (cI, 9216, .inl (upd (fun k => if 0 ≤ k ∧ k < 9 then 2147483647 else 0) 0 0))), ((p0 2), .inr (0, [.int 0, .int 0, .int 0, .int 0])), ((p0 3), .inr (0, [.int 0, .int 0, .int 0, .int 0]))]) u)) A) sz (by decide +kernel) rfl (Nat.le_of_ble_eq_true rfl) (fun p e s m args below meth c A ls H locs B hP hD hS hl => ?_)
  obtain ⟨hx, hb, hml, hown, hts, hr, hlk, hnm, hK, hA, hN, hC⟩ := id B
  have hown : s.vm.findClass RX4 = some m.cls := hown
  have hl : lv_has ls 2 [(0, .ref (p0 0)), (1, .int 0)] := hl
  have w_0 : (Cond.fieldLink RX4 22 "WishSea$Rungs" "here" "LWishSea$Moment;").before args s = true := hts _ (List.mem_of_getElem? (i := 1) rfl)
  have w_1 : (Cond.fieldLink RX4 18 "WishSea$Rungs" "from" "LWishSea$Moment;").before args s = true := hts _ (List.mem_of_getElem? (i := 2) rfl)
  have w_2 : (Cond.fieldLink RX4 72 "WishSea$Moment" "said" "I").before args s = true := hts _ (List.mem_of_getElem? (i := 3) rfl)
  have w_3 : (Cond.fieldLink RX4 78 "WishSea$Moment" "day" "I").before args s = true := hts _ (List.mem_of_getElem? (i := 4) rfl)
  have hinX4 : ∀ w ∈ u_ws RX4 TX4 6, w ∈ wsX4_stand := fun _ h => List.mem_cons_of_mem _ (List.mem_append_left _ (List.mem_append_right _ h))
  have hinX0 : ∀ w ∈ u_ws RX0 TX0 4, w ∈ wsX4_stand := fun _ h => List.mem_cons_of_mem _ (List.mem_append_right _ h)
  refine lv_aload_n hx hb dX4_stand_0 rfl (lv_at hl 0 rfl) ?_
  refine k_get (D := (dC, dI)) (ci := 4) (v := .ref (p0 3)) (C := RX4) (T := TX4) (N := 6) hx hb hts hinX4 hown hK hP 0 rfl rfl 2 (by decide) w_0 rfl rfl dX4_stand_1 ?_
  refine lv_aload_n hx hb dX4_stand_4 rfl (lv_at hl 0 rfl) ?_
  refine lv_iload_n hx hb dX4_stand_5 rfl (lv_at hl 1 rfl) ?_
  refine k_ci (wc := [((p0 0), .inr (4, [.ref (p0 1), .ref (p0 2), .ref (p0 3), .ref (p1 1), .int 1, .int 1]))]) (wr := [((p0 1), .inl (cI, 9216, .inl (upd (fun k => if 0 ≤ k ∧ k < 9 then 2147483647 else 0) 0 0))), ((p0 2), .inr (0, [.int 0, .int 0, .int 0, .int 0])), ((p0 3), .inr (0, [.int 0, .int 0, .int 0, .int 0]))]) (fun hPc hDc hFc => va_runV (As := [.int 0]) (rest := [.ref (p0 3)]) ⟨hx, hb, hml, hown, hts⟩ (c_X4_setOf_v0 l dC dI cI cJ cZ cM p0 p1 H.size) (cwV 1 hts gX4_stand_X4_setOf rfl rfl rfl (by decide +kernel) ⟨(Nat.le_of_ble_eq_true rfl), (Nat.le_of_ble_eq_true rfl)⟩) (k_pV hPc hDc hK hN hC hS hFc hP (q0 := 0) (ci := 4) rfl rfl) rfl rfl hl.1 rfl (lv_room (Nat.le_of_ble_eq_true rfl)) dX4_stand_6 ⟨(Nat.le_of_ble_eq_true rfl), (Nat.le_of_ble_eq_true rfl)⟩) hP hD hS hA [0] [1, 2, 3] rfl rfl rfl rfl (by decide) (fun _ => rfl) 0 0 rfl rfl (fun r_1 u_2 H locs hw hP hD hS => ?_)
  obtain rfl : r_1 = 0 := hw
  have hP : va_P (dC, dI) vwCl [((p0 1), .inl (cI, 9216, .inl (upd (fun k => if 0 ≤ k ∧ k < 9 then 2147483647 else 0) 0 0))), ((p0 2), .inr (0, [.int 0, .int 0, .int 0, .int 0])), ((p0 3), .inr (0, [.int 0, .int 0, .int 0, .int 0])), ((p0 0), .inr (4, [.ref (p0 1), .ref (p0 2), .ref (p0 3), .ref (p1 1), .int 1, .int 1]))] H := hP
  have hD : va_D A [((p0 1), .inl (cI, 9216, .inl (upd (fun k => if 0 ≤ k ∧ k < 9 then 2147483647 else 0) 0 0))), ((p0 2), .inr (0, [.int 0, .int 0, .int 0, .int 0])), ((p0 3), .inr (0, [.int 0, .int 0, .int 0, .int 0])), ((p0 0), .inr (4, [.ref (p0 1), .ref (p0 2), .ref (p0 3), .ref (p1 1), .int 1, .int 1]))] := hD
  refine lv_aload_n hx hb dX4_stand_9 rfl (lv_at hl 0 rfl) ?_
  refine lv_iload_n hx hb dX4_stand_10 rfl (lv_at hl 1 rfl) ?_
  refine k_ci (wc := [((p0 0), .inr (4, [.ref (p0 1), .ref (p0 2), .ref (p0 3), .ref (p1 1), .int 1, .int 1])), ((p0 1), .inl (cI, 9216, .inl (upd (fun k => if 0 ≤ k ∧ k < 9 then 2147483647 else 0) 0 0)))]) (wr := [((p0 2), .inr (0, [.int 0, .int 0, .int 0, .int 0])), ((p0 3), .inr (0, [.int 0, .int 0, .int 0, .int 0]))]) (fun hPc hDc hFc => va_runV (As := [.int 0]) (rest := [.int 0, .ref (p0 3)]) ⟨hx, hb, hml, hown, hts⟩ (c_X4_seaOf_v0 l dC dI cI cJ cZ cM p0 p1 H.size) (cwV 1 hts gX4_stand_X4_seaOf rfl rfl rfl (by decide +kernel) ⟨(Nat.le_of_ble_eq_true rfl), (Nat.le_of_ble_eq_true rfl)⟩) (k_pV hPc hDc hK hN hC hS hFc hP (q0 := 3) (ci := 4) rfl rfl) rfl rfl hl.1 rfl (lv_room (Nat.le_of_ble_eq_true rfl)) dX4_stand_11 ⟨(Nat.le_of_ble_eq_true rfl), (Nat.le_of_ble_eq_true rfl)⟩) hP hD hS hA [3, 0] [1, 2] rfl rfl rfl rfl (by decide) (fun _ => rfl) 0 0 rfl rfl (fun r_3 u_4 H locs hw hP hD hS => ?_)
  obtain rfl : r_3 = 0 := hw
  have hP : va_P (dC, dI) vwCl [((p0 2), .inr (0, [.int 0, .int 0, .int 0, .int 0])), ((p0 3), .inr (0, [.int 0, .int 0, .int 0, .int 0])), ((p0 0), .inr (4, [.ref (p0 1), .ref (p0 2), .ref (p0 3), .ref (p1 1), .int 1, .int 1])), ((p0 1), .inl (cI, 9216, .inl (upd (fun k => if 0 ≤ k ∧ k < 9 then 2147483647 else 0) 0 0)))] H := hP
  have hD : va_D A [((p0 2), .inr (0, [.int 0, .int 0, .int 0, .int 0])), ((p0 3), .inr (0, [.int 0, .int 0, .int 0, .int 0])), ((p0 0), .inr (4, [.ref (p0 1), .ref (p0 2), .ref (p0 3), .ref (p1 1), .int 1, .int 1])), ((p0 1), .inl (cI, 9216, .inl (upd (fun k => if 0 ≤ k ∧ k < 9 then 2147483647 else 0) 0 0)))] := hD
  refine lv_aload_n hx hb dX4_stand_14 rfl (lv_at hl 0 rfl) ?_
  refine k_get (D := (dC, dI)) (ci := 4) (v := .ref (p0 2)) (C := RX4) (T := TX4) (N := 6) hx hb hts hinX4 hown hK hP 2 rfl rfl 1 (by decide) w_1 rfl rfl dX4_stand_15 ?_
  refine k_get (D := (dC, dI)) (ci := 0) (v := .int 0) (C := RX0) (T := TX0) (N := 4) hx hb hts hinX0 hown hK hP 0 rfl rfl 2 (by decide) w_2 rfl rfl dX4_stand_18 ?_
  refine lv_aload_n hx hb dX4_stand_21 rfl (lv_at hl 0 rfl) ?_
  refine lv_iload_n hx hb dX4_stand_22 rfl (lv_at hl 1 rfl) ?_
  refine k_ci (wc := [((p0 0), .inr (4, [.ref (p0 1), .ref (p0 2), .ref (p0 3), .ref (p1 1), .int 1, .int 1]))]) (wr := [((p0 2), .inr (0, [.int 0, .int 0, .int 0, .int 0])), ((p0 3), .inr (0, [.int 0, .int 0, .int 0, .int 0])), ((p0 1), .inl (cI, 9216, .inl (upd (fun k => if 0 ≤ k ∧ k < 9 then 2147483647 else 0) 0 0)))]) (fun hPc hDc hFc => va_runV (As := [.int 0]) (rest := [.int 0, .int 0, .int 0, .ref (p0 3)]) ⟨hx, hb, hml, hown, hts⟩ (c_X4_wishesOf_v0 l dC dI cI cJ cZ cM p0 p1 H.size) (cwV 1 hts gX4_stand_X4_wishesOf rfl rfl rfl (by decide +kernel) ⟨(Nat.le_of_ble_eq_true rfl), (Nat.le_of_ble_eq_true rfl)⟩) (k_pV hPc hDc hK hN hC hS hFc hP (q0 := 2) (ci := 4) rfl rfl) rfl rfl hl.1 rfl (lv_room (Nat.le_of_ble_eq_true rfl)) dX4_stand_23 ⟨(Nat.le_of_ble_eq_true rfl), (Nat.le_of_ble_eq_true rfl)⟩) hP hD hS hA [2] [0, 1, 3] rfl rfl rfl rfl (by decide) (fun _ => rfl) 0 0 rfl rfl (fun r_5 u_6 H locs hw hP hD hS => ?_)
  obtain rfl : r_5 = 0 := hw
  have hP : va_P (dC, dI) vwCl [((p0 2), .inr (0, [.int 0, .int 0, .int 0, .int 0])), ((p0 3), .inr (0, [.int 0, .int 0, .int 0, .int 0])), ((p0 1), .inl (cI, 9216, .inl (upd (fun k => if 0 ≤ k ∧ k < 9 then 2147483647 else 0) 0 0))), ((p0 0), .inr (4, [.ref (p0 1), .ref (p0 2), .ref (p0 3), .ref (p1 1), .int 1, .int 1]))] H := hP
  have hD : va_D A [((p0 2), .inr (0, [.int 0, .int 0, .int 0, .int 0])), ((p0 3), .inr (0, [.int 0, .int 0, .int 0, .int 0])), ((p0 1), .inl (cI, 9216, .inl (upd (fun k => if 0 ≤ k ∧ k < 9 then 2147483647 else 0) 0 0))), ((p0 0), .inr (4, [.ref (p0 1), .ref (p0 2), .ref (p0 3), .ref (p1 1), .int 1, .int 1]))] := hD
  refine lv_iadd hx hb dX4_stand_26 ?_
  refine k_int (v := 0) (by decide +kernel) ?_
  refine lv_aload_n hx hb dX4_stand_27 rfl (lv_at hl 0 rfl) ?_
  refine k_get (D := (dC, dI)) (ci := 4) (v := .ref (p0 2)) (C := RX4) (T := TX4) (N := 6) hx hb hts hinX4 hown hK hP 3 rfl rfl 1 (by decide) w_1 rfl rfl dX4_stand_28 ?_
  refine k_get (D := (dC, dI)) (ci := 0) (v := .int 0) (C := RX0) (T := TX0) (N := 4) hx hb hts hinX0 hown hK hP 0 rfl rfl 3 (by decide) w_3 rfl rfl dX4_stand_31 ?_
  refine k_cv (wc := [((p0 3), .inr (0, [.int 0, .int 0, .int 0, .int 0]))]) (wr := [((p0 2), .inr (0, [.int 0, .int 0, .int 0, .int 0])), ((p0 1), .inl (cI, 9216, .inl (upd (fun k => if 0 ≤ k ∧ k < 9 then 2147483647 else 0) 0 0))), ((p0 0), .inr (4, [.ref (p0 1), .ref (p0 2), .ref (p0 3), .ref (p1 1), .int 1, .int 1]))]) (fun hPc hDc hFc => va_runV (As := [.int 0, .int 0, .int 0, .int 0]) (rest := []) ⟨hx, hb, hml, hown, hts⟩ (c_X0_put_v6 l dC dI cI cJ cZ cM p0 H.size) (cwV 4 hts gX4_stand_X0_put rfl rfl rfl (by decide +kernel) ⟨(Nat.le_of_ble_eq_true rfl), (Nat.le_of_ble_eq_true rfl)⟩) (k_pV hPc hDc hK hN hC hS hFc hP (q0 := 1) (ci := 0) rfl rfl) rfl rfl hl.1 rfl (lv_room (Nat.le_of_ble_eq_true rfl)) dX4_stand_34 ⟨(Nat.le_of_ble_eq_true rfl), (Nat.le_of_ble_eq_true rfl)⟩) hP hD hS hA [1] [0, 2, 3] rfl rfl rfl rfl (by decide) (fun _ => rfl) 0 0 rfl rfl (fun u_8 H locs hw hP hD hS => ?_)
  have hP : va_P (dC, dI) vwCl [((p0 2), .inr (0, [.int 0, .int 0, .int 0, .int 0])), ((p0 1), .inl (cI, 9216, .inl (upd (fun k => if 0 ≤ k ∧ k < 9 then 2147483647 else 0) 0 0))), ((p0 0), .inr (4, [.ref (p0 1), .ref (p0 2), .ref (p0 3), .ref (p1 1), .int 1, .int 1])), ((p0 3), .inr (0, [.int 0, .int 0, .int 0, .int 0]))] H := hP
  have hD : va_D A [((p0 2), .inr (0, [.int 0, .int 0, .int 0, .int 0])), ((p0 1), .inl (cI, 9216, .inl (upd (fun k => if 0 ≤ k ∧ k < 9 then 2147483647 else 0) 0 0))), ((p0 0), .inr (4, [.ref (p0 1), .ref (p0 2), .ref (p0 3), .ref (p1 1), .int 1, .int 1])), ((p0 3), .inr (0, [.int 0, .int 0, .int 0, .int 0]))] := hD
  exact k_rv B hP hD hS dX4_stand_37 () [2, 1, 0, 3] rfl rfl (Nat.le_of_ble_eq_true rfl) (Nat.le_of_ble_eq_true rfl) trivial
set_option maxHeartbeats 4000000 in
set_option maxRecDepth 100000 in
theorem c_X5_isContent_v1 (l : Launch) (dC : Nat → ClassId) (dI : Nat → Nat → Nat) (cI cJ cZ cM : ClassId) (p0 : Nat → Nat) (p1 : Nat → Nat)   : k_Mi l yX5_isContent wsX5_isContent ({ frames := 2, cells := 0, slots := 0, locals := 61 }) (dC, dI) vwCl (tyy cI cJ cZ cM) [((p0 1), .inr (5, [.ref (p0 2), .ref (p0 3), .ref (p0 4), .ref (p0 5), .ref (p0 6), .ref (p0 7), .ref (p0 8), .ref (p0 9), .ref (p0 10), .ref (p0 11), .ref (p0 12), .ref (p0 13), .int 0, .int 0, .int 0, .int 0, .int 0, .int 100, .int 0, .int 0])), ((p0 12), .inl (cI, 3, .inl (fun _ => 0))), ((p0 11), .inl (cI, 3, .inl (fun _ => 0)))] [.ref (p0 1), .ref (p1 3)] 0 0 (fun (u9 : Unit) => [((p0 1), .inr (5, [.ref (p0 2), .ref (p0 3), .ref (p0 4), .ref (p0 5), .ref (p0 6), .ref (p0 7), .ref (p0 8), .ref (p0 9), .ref (p0 10), .ref (p0 11), .ref (p0 12), .ref (p0 13), .int 0, .int 0, .int 0, .int 0, .int 0, .int 100, .int 0, .int 0])), ((p0 12), .inl (cI, 3, .inl (fun _ => 0))), ((p0 11), .inl (cI, 3, .inl (fun _ => 0)))]) (fun (r9 : Int32) (u9 : Unit) => r9 = 0) := by
  refine fun sz => k_enter (cc := cX5_isContent) (maxL := 2) (ret := some (.boolean)) (Qc := fun A => va_Qi (fun (r9 : Int32) (u9 : Unit) => r9 = 0) (fun u => k_B (dC, dI) vwCl (tyy cI cJ cZ cM) A ((fun (u9 : Unit) => [((p0 1), .inr (5, [.ref (p0 2), .ref (p0 3), .ref (p0 4), .ref (p0 5), .ref (p0 6), .ref (p0 7), .ref (p0 8), .ref (p0 9), .ref (p0 10), .ref (p0 11), .ref (p0 12), .ref (p0 13), .int 0, .int 0, .int 0, .int 0, .int 0, .int 100, .int 0, .int 0])), ((p0 12), .inl (cI, 3, .inl (fun _ => 0))), ((p0 11), .inl (cI, 3, .inl (fun _ => 0)))]) u)) A) sz (by decide +kernel) rfl (Nat.le_of_ble_eq_true rfl) (fun p e s m args below meth c A ls H locs B hP hD hS hl => ?_)
  obtain ⟨hx, hb, hml, hown, hts, hr, hlk, hnm, hK, hA, hN, hC⟩ := id B
  have hown : s.vm.findClass RX5 = some m.cls := hown
  have hl : lv_has ls 2 [(0, .ref (p0 1)), (1, .ref (p1 3))] := hl
  refine lv_aload_n hx hb dX5_isContent_0 rfl (lv_at hl 0 rfl) ?_
  refine lv_iconst (v := 2) hx hb dX5_isContent_1 (by decide +kernel) ?_
  refine k_ci (wc := [((p0 1), .inr (5, [.ref (p0 2), .ref (p0 3), .ref (p0 4), .ref (p0 5), .ref (p0 6), .ref (p0 7), .ref (p0 8), .ref (p0 9), .ref (p0 10), .ref (p0 11), .ref (p0 12), .ref (p0 13), .int 0, .int 0, .int 0, .int 0, .int 0, .int 100, .int 0, .int 0])), ((p0 12), .inl (cI, 3, .inl (fun _ => 0))), ((p0 11), .inl (cI, 3, .inl (fun _ => 0)))]) (wr := []) (fun hPc hDc hFc => va_runV (As := [.int 2]) (rest := []) ⟨hx, hb, hml, hown, hts⟩ (c_X5_tells_v1 l dC dI cI cJ cZ cM p0 H.size) (cwV 1 hts gX5_isContent_X5_tells rfl rfl rfl (by decide +kernel) ⟨(Nat.le_of_ble_eq_true rfl), (Nat.le_of_ble_eq_true rfl)⟩) (k_pV hPc hDc hK hN hC hS hFc hP (q0 := 0) (ci := 5) rfl rfl) rfl rfl hl.1 rfl (lv_room (Nat.le_of_ble_eq_true rfl)) dX5_isContent_2 ⟨(Nat.le_of_ble_eq_true rfl), (Nat.le_of_ble_eq_true rfl)⟩) hP hD hS hA [0, 1, 2] [] rfl rfl rfl rfl (by decide) (fun _ => rfl) 0 0 rfl rfl (fun r_1 u_2 H locs hw hP hD hS => ?_)
  obtain rfl : r_1 = 0 := hw
  have hP : va_P (dC, dI) vwCl [((p0 1), .inr (5, [.ref (p0 2), .ref (p0 3), .ref (p0 4), .ref (p0 5), .ref (p0 6), .ref (p0 7), .ref (p0 8), .ref (p0 9), .ref (p0 10), .ref (p0 11), .ref (p0 12), .ref (p0 13), .int 0, .int 0, .int 0, .int 0, .int 0, .int 100, .int 0, .int 0])), ((p0 12), .inl (cI, 3, .inl (fun _ => 0))), ((p0 11), .inl (cI, 3, .inl (fun _ => 0)))] H := hP
  have hD : va_D A [((p0 1), .inr (5, [.ref (p0 2), .ref (p0 3), .ref (p0 4), .ref (p0 5), .ref (p0 6), .ref (p0 7), .ref (p0 8), .ref (p0 9), .ref (p0 10), .ref (p0 11), .ref (p0 12), .ref (p0 13), .int 0, .int 0, .int 0, .int 0, .int 0, .int 100, .int 0, .int 0])), ((p0 12), .inl (cI, 3, .inl (fun _ => 0))), ((p0 11), .inl (cI, 3, .inl (fun _ => 0)))] := hD
  refine lv_if_eq (tgt := 22) hx hb dX5_isContent_5 (by decide) (fun _ => ?_) (fun q9 => absurd q9 (by decide +kernel))
  refine lv_iconst (v := 0) hx hb dX5_isContent_22 (by decide +kernel) ?_
  exact k_ri B hP hD hS dX5_isContent_23 () [0, 1, 2] rfl rfl rfl (Nat.le_of_ble_eq_true rfl) (Nat.le_of_ble_eq_true rfl) rfl
set_option maxHeartbeats 4000000 in
set_option maxRecDepth 100000 in
theorem c_X5_roomOf_v1 (l : Launch) (dC : Nat → ClassId) (dI : Nat → Nat → Nat) (cI cJ cZ cM : ClassId) (p0 : Nat → Nat) (p1 : Nat → Nat)   : k_Mi l yX5_roomOf wsX5_roomOf ({ frames := 2, cells := 0, slots := 0, locals := 61 }) (dC, dI) vwCl (tyy cI cJ cZ cM) [((p0 1), .inr (5, [.ref (p0 2), .ref (p0 3), .ref (p0 4), .ref (p0 5), .ref (p0 6), .ref (p0 7), .ref (p0 8), .ref (p0 9), .ref (p0 10), .ref (p0 11), .ref (p0 12), .ref (p0 13), .int 0, .int 0, .int 0, .int 0, .int 0, .int 100, .int 0, .int 0])), ((p0 12), .inl (cI, 3, .inl (fun _ => 0))), ((p0 11), .inl (cI, 3, .inl (fun _ => 0)))] [.ref (p0 1), .ref (p1 3)] 0 0 (fun (u9 : Unit) => [((p0 1), .inr (5, [.ref (p0 2), .ref (p0 3), .ref (p0 4), .ref (p0 5), .ref (p0 6), .ref (p0 7), .ref (p0 8), .ref (p0 9), .ref (p0 10), .ref (p0 11), .ref (p0 12), .ref (p0 13), .int 0, .int 0, .int 0, .int 0, .int 0, .int 100, .int 0, .int 0])), ((p0 12), .inl (cI, 3, .inl (fun _ => 0))), ((p0 11), .inl (cI, 3, .inl (fun _ => 0)))]) (fun (r9 : Int32) (u9 : Unit) => r9 = 99) := by
  refine fun sz => k_enter (cc := cX5_roomOf) (maxL := 2) (ret := some (.int)) (Qc := fun A => va_Qi (fun (r9 : Int32) (u9 : Unit) => r9 = 99) (fun u => k_B (dC, dI) vwCl (tyy cI cJ cZ cM) A ((fun (u9 : Unit) => [((p0 1), .inr (5, [.ref (p0 2), .ref (p0 3), .ref (p0 4), .ref (p0 5), .ref (p0 6), .ref (p0 7), .ref (p0 8), .ref (p0 9), .ref (p0 10), .ref (p0 11), .ref (p0 12), .ref (p0 13), .int 0, .int 0, .int 0, .int 0, .int 0, .int 100, .int 0, .int 0])), ((p0 12), .inl (cI, 3, .inl (fun _ => 0))), ((p0 11), .inl (cI, 3, .inl (fun _ => 0)))]) u)) A) sz (by decide +kernel) rfl (Nat.le_of_ble_eq_true rfl) (fun p e s m args below meth c A ls H locs B hP hD hS hl => ?_)
  obtain ⟨hx, hb, hml, hown, hts, hr, hlk, hnm, hK, hA, hN, hC⟩ := id B
  have hown : s.vm.findClass RX5 = some m.cls := hown
  have hl : lv_has ls 2 [(0, .ref (p0 1)), (1, .ref (p1 3))] := hl
  refine lv_aload_n hx hb dX5_roomOf_0 rfl (lv_at hl 0 rfl) ?_
  refine lv_iconst (v := 1) hx hb dX5_roomOf_1 (by decide +kernel) ?_
  refine k_ci (wc := [((p0 1), .inr (5, [.ref (p0 2), .ref (p0 3), .ref (p0 4), .ref (p0 5), .ref (p0 6), .ref (p0 7), .ref (p0 8), .ref (p0 9), .ref (p0 10), .ref (p0 11), .ref (p0 12), .ref (p0 13), .int 0, .int 0, .int 0, .int 0, .int 0, .int 100, .int 0, .int 0])), ((p0 12), .inl (cI, 3, .inl (fun _ => 0))), ((p0 11), .inl (cI, 3, .inl (fun _ => 0)))]) (wr := []) (fun hPc hDc hFc => va_runV (As := [.int 1]) (rest := []) ⟨hx, hb, hml, hown, hts⟩ (c_X5_tells_v0 l dC dI cI cJ cZ cM p0 H.size) (cwV 1 hts gX5_roomOf_X5_tells rfl rfl rfl (by decide +kernel) ⟨(Nat.le_of_ble_eq_true rfl), (Nat.le_of_ble_eq_true rfl)⟩) (k_pV hPc hDc hK hN hC hS hFc hP (q0 := 0) (ci := 5) rfl rfl) rfl rfl hl.1 rfl (lv_room (Nat.le_of_ble_eq_true rfl)) dX5_roomOf_2 ⟨(Nat.le_of_ble_eq_true rfl), (Nat.le_of_ble_eq_true rfl)⟩) hP hD hS hA [0, 1, 2] [] rfl rfl rfl rfl (by decide) (fun _ => rfl) 0 0 rfl rfl (fun r_1 u_2 H locs hw hP hD hS => ?_)
  obtain rfl : r_1 = 0 := hw
  have hP : va_P (dC, dI) vwCl [((p0 1), .inr (5, [.ref (p0 2), .ref (p0 3), .ref (p0 4), .ref (p0 5), .ref (p0 6), .ref (p0 7), .ref (p0 8), .ref (p0 9), .ref (p0 10), .ref (p0 11), .ref (p0 12), .ref (p0 13), .int 0, .int 0, .int 0, .int 0, .int 0, .int 100, .int 0, .int 0])), ((p0 12), .inl (cI, 3, .inl (fun _ => 0))), ((p0 11), .inl (cI, 3, .inl (fun _ => 0)))] H := hP
  have hD : va_D A [((p0 1), .inr (5, [.ref (p0 2), .ref (p0 3), .ref (p0 4), .ref (p0 5), .ref (p0 6), .ref (p0 7), .ref (p0 8), .ref (p0 9), .ref (p0 10), .ref (p0 11), .ref (p0 12), .ref (p0 13), .int 0, .int 0, .int 0, .int 0, .int 0, .int 100, .int 0, .int 0])), ((p0 12), .inl (cI, 3, .inl (fun _ => 0))), ((p0 11), .inl (cI, 3, .inl (fun _ => 0)))] := hD
  refine lv_if_ne (tgt := 11) hx hb dX5_roomOf_5 (by decide) (fun q9 => absurd q9 (by decide +kernel)) (fun _ => ?_)
  refine lv_bipush (v := 99) hx hb dX5_roomOf_8 (by decide +kernel) ?_
  exact k_ri B hP hD hS dX5_roomOf_10 () [0, 1, 2] rfl rfl rfl (Nat.le_of_ble_eq_true rfl) (Nat.le_of_ble_eq_true rfl) rfl
set_option maxHeartbeats 4000000 in
set_option maxRecDepth 100000 in
theorem c_X5_mayBeSaid_v1 (l : Launch) (dC : Nat → ClassId) (dI : Nat → Nat → Nat) (cI cJ cZ cM : ClassId) (p0 : Nat → Nat) (p1 : Nat → Nat)   : k_Mi l yX5_mayBeSaid wsX5_mayBeSaid ({ frames := 3, cells := 0, slots := 0, locals := 82 }) (dC, dI) vwCl (tyy cI cJ cZ cM) [((p0 1), .inr (5, [.ref (p0 2), .ref (p0 3), .ref (p0 4), .ref (p0 5), .ref (p0 6), .ref (p0 7), .ref (p0 8), .ref (p0 9), .ref (p0 10), .ref (p0 11), .ref (p0 12), .ref (p0 13), .int 0, .int 0, .int 0, .int 0, .int 0, .int 100, .int 0, .int 0])), ((p0 12), .inl (cI, 3, .inl (fun _ => 0))), ((p0 11), .inl (cI, 3, .inl (fun _ => 0)))] [.ref (p0 1), .ref (p1 3)] 0 0 (fun (u9 : Unit) => [((p0 1), .inr (5, [.ref (p0 2), .ref (p0 3), .ref (p0 4), .ref (p0 5), .ref (p0 6), .ref (p0 7), .ref (p0 8), .ref (p0 9), .ref (p0 10), .ref (p0 11), .ref (p0 12), .ref (p0 13), .int 0, .int 0, .int 0, .int 0, .int 0, .int 100, .int 0, .int 0])), ((p0 12), .inl (cI, 3, .inl (fun _ => 0))), ((p0 11), .inl (cI, 3, .inl (fun _ => 0)))]) (fun (r9 : Int32) (u9 : Unit) => r9 = 0) := by
  refine fun sz => k_enter (cc := cX5_mayBeSaid) (maxL := 5) (ret := some (.int)) (Qc := fun A => va_Qi (fun (r9 : Int32) (u9 : Unit) => r9 = 0) (fun u => k_B (dC, dI) vwCl (tyy cI cJ cZ cM) A ((fun (u9 : Unit) => [((p0 1), .inr (5, [.ref (p0 2), .ref (p0 3), .ref (p0 4), .ref (p0 5), .ref (p0 6), .ref (p0 7), .ref (p0 8), .ref (p0 9), .ref (p0 10), .ref (p0 11), .ref (p0 12), .ref (p0 13), .int 0, .int 0, .int 0, .int 0, .int 0, .int 100, .int 0, .int 0])), ((p0 12), .inl (cI, 3, .inl (fun _ => 0))), ((p0 11), .inl (cI, 3, .inl (fun _ => 0)))]) u)) A) sz (by decide +kernel) rfl (Nat.le_of_ble_eq_true rfl) (fun p e s m args below meth c A ls H locs B hP hD hS hl => ?_)
  obtain ⟨hx, hb, hml, hown, hts, hr, hlk, hnm, hK, hA, hN, hC⟩ := id B
  have hown : s.vm.findClass RX5 = some m.cls := hown
  have hl : lv_has ls 5 [(0, .ref (p0 1)), (1, .ref (p1 3))] := hl
  have w_0 : (Cond.fieldLink RX5 64 "WishSea$Shore" "wishes" "I").before args s = true := hts _ (List.mem_of_getElem? (i := 1) rfl)
  have hinX5 : ∀ w ∈ u_ws RX5 TX5 20, w ∈ wsX5_mayBeSaid := fun _ h => List.mem_cons_of_mem _ (List.mem_append_left _ (List.mem_append_right _ h))
  refine lv_aload_n hx hb dX5_mayBeSaid_0 rfl (lv_at hl 0 rfl) ?_
  refine lv_aload_n hx hb dX5_mayBeSaid_1 rfl (lv_at hl 1 rfl) ?_
  refine k_ci (wc := [((p0 1), .inr (5, [.ref (p0 2), .ref (p0 3), .ref (p0 4), .ref (p0 5), .ref (p0 6), .ref (p0 7), .ref (p0 8), .ref (p0 9), .ref (p0 10), .ref (p0 11), .ref (p0 12), .ref (p0 13), .int 0, .int 0, .int 0, .int 0, .int 0, .int 100, .int 0, .int 0])), ((p0 12), .inl (cI, 3, .inl (fun _ => 0))), ((p0 11), .inl (cI, 3, .inl (fun _ => 0)))]) (wr := []) (fun hPc hDc hFc => va_runV (As := [.ref (p1 3)]) (rest := []) ⟨hx, hb, hml, hown, hts⟩ (c_X5_isContent_v1 l dC dI cI cJ cZ cM p0 p1 H.size) (cwV 1 hts gX5_mayBeSaid_X5_isContent rfl rfl rfl (by decide +kernel) ⟨(Nat.le_of_ble_eq_true rfl), (Nat.le_of_ble_eq_true rfl)⟩) (k_pV hPc hDc hK hN hC hS hFc hP (q0 := 0) (ci := 5) rfl rfl) rfl rfl hl.1 rfl (lv_room (Nat.le_of_ble_eq_true rfl)) dX5_mayBeSaid_2 ⟨(Nat.le_of_ble_eq_true rfl), (Nat.le_of_ble_eq_true rfl)⟩) hP hD hS hA [0, 1, 2] [] rfl rfl rfl rfl (by decide) (fun _ => rfl) 0 0 rfl rfl (fun r_1 u_2 H locs hw hP hD hS => ?_)
  obtain rfl : r_1 = 0 := hw
  have hP : va_P (dC, dI) vwCl [((p0 1), .inr (5, [.ref (p0 2), .ref (p0 3), .ref (p0 4), .ref (p0 5), .ref (p0 6), .ref (p0 7), .ref (p0 8), .ref (p0 9), .ref (p0 10), .ref (p0 11), .ref (p0 12), .ref (p0 13), .int 0, .int 0, .int 0, .int 0, .int 0, .int 100, .int 0, .int 0])), ((p0 12), .inl (cI, 3, .inl (fun _ => 0))), ((p0 11), .inl (cI, 3, .inl (fun _ => 0)))] H := hP
  have hD : va_D A [((p0 1), .inr (5, [.ref (p0 2), .ref (p0 3), .ref (p0 4), .ref (p0 5), .ref (p0 6), .ref (p0 7), .ref (p0 8), .ref (p0 9), .ref (p0 10), .ref (p0 11), .ref (p0 12), .ref (p0 13), .int 0, .int 0, .int 0, .int 0, .int 0, .int 100, .int 0, .int 0])), ((p0 12), .inl (cI, 3, .inl (fun _ => 0))), ((p0 11), .inl (cI, 3, .inl (fun _ => 0)))] := hD
  refine lv_if_eq (tgt := 10) hx hb dX5_mayBeSaid_5 (by decide) (fun _ => ?_) (fun q9 => absurd q9 (by decide +kernel))
  refine lv_aload_n hx hb dX5_mayBeSaid_10 rfl (lv_at hl 0 rfl) ?_
  refine lv_aload_n hx hb dX5_mayBeSaid_11 rfl (lv_at hl 1 rfl) ?_
  refine k_ci (wc := [((p0 1), .inr (5, [.ref (p0 2), .ref (p0 3), .ref (p0 4), .ref (p0 5), .ref (p0 6), .ref (p0 7), .ref (p0 8), .ref (p0 9), .ref (p0 10), .ref (p0 11), .ref (p0 12), .ref (p0 13), .int 0, .int 0, .int 0, .int 0, .int 0, .int 100, .int 0, .int 0])), ((p0 12), .inl (cI, 3, .inl (fun _ => 0))), ((p0 11), .inl (cI, 3, .inl (fun _ => 0)))]) (wr := []) (fun hPc hDc hFc => va_runV (As := [.ref (p1 3)]) (rest := []) ⟨hx, hb, hml, hown, hts⟩ (c_X5_roomOf_v1 l dC dI cI cJ cZ cM p0 p1 H.size) (cwV 1 hts gX5_mayBeSaid_X5_roomOf rfl rfl rfl (by decide +kernel) ⟨(Nat.le_of_ble_eq_true rfl), (Nat.le_of_ble_eq_true rfl)⟩) (k_pV hPc hDc hK hN hC hS hFc hP (q0 := 0) (ci := 5) rfl rfl) rfl rfl hl.1 rfl (lv_room (Nat.le_of_ble_eq_true rfl)) dX5_mayBeSaid_12 ⟨(Nat.le_of_ble_eq_true rfl), (Nat.le_of_ble_eq_true rfl)⟩) hP hD hS hA [0, 1, 2] [] rfl rfl rfl rfl (by decide) (fun _ => rfl) 0 0 rfl rfl (fun r_3 u_4 H locs hw hP hD hS => ?_)
  obtain rfl : r_3 = 99 := hw
  have hP : va_P (dC, dI) vwCl [((p0 1), .inr (5, [.ref (p0 2), .ref (p0 3), .ref (p0 4), .ref (p0 5), .ref (p0 6), .ref (p0 7), .ref (p0 8), .ref (p0 9), .ref (p0 10), .ref (p0 11), .ref (p0 12), .ref (p0 13), .int 0, .int 0, .int 0, .int 0, .int 0, .int 100, .int 0, .int 0])), ((p0 12), .inl (cI, 3, .inl (fun _ => 0))), ((p0 11), .inl (cI, 3, .inl (fun _ => 0)))] H := hP
  have hD : va_D A [((p0 1), .inr (5, [.ref (p0 2), .ref (p0 3), .ref (p0 4), .ref (p0 5), .ref (p0 6), .ref (p0 7), .ref (p0 8), .ref (p0 9), .ref (p0 10), .ref (p0 11), .ref (p0 12), .ref (p0 13), .int 0, .int 0, .int 0, .int 0, .int 0, .int 100, .int 0, .int 0])), ((p0 12), .inl (cI, 3, .inl (fun _ => 0))), ((p0 11), .inl (cI, 3, .inl (fun _ => 0)))] := hD
  refine lv_istore_n (lv' := [(2, .int 99), (0, .ref (p0 1)), (1, .ref (p1 3))]) hx hb dX5_mayBeSaid_15 rfl hl (by decide) rfl (fun ls hl => ?_)
  refine lv_iconst (v := 0) hx hb dX5_mayBeSaid_16 (by decide +kernel) ?_
  refine lv_istore_n (lv' := [(3, .int 0), (2, .int 99), (0, .ref (p0 1)), (1, .ref (p1 3))]) hx hb dX5_mayBeSaid_17 rfl hl (by decide) rfl (fun ls hl => ?_)
  refine lv_iconst (v := 0) hx hb dX5_mayBeSaid_18 (by decide +kernel) ?_
  refine lv_istore (lv' := [(4, .int 0), (3, .int 0), (2, .int 99), (0, .ref (p0 1)), (1, .ref (p1 3))]) hx hb dX5_mayBeSaid_19 hl (by decide) rfl (fun ls hl => ?_)
  refine lv_iload hx hb dX5_mayBeSaid_21 (lv_at hl 0 rfl) ?_
  refine lv_aload_n hx hb dX5_mayBeSaid_23 rfl (lv_at hl 3 rfl) ?_
  refine k_get (D := (dC, dI)) (ci := 5) (v := .int 0) (C := RX5) (T := TX5) (N := 20) hx hb hts hinX5 hown hK hP 0 rfl rfl 14 (by decide) w_0 rfl rfl dX5_mayBeSaid_24 ?_
  refine lv_icmp_ge (tgt := 57) hx hb dX5_mayBeSaid_27 (by decide) (fun _ => ?_) (fun q9 => absurd q9 (by decide +kernel))
  refine lv_iload_n hx hb dX5_mayBeSaid_57 rfl (lv_at hl 1 rfl) ?_
  exact k_ri B hP hD hS dX5_mayBeSaid_58 () [0, 1, 2] rfl rfl rfl (Nat.le_of_ble_eq_true rfl) (Nat.le_of_ble_eq_true rfl) rfl
set_option maxHeartbeats 4000000 in
set_option maxRecDepth 100000 in
theorem c_X4_spread_v0 (l : Launch) (dC : Nat → ClassId) (dI : Nat → Nat → Nat) (cI cJ cZ cM : ClassId) (p0 : Nat → Nat) (p1 : Nat → Nat)   : k_Mv l yX4_spread wsX4_spread ({ frames := 4, cells := 0, slots := 0, locals := 106 }) (dC, dI) vwCl (tyy cI cJ cZ cM) [((p0 0), .inr (4, [.ref (p0 1), .ref (p0 2), .ref (p0 3), .ref (p1 1), .int 1, .int 1])), ((p0 1), .inl (cI, 9216, .inl (upd (fun k => if 0 ≤ k ∧ k < 9 then 2147483647 else 0) 0 0))), ((p0 2), .inr (0, [.int 0, .int 0, .int 0, .int 0])), ((p0 3), .inr (0, [.int 0, .int 0, .int 0, .int 0])), ((p1 1), .inr (5, [.ref (p1 2), .ref (p1 3), .ref (p1 4), .ref (p1 5), .ref (p1 6), .ref (p1 7), .ref (p1 8), .ref (p1 9), .ref (p1 10), .ref (p1 11), .ref (p1 12), .ref (p1 13), .int 0, .int 0, .int 0, .int 0, .int 0, .int 100, .int 0, .int 0])), ((p1 12), .inl (cI, 3, .inl (fun _ => 0))), ((p1 11), .inl (cI, 3, .inl (fun _ => 0)))] [.ref (p0 0), .int 0] 0 0 (fun (u9 : Unit) => [((p0 0), .inr (4, [.ref (p0 1), .ref (p0 2), .ref (p0 3), .ref (p1 1), .int 1, .int 1])), ((p0 1), .inl (cI, 9216, .inl (upd (fun k => if 0 ≤ k ∧ k < 9 then 2147483647 else 0) 0 0))), ((p0 2), .inr (0, [.int 0, .int 0, .int 0, .int 0])), ((p0 3), .inr (0, [.int 0, .int 0, .int 0, .int 0])), ((p1 1), .inr (5, [.ref (p1 2), .ref (p1 3), .ref (p1 4), .ref (p1 5), .ref (p1 6), .ref (p1 7), .ref (p1 8), .ref (p1 9), .ref (p1 10), .ref (p1 11), .ref (p1 12), .ref (p1 13), .int 0, .int 0, .int 0, .int 0, .int 0, .int 100, .int 0, .int 0])), ((p1 12), .inl (cI, 3, .inl (fun _ => 0))), ((p1 11), .inl (cI, 3, .inl (fun _ => 0)))]) (fun (u9 : Unit) => True) := by
  refine fun sz => k_enter (cc := cX4_spread) (maxL := 6) (ret := none) (Qc := fun A => va_Qv (fun (u9 : Unit) => True) (fun u => k_B (dC, dI) vwCl (tyy cI cJ cZ cM) A ((fun (u9 : Unit) => [((p0 0), .inr (4, [.ref (p0 1), .ref (p0 2), .ref (p0 3), .ref (p1 1), .int 1, .int 1])), ((p0 1), .inl (cI, 9216, .inl (upd (fun k => if 0 ≤ k ∧ k < 9 then 2147483647 else 0) 0 0))), ((p0 2), .inr (0, [.int 0, .int 0, .int 0, .int 0])), ((p0 3), .inr (0, [.int 0, .int 0, .int 0, .int 0])), ((p1 1), .inr (5, [.ref (p1 2), .ref (p1 3), .ref (p1 4), .ref (p1 5), .ref (p1 6), .ref (p1 7), .ref (p1 8), .ref (p1 9), .ref (p1 10), .ref (p1 11), .ref (p1 12), .ref (p1 13), .int 0, .int 0, .int 0, .int 0, .int 0, .int 100, .int 0, .int 0])), ((p1 12), .inl (cI, 3, .inl (fun _ => 0))), ((p1 11), .inl (cI, 3, .inl (fun _ => 0)))]) u)) A) sz (by decide +kernel) rfl (Nat.le_of_ble_eq_true rfl) (fun p e s m args below meth c A ls H locs B hP hD hS hl => ?_)
  obtain ⟨hx, hb, hml, hown, hts, hr, hlk, hnm, hK, hA, hN, hC⟩ := id B
  have hown : s.vm.findClass RX4 = some m.cls := hown
  have hl : lv_has ls 6 [(0, .ref (p0 0)), (1, .int 0)] := hl
  have w_0 : (Cond.fieldLink RX4 25 "WishSea$Rungs" "shore" "LWishSea$Shore;").before args s = true := hts _ (List.mem_of_getElem? (i := 1) rfl)
  have w_1 : (Cond.fieldLink RX4 22 "WishSea$Rungs" "here" "LWishSea$Moment;").before args s = true := hts _ (List.mem_of_getElem? (i := 2) rfl)
  have w_2 : (Cond.fieldLink RX4 92 "WishSea$Shore" "wishes" "I").before args s = true := hts _ (List.mem_of_getElem? (i := 3) rfl)
  have hinX4 : ∀ w ∈ u_ws RX4 TX4 6, w ∈ wsX4_spread := fun _ h => List.mem_cons_of_mem _ (List.mem_append_left _ (List.mem_append_left _ (List.mem_append_right _ h)))
  have hinX5 : ∀ w ∈ u_ws RX5 TX5 20, w ∈ wsX4_spread := fun _ h => List.mem_cons_of_mem _ (List.mem_append_left _ (List.mem_append_right _ h))
  refine lv_aload_n hx hb dX4_spread_0 rfl (lv_at hl 0 rfl) ?_
  refine lv_iload_n hx hb dX4_spread_1 rfl (lv_at hl 1 rfl) ?_
  refine k_cv (wc := [((p0 0), .inr (4, [.ref (p0 1), .ref (p0 2), .ref (p0 3), .ref (p1 1), .int 1, .int 1])), ((p0 1), .inl (cI, 9216, .inl (upd (fun k => if 0 ≤ k ∧ k < 9 then 2147483647 else 0) 0 0))), ((p0 2), .inr (0, [.int 0, .int 0, .int 0, .int 0])), ((p0 3), .inr (0, [.int 0, .int 0, .int 0, .int 0]))]) (wr := [((p1 1), .inr (5, [.ref (p1 2), .ref (p1 3), .ref (p1 4), .ref (p1 5), .ref (p1 6), .ref (p1 7), .ref (p1 8), .ref (p1 9), .ref (p1 10), .ref (p1 11), .ref (p1 12), .ref (p1 13), .int 0, .int 0, .int 0, .int 0, .int 0, .int 100, .int 0, .int 0])), ((p1 12), .inl (cI, 3, .inl (fun _ => 0))), ((p1 11), .inl (cI, 3, .inl (fun _ => 0)))]) (fun hPc hDc hFc => va_runV (As := [.int 0]) (rest := []) ⟨hx, hb, hml, hown, hts⟩ (c_X4_stand_v0 l dC dI cI cJ cZ cM p0 p1 H.size) (cwV 1 hts gX4_spread_X4_stand rfl rfl rfl (by decide +kernel) ⟨(Nat.le_of_ble_eq_true rfl), (Nat.le_of_ble_eq_true rfl)⟩) (k_pV hPc hDc hK hN hC hS hFc hP (q0 := 0) (ci := 4) rfl rfl) rfl rfl hl.1 rfl (lv_room (Nat.le_of_ble_eq_true rfl)) dX4_spread_2 ⟨(Nat.le_of_ble_eq_true rfl), (Nat.le_of_ble_eq_true rfl)⟩) hP hD hS hA [0, 1, 2, 3] [4, 5, 6] rfl rfl rfl rfl (by decide) (fun _ => rfl) 0 0 rfl rfl (fun u_2 H locs hw hP hD hS => ?_)
  have hP : va_P (dC, dI) vwCl [((p1 1), .inr (5, [.ref (p1 2), .ref (p1 3), .ref (p1 4), .ref (p1 5), .ref (p1 6), .ref (p1 7), .ref (p1 8), .ref (p1 9), .ref (p1 10), .ref (p1 11), .ref (p1 12), .ref (p1 13), .int 0, .int 0, .int 0, .int 0, .int 0, .int 100, .int 0, .int 0])), ((p1 12), .inl (cI, 3, .inl (fun _ => 0))), ((p1 11), .inl (cI, 3, .inl (fun _ => 0))), ((p0 0), .inr (4, [.ref (p0 1), .ref (p0 2), .ref (p0 3), .ref (p1 1), .int 1, .int 1])), ((p0 1), .inl (cI, 9216, .inl (upd (fun k => if 0 ≤ k ∧ k < 9 then 2147483647 else 0) 0 0))), ((p0 2), .inr (0, [.int 0, .int 0, .int 0, .int 0])), ((p0 3), .inr (0, [.int 0, .int 0, .int 0, .int 0]))] H := hP
  have hD : va_D A [((p1 1), .inr (5, [.ref (p1 2), .ref (p1 3), .ref (p1 4), .ref (p1 5), .ref (p1 6), .ref (p1 7), .ref (p1 8), .ref (p1 9), .ref (p1 10), .ref (p1 11), .ref (p1 12), .ref (p1 13), .int 0, .int 0, .int 0, .int 0, .int 0, .int 100, .int 0, .int 0])), ((p1 12), .inl (cI, 3, .inl (fun _ => 0))), ((p1 11), .inl (cI, 3, .inl (fun _ => 0))), ((p0 0), .inr (4, [.ref (p0 1), .ref (p0 2), .ref (p0 3), .ref (p1 1), .int 1, .int 1])), ((p0 1), .inl (cI, 9216, .inl (upd (fun k => if 0 ≤ k ∧ k < 9 then 2147483647 else 0) 0 0))), ((p0 2), .inr (0, [.int 0, .int 0, .int 0, .int 0])), ((p0 3), .inr (0, [.int 0, .int 0, .int 0, .int 0]))] := hD
  refine lv_aload_n hx hb dX4_spread_5 rfl (lv_at hl 0 rfl) ?_
  refine k_get (D := (dC, dI)) (ci := 4) (v := .ref (p1 1)) (C := RX4) (T := TX4) (N := 6) hx hb hts hinX4 hown hK hP 3 rfl rfl 3 (by decide) w_0 rfl rfl dX4_spread_6 ?_
  refine lv_aload_n hx hb dX4_spread_9 rfl (lv_at hl 0 rfl) ?_
  refine k_get (D := (dC, dI)) (ci := 4) (v := .ref (p0 3)) (C := RX4) (T := TX4) (N := 6) hx hb hts hinX4 hown hK hP 3 rfl rfl 2 (by decide) w_1 rfl rfl dX4_spread_10 ?_
  refine k_ci (wc := [((p1 1), .inr (5, [.ref (p1 2), .ref (p1 3), .ref (p1 4), .ref (p1 5), .ref (p1 6), .ref (p1 7), .ref (p1 8), .ref (p1 9), .ref (p1 10), .ref (p1 11), .ref (p1 12), .ref (p1 13), .int 0, .int 0, .int 0, .int 0, .int 0, .int 100, .int 0, .int 0])), ((p1 12), .inl (cI, 3, .inl (fun _ => 0))), ((p1 11), .inl (cI, 3, .inl (fun _ => 0)))]) (wr := [((p0 0), .inr (4, [.ref (p0 1), .ref (p0 2), .ref (p0 3), .ref (p1 1), .int 1, .int 1])), ((p0 1), .inl (cI, 9216, .inl (upd (fun k => if 0 ≤ k ∧ k < 9 then 2147483647 else 0) 0 0))), ((p0 2), .inr (0, [.int 0, .int 0, .int 0, .int 0])), ((p0 3), .inr (0, [.int 0, .int 0, .int 0, .int 0]))]) (fun hPc hDc hFc => va_runV (As := [.ref (p0 3)]) (rest := []) ⟨hx, hb, hml, hown, hts⟩ (c_X5_mayBeSaid_v1 l dC dI cI cJ cZ cM p1 p0 H.size) (cwV 1 hts gX4_spread_X5_mayBeSaid rfl rfl rfl (by decide +kernel) ⟨(Nat.le_of_ble_eq_true rfl), (Nat.le_of_ble_eq_true rfl)⟩) (k_pV hPc hDc hK hN hC hS hFc hP (q0 := 0) (ci := 5) rfl rfl) rfl rfl hl.1 rfl (lv_room (Nat.le_of_ble_eq_true rfl)) dX4_spread_13 ⟨(Nat.le_of_ble_eq_true rfl), (Nat.le_of_ble_eq_true rfl)⟩) hP hD hS hA [0, 1, 2] [3, 4, 5, 6] rfl rfl rfl rfl (by decide) (fun _ => rfl) 0 0 rfl rfl (fun r_3 u_4 H locs hw hP hD hS => ?_)
  obtain rfl : r_3 = 0 := hw
  have hP : va_P (dC, dI) vwCl [((p0 0), .inr (4, [.ref (p0 1), .ref (p0 2), .ref (p0 3), .ref (p1 1), .int 1, .int 1])), ((p0 1), .inl (cI, 9216, .inl (upd (fun k => if 0 ≤ k ∧ k < 9 then 2147483647 else 0) 0 0))), ((p0 2), .inr (0, [.int 0, .int 0, .int 0, .int 0])), ((p0 3), .inr (0, [.int 0, .int 0, .int 0, .int 0])), ((p1 1), .inr (5, [.ref (p1 2), .ref (p1 3), .ref (p1 4), .ref (p1 5), .ref (p1 6), .ref (p1 7), .ref (p1 8), .ref (p1 9), .ref (p1 10), .ref (p1 11), .ref (p1 12), .ref (p1 13), .int 0, .int 0, .int 0, .int 0, .int 0, .int 100, .int 0, .int 0])), ((p1 12), .inl (cI, 3, .inl (fun _ => 0))), ((p1 11), .inl (cI, 3, .inl (fun _ => 0)))] H := hP
  have hD : va_D A [((p0 0), .inr (4, [.ref (p0 1), .ref (p0 2), .ref (p0 3), .ref (p1 1), .int 1, .int 1])), ((p0 1), .inl (cI, 9216, .inl (upd (fun k => if 0 ≤ k ∧ k < 9 then 2147483647 else 0) 0 0))), ((p0 2), .inr (0, [.int 0, .int 0, .int 0, .int 0])), ((p0 3), .inr (0, [.int 0, .int 0, .int 0, .int 0])), ((p1 1), .inr (5, [.ref (p1 2), .ref (p1 3), .ref (p1 4), .ref (p1 5), .ref (p1 6), .ref (p1 7), .ref (p1 8), .ref (p1 9), .ref (p1 10), .ref (p1 11), .ref (p1 12), .ref (p1 13), .int 0, .int 0, .int 0, .int 0, .int 0, .int 100, .int 0, .int 0])), ((p1 12), .inl (cI, 3, .inl (fun _ => 0))), ((p1 11), .inl (cI, 3, .inl (fun _ => 0)))] := hD
  refine lv_istore_n (lv' := [(2, .int 0), (0, .ref (p0 0)), (1, .int 0)]) hx hb dX4_spread_16 rfl hl (by decide) rfl (fun ls hl => ?_)
  refine lv_iconst (v := 0) hx hb dX4_spread_17 (by decide +kernel) ?_
  refine lv_istore_n (lv' := [(3, .int 0), (2, .int 0), (0, .ref (p0 0)), (1, .int 0)]) hx hb dX4_spread_18 rfl hl (by decide) rfl (fun ls hl => ?_)
  refine lv_iload_n hx hb dX4_spread_19 rfl (lv_at hl 0 rfl) ?_
  refine lv_aload_n hx hb dX4_spread_20 rfl (lv_at hl 2 rfl) ?_
  refine k_get (D := (dC, dI)) (ci := 4) (v := .ref (p1 1)) (C := RX4) (T := TX4) (N := 6) hx hb hts hinX4 hown hK hP 0 rfl rfl 3 (by decide) w_0 rfl rfl dX4_spread_21 ?_
  refine k_get (D := (dC, dI)) (ci := 5) (v := .int 0) (C := RX5) (T := TX5) (N := 20) hx hb hts hinX5 hown hK hP 4 rfl rfl 14 (by decide) w_2 rfl rfl dX4_spread_24 ?_
  refine lv_icmp_ge (tgt := 147) hx hb dX4_spread_27 (by decide) (fun _ => ?_) (fun q9 => absurd q9 (by decide +kernel))
  exact k_rv B hP hD hS dX4_spread_147 () [0, 1, 2, 3, 4, 5, 6] rfl rfl (Nat.le_of_ble_eq_true rfl) (Nat.le_of_ble_eq_true rfl) trivial
set_option maxHeartbeats 4000000 in
set_option maxRecDepth 100000 in
theorem c_X4_climb_v0 (l : Launch) (dC : Nat → ClassId) (dI : Nat → Nat → Nat) (cI cJ cZ cM : ClassId) (p0 : Nat → Nat) (p1 : Nat → Nat)   : k_Mr l yX4_climb wsX4_climb ({ frames := 5, cells := 0, slots := 0, locals := 131 }) (dC, dI) vwCl (tyy cI cJ cZ cM) [((p0 0), .inr (4, [.ref (p0 1), .ref (p0 2), .ref (p0 3), .ref (p1 1), .int 0, .int 0])), ((p1 28), .inr (0, [.int 0, .int 0, .int 0, .int 0])), ((p0 2), .inr (0, [.int 0, .int 0, .int 0, .int 0])), ((p1 1), .inr (5, [.ref (p1 2), .ref (p1 3), .ref (p1 4), .ref (p1 5), .ref (p1 6), .ref (p1 7), .ref (p1 8), .ref (p1 9), .ref (p1 10), .ref (p1 11), .ref (p1 12), .ref (p1 13), .int 0, .int 0, .int 0, .int 0, .int 0, .int 100, .int 0, .int 0])), ((p0 1), .inl (cI, 9216, .inl (fun _ => 0))), ((p0 3), .inr (0, [.int 0, .int 0, .int 0, .int 0])), ((p1 12), .inl (cI, 3, .inl (fun _ => 0))), ((p1 11), .inl (cI, 3, .inl (fun _ => 0)))] [.ref (p0 0), .ref (p1 1), .ref (p1 28)] 0 0 (fun (u9 : Unit) => [((p0 0), .inr (4, [.ref (p0 1), .ref (p0 2), .ref (p0 3), .ref (p1 1), .int 1, .int 1])), ((p1 28), .inr (0, [.int 0, .int 0, .int 0, .int 0])), ((p0 2), .inr (0, [.int 0, .int 0, .int 0, .int 0])), ((p1 1), .inr (5, [.ref (p1 2), .ref (p1 3), .ref (p1 4), .ref (p1 5), .ref (p1 6), .ref (p1 7), .ref (p1 8), .ref (p1 9), .ref (p1 10), .ref (p1 11), .ref (p1 12), .ref (p1 13), .int 0, .int 0, .int 0, .int 0, .int 0, .int 100, .int 0, .int 0])), ((p0 1), .inl (cI, 9216, .inl (upd (fun k => if 0 ≤ k ∧ k < 9 then 2147483647 else 0) 0 0))), ((p0 3), .inr (0, [.int 0, .int 0, .int 0, .int 0])), ((p1 12), .inl (cI, 3, .inl (fun _ => 0))), ((p1 11), .inl (cI, 3, .inl (fun _ => 0)))]) (fun (r9 : Nat) (u9 : Unit) => r9 = (p0 0)) := by
  refine fun sz => k_enter (cc := cX4_climb) (maxL := 4) (ret := some (.object "WishSea$Rungs")) (Qc := fun A => va_Qr (fun _ : Unit => True) (fun u a t => (fun (r9 : Nat) (u9 : Unit) => r9 = (p0 0)) a u ∧ k_B (dC, dI) vwCl (tyy cI cJ cZ cM) A ((fun (u9 : Unit) => [((p0 0), .inr (4, [.ref (p0 1), .ref (p0 2), .ref (p0 3), .ref (p1 1), .int 1, .int 1])), ((p1 28), .inr (0, [.int 0, .int 0, .int 0, .int 0])), ((p0 2), .inr (0, [.int 0, .int 0, .int 0, .int 0])), ((p1 1), .inr (5, [.ref (p1 2), .ref (p1 3), .ref (p1 4), .ref (p1 5), .ref (p1 6), .ref (p1 7), .ref (p1 8), .ref (p1 9), .ref (p1 10), .ref (p1 11), .ref (p1 12), .ref (p1 13), .int 0, .int 0, .int 0, .int 0, .int 0, .int 100, .int 0, .int 0])), ((p0 1), .inl (cI, 9216, .inl (upd (fun k => if 0 ≤ k ∧ k < 9 then 2147483647 else 0) 0 0))), ((p0 3), .inr (0, [.int 0, .int 0, .int 0, .int 0])), ((p1 12), .inl (cI, 3, .inl (fun _ => 0))), ((p1 11), .inl (cI, 3, .inl (fun _ => 0)))]) u) t) A) sz (by decide +kernel) rfl (Nat.le_of_ble_eq_true rfl) (fun p e s m args below meth c A ls H locs B hP hD hS hl => ?_)
  obtain ⟨hx, hb, hml, hown, hts, hr, hlk, hnm, hK, hA, hN, hC⟩ := id B
  have hown : s.vm.findClass RX4 = some m.cls := hown
  have hl : lv_has ls 4 [(0, .ref (p0 0)), (1, .ref (p1 1)), (2, .ref (p1 28))] := hl
  have w_0 : (Cond.fieldLink RX4 29 "WishSea$Rungs" "stands" "Z").before args s = true := hts _ (List.mem_of_getElem? (i := 1) rfl)
  have w_1 : (Cond.fieldLink RX4 25 "WishSea$Rungs" "shore" "LWishSea$Shore;").before args s = true := hts _ (List.mem_of_getElem? (i := 3) rfl)
  have w_2 : (Cond.fieldLink RX4 18 "WishSea$Rungs" "from" "LWishSea$Moment;").before args s = true := hts _ (List.mem_of_getElem? (i := 2) rfl)
  have w_3 : (Cond.fieldLink RX4 41 "WishSea$Shore" "things" "I").before args s = true := hts _ (List.mem_of_getElem? (i := 4) rfl)
  have w_4 : (Cond.fieldLink RX4 47 "WishSea$Rungs" "sets" "I").before args s = true := hts _ (List.mem_of_getElem? (i := 5) rfl)
  have w_5 : (Cond.fieldLink RX4 9 "WishSea$Rungs" "table" "[I").before args s = true := hts _ (List.mem_of_getElem? (i := 6) rfl)
  have w_6 : (Cond.constant RX4 50 (2147483647)).before args s = true := hts _ (List.mem_of_getElem? (i := 7) rfl)
  have w_7 : (Cond.fieldLink RX4 57 "WishSea$Moment" "things" "I").before args s = true := hts _ (List.mem_of_getElem? (i := 8) rfl)
  have w_8 : (Cond.fieldLink RX4 58 "WishSea$Moment" "sea" "I").before args s = true := hts _ (List.mem_of_getElem? (i := 9) rfl)
  have hinX4 : ∀ w ∈ u_ws RX4 TX4 6, w ∈ wsX4_climb := fun _ h => List.mem_cons_of_mem _ (List.mem_append_left _ (List.mem_append_left _ (List.mem_append_right _ h)))
  have hinX5 : ∀ w ∈ u_ws RX5 TX5 20, w ∈ wsX4_climb := fun _ h => List.mem_cons_of_mem _ (List.mem_append_left _ (List.mem_append_right _ h))
  have hinX0 : ∀ w ∈ u_ws RX0 TX0 4, w ∈ wsX4_climb := fun _ h => List.mem_cons_of_mem _ (List.mem_append_right _ h)
  refine lv_aload_n hx hb dX4_climb_0 rfl (lv_at hl 0 rfl) ?_
  refine k_get (D := (dC, dI)) (ci := 4) (v := .int 0) (C := RX4) (T := TX4) (N := 6) hx hb hts hinX4 hown hK hP 0 rfl rfl 5 (by decide) w_0 rfl rfl dX4_climb_1 ?_
  refine lv_if_eq (tgt := 20) hx hb dX4_climb_4 (by decide) (fun _ => ?_) (fun q9 => absurd q9 (by decide +kernel))
  refine lv_aload_n hx hb dX4_climb_20 rfl (lv_at hl 0 rfl) ?_
  refine lv_aload_n hx hb dX4_climb_21 rfl (lv_at hl 1 rfl) ?_
  refine k_put (D := (dC, dI)) (ci := 4) (v := .ref (p1 1)) (C := RX4) (T := TX4) (N := 6) (ws' := [((p0 0), .inr (4, [.ref (p0 1), .ref (p0 2), .ref (p0 3), .ref (p1 1), .int 0, .int 0])), ((p1 28), .inr (0, [.int 0, .int 0, .int 0, .int 0])), ((p0 2), .inr (0, [.int 0, .int 0, .int 0, .int 0])), ((p1 1), .inr (5, [.ref (p1 2), .ref (p1 3), .ref (p1 4), .ref (p1 5), .ref (p1 6), .ref (p1 7), .ref (p1 8), .ref (p1 9), .ref (p1 10), .ref (p1 11), .ref (p1 12), .ref (p1 13), .int 0, .int 0, .int 0, .int 0, .int 0, .int 100, .int 0, .int 0])), ((p0 1), .inl (cI, 9216, .inl (fun _ => 0))), ((p0 3), .inr (0, [.int 0, .int 0, .int 0, .int 0])), ((p1 12), .inl (cI, 3, .inl (fun _ => 0))), ((p1 11), .inl (cI, 3, .inl (fun _ => 0)))]) hx hb hts hinX4 tyX4 tyX4_ok nmX4 hown hK hP hD hS 0 rfl rfl 3 (by decide) w_1 rfl rfl rfl rfl (Nat.le_of_ble_eq_true rfl) rfl dX4_climb_22 (fun H locs hP hD hS => ?_)
  refine lv_aload_n hx hb dX4_climb_25 rfl (lv_at hl 0 rfl) ?_
  refine k_get (D := (dC, dI)) (ci := 4) (v := .ref (p0 2)) (C := RX4) (T := TX4) (N := 6) hx hb hts hinX4 hown hK hP 0 rfl rfl 1 (by decide) w_2 rfl rfl dX4_climb_26 ?_
  refine lv_aload_n hx hb dX4_climb_29 rfl (lv_at hl 2 rfl) ?_
  refine k_cv (wc := [((p1 28), .inr (0, [.int 0, .int 0, .int 0, .int 0])), ((p0 2), .inr (0, [.int 0, .int 0, .int 0, .int 0]))]) (wr := [((p0 0), .inr (4, [.ref (p0 1), .ref (p0 2), .ref (p0 3), .ref (p1 1), .int 0, .int 0])), ((p1 1), .inr (5, [.ref (p1 2), .ref (p1 3), .ref (p1 4), .ref (p1 5), .ref (p1 6), .ref (p1 7), .ref (p1 8), .ref (p1 9), .ref (p1 10), .ref (p1 11), .ref (p1 12), .ref (p1 13), .int 0, .int 0, .int 0, .int 0, .int 0, .int 100, .int 0, .int 0])), ((p0 1), .inl (cI, 9216, .inl (fun _ => 0))), ((p0 3), .inr (0, [.int 0, .int 0, .int 0, .int 0])), ((p1 12), .inl (cI, 3, .inl (fun _ => 0))), ((p1 11), .inl (cI, 3, .inl (fun _ => 0)))]) (fun hPc hDc hFc => va_runV (As := [.ref (p1 28)]) (rest := []) ⟨hx, hb, hml, hown, hts⟩ (c_X0_take_v2 l dC dI cI cJ cZ cM p0 p1 H.size) (cwV 1 hts gX4_climb_X0_take rfl rfl rfl (by decide +kernel) ⟨(Nat.le_of_ble_eq_true rfl), (Nat.le_of_ble_eq_true rfl)⟩) (k_pV hPc hDc hK hN hC hS hFc hP (q0 := 2) (ci := 0) rfl rfl) rfl rfl hl.1 rfl (lv_room (Nat.le_of_ble_eq_true rfl)) dX4_climb_30 ⟨(Nat.le_of_ble_eq_true rfl), (Nat.le_of_ble_eq_true rfl)⟩) hP hD hS hA [1, 2] [0, 3, 4, 5, 6, 7] rfl rfl rfl rfl (by decide) (fun _ => rfl) 0 0 rfl rfl (fun u_2 H locs hw hP hD hS => ?_)
  have hP : va_P (dC, dI) vwCl [((p0 0), .inr (4, [.ref (p0 1), .ref (p0 2), .ref (p0 3), .ref (p1 1), .int 0, .int 0])), ((p1 1), .inr (5, [.ref (p1 2), .ref (p1 3), .ref (p1 4), .ref (p1 5), .ref (p1 6), .ref (p1 7), .ref (p1 8), .ref (p1 9), .ref (p1 10), .ref (p1 11), .ref (p1 12), .ref (p1 13), .int 0, .int 0, .int 0, .int 0, .int 0, .int 100, .int 0, .int 0])), ((p0 1), .inl (cI, 9216, .inl (fun _ => 0))), ((p0 3), .inr (0, [.int 0, .int 0, .int 0, .int 0])), ((p1 12), .inl (cI, 3, .inl (fun _ => 0))), ((p1 11), .inl (cI, 3, .inl (fun _ => 0))), ((p1 28), .inr (0, [.int 0, .int 0, .int 0, .int 0])), ((p0 2), .inr (0, [.int 0, .int 0, .int 0, .int 0]))] H := hP
  have hD : va_D A [((p0 0), .inr (4, [.ref (p0 1), .ref (p0 2), .ref (p0 3), .ref (p1 1), .int 0, .int 0])), ((p1 1), .inr (5, [.ref (p1 2), .ref (p1 3), .ref (p1 4), .ref (p1 5), .ref (p1 6), .ref (p1 7), .ref (p1 8), .ref (p1 9), .ref (p1 10), .ref (p1 11), .ref (p1 12), .ref (p1 13), .int 0, .int 0, .int 0, .int 0, .int 0, .int 100, .int 0, .int 0])), ((p0 1), .inl (cI, 9216, .inl (fun _ => 0))), ((p0 3), .inr (0, [.int 0, .int 0, .int 0, .int 0])), ((p1 12), .inl (cI, 3, .inl (fun _ => 0))), ((p1 11), .inl (cI, 3, .inl (fun _ => 0))), ((p1 28), .inr (0, [.int 0, .int 0, .int 0, .int 0])), ((p0 2), .inr (0, [.int 0, .int 0, .int 0, .int 0]))] := hD
  refine lv_aload_n hx hb dX4_climb_33 rfl (lv_at hl 0 rfl) ?_
  refine lv_iconst (v := 1) hx hb dX4_climb_34 (by decide +kernel) ?_
  refine k_put (D := (dC, dI)) (ci := 4) (v := .int 1) (C := RX4) (T := TX4) (N := 6) (ws' := [((p0 0), .inr (4, [.ref (p0 1), .ref (p0 2), .ref (p0 3), .ref (p1 1), .int 0, .int 1])), ((p1 1), .inr (5, [.ref (p1 2), .ref (p1 3), .ref (p1 4), .ref (p1 5), .ref (p1 6), .ref (p1 7), .ref (p1 8), .ref (p1 9), .ref (p1 10), .ref (p1 11), .ref (p1 12), .ref (p1 13), .int 0, .int 0, .int 0, .int 0, .int 0, .int 100, .int 0, .int 0])), ((p0 1), .inl (cI, 9216, .inl (fun _ => 0))), ((p0 3), .inr (0, [.int 0, .int 0, .int 0, .int 0])), ((p1 12), .inl (cI, 3, .inl (fun _ => 0))), ((p1 11), .inl (cI, 3, .inl (fun _ => 0))), ((p1 28), .inr (0, [.int 0, .int 0, .int 0, .int 0])), ((p0 2), .inr (0, [.int 0, .int 0, .int 0, .int 0]))]) hx hb hts hinX4 tyX4 tyX4_ok nmX4 hown hK hP hD hS 0 rfl rfl 5 (by decide) w_0 rfl rfl rfl rfl (Nat.le_of_ble_eq_true rfl) rfl dX4_climb_35 (fun H locs hP hD hS => ?_)
  refine lv_aload_n hx hb dX4_climb_38 rfl (lv_at hl 0 rfl) ?_
  refine lv_iconst (v := 1) hx hb dX4_climb_39 (by decide +kernel) ?_
  refine lv_aload_n hx hb dX4_climb_40 rfl (lv_at hl 0 rfl) ?_
  refine k_get (D := (dC, dI)) (ci := 4) (v := .ref (p1 1)) (C := RX4) (T := TX4) (N := 6) hx hb hts hinX4 hown hK hP 0 rfl rfl 3 (by decide) w_1 rfl rfl dX4_climb_41 ?_
  refine k_get (D := (dC, dI)) (ci := 5) (v := .int 0) (C := RX5) (T := TX5) (N := 20) hx hb hts hinX5 hown hK hP 1 rfl rfl 13 (by decide) w_3 rfl rfl dX4_climb_44 ?_
  refine lv_ishl hx hb dX4_climb_47 ?_
  refine k_int (v := 1) (by decide +kernel) ?_
  refine k_put (D := (dC, dI)) (ci := 4) (v := .int 1) (C := RX4) (T := TX4) (N := 6) (ws' := [((p0 0), .inr (4, [.ref (p0 1), .ref (p0 2), .ref (p0 3), .ref (p1 1), .int 1, .int 1])), ((p1 1), .inr (5, [.ref (p1 2), .ref (p1 3), .ref (p1 4), .ref (p1 5), .ref (p1 6), .ref (p1 7), .ref (p1 8), .ref (p1 9), .ref (p1 10), .ref (p1 11), .ref (p1 12), .ref (p1 13), .int 0, .int 0, .int 0, .int 0, .int 0, .int 100, .int 0, .int 0])), ((p0 1), .inl (cI, 9216, .inl (fun _ => 0))), ((p0 3), .inr (0, [.int 0, .int 0, .int 0, .int 0])), ((p1 12), .inl (cI, 3, .inl (fun _ => 0))), ((p1 11), .inl (cI, 3, .inl (fun _ => 0))), ((p1 28), .inr (0, [.int 0, .int 0, .int 0, .int 0])), ((p0 2), .inr (0, [.int 0, .int 0, .int 0, .int 0]))]) hx hb hts hinX4 tyX4 tyX4_ok nmX4 hown hK hP hD hS 0 rfl rfl 4 (by decide) w_4 rfl rfl rfl rfl (Nat.le_of_ble_eq_true rfl) rfl dX4_climb_48 (fun H locs hP hD hS => ?_)
  refine lv_aload_n hx hb dX4_climb_51 rfl (lv_at hl 0 rfl) ?_
  refine k_get (D := (dC, dI)) (ci := 4) (v := .ref (p0 1)) (C := RX4) (T := TX4) (N := 6) hx hb hts hinX4 hown hK hP 0 rfl rfl 0 (by decide) w_5 rfl rfl dX4_climb_52 ?_
  refine lv_iconst (v := 0) hx hb dX4_climb_55 (by decide +kernel) ?_
  refine lv_bipush (v := 9) hx hb dX4_climb_56 (by decide +kernel) ?_
  refine lv_aload_n hx hb dX4_climb_58 rfl (lv_at hl 0 rfl) ?_
  refine k_get (D := (dC, dI)) (ci := 4) (v := .int 1) (C := RX4) (T := TX4) (N := 6) hx hb hts hinX4 hown hK hP 0 rfl rfl 4 (by decide) w_4 rfl rfl dX4_climb_59 ?_
  refine lv_imul hx hb dX4_climb_62 ?_
  refine k_int (v := 9) (by decide +kernel) ?_
  refine lv_ldc (v := 2147483647) hx hb hown w_6 dX4_climb_63 ?_
  refine k_cv (wc := [((p0 1), .inl (cI, 9216, .inl (fun _ => 0)))]) (wr := [((p0 0), .inr (4, [.ref (p0 1), .ref (p0 2), .ref (p0 3), .ref (p1 1), .int 1, .int 1])), ((p1 1), .inr (5, [.ref (p1 2), .ref (p1 3), .ref (p1 4), .ref (p1 5), .ref (p1 6), .ref (p1 7), .ref (p1 8), .ref (p1 9), .ref (p1 10), .ref (p1 11), .ref (p1 12), .ref (p1 13), .int 0, .int 0, .int 0, .int 0, .int 0, .int 100, .int 0, .int 0])), ((p0 3), .inr (0, [.int 0, .int 0, .int 0, .int 0])), ((p1 12), .inl (cI, 3, .inl (fun _ => 0))), ((p1 11), .inl (cI, 3, .inl (fun _ => 0))), ((p1 28), .inr (0, [.int 0, .int 0, .int 0, .int 0])), ((p0 2), .inr (0, [.int 0, .int 0, .int 0, .int 0]))]) (fun hPc hDc hFc => va_runS (As := [.ref (p0 1), .int 0, .int 9, .int 2147483647]) (rest := []) ⟨hx, hb, hml, hown, hts⟩ (c_J7_fill_fda19_v0 l dC dI cI cJ cZ cM p0 H.size) (va_cwS 4 hts gX4_climb_J7_fill_fda19 rfl rfl rfl (by decide +kernel) ⟨(Nat.le_of_ble_eq_true rfl), (Nat.le_of_ble_eq_true rfl)⟩) (k_pS hPc hDc hK hN hC hS hFc) rfl rfl hl.1 rfl (lv_room (Nat.le_of_ble_eq_true rfl)) dX4_climb_65 ⟨(Nat.le_of_ble_eq_true rfl), (Nat.le_of_ble_eq_true rfl)⟩) hP hD hS hA [2] [0, 1, 3, 4, 5, 6, 7] rfl rfl rfl rfl (by decide) (fun _ => rfl) 0 0 rfl rfl (fun u_4 H locs hw hP hD hS => ?_)
  have hP : va_P (dC, dI) vwCl [((p0 0), .inr (4, [.ref (p0 1), .ref (p0 2), .ref (p0 3), .ref (p1 1), .int 1, .int 1])), ((p1 1), .inr (5, [.ref (p1 2), .ref (p1 3), .ref (p1 4), .ref (p1 5), .ref (p1 6), .ref (p1 7), .ref (p1 8), .ref (p1 9), .ref (p1 10), .ref (p1 11), .ref (p1 12), .ref (p1 13), .int 0, .int 0, .int 0, .int 0, .int 0, .int 100, .int 0, .int 0])), ((p0 3), .inr (0, [.int 0, .int 0, .int 0, .int 0])), ((p1 12), .inl (cI, 3, .inl (fun _ => 0))), ((p1 11), .inl (cI, 3, .inl (fun _ => 0))), ((p1 28), .inr (0, [.int 0, .int 0, .int 0, .int 0])), ((p0 2), .inr (0, [.int 0, .int 0, .int 0, .int 0])), ((p0 1), .inl (cI, 9216, .inl (fun k => if 0 ≤ k ∧ k < 9 then 2147483647 else 0)))] H := hP
  have hD : va_D A [((p0 0), .inr (4, [.ref (p0 1), .ref (p0 2), .ref (p0 3), .ref (p1 1), .int 1, .int 1])), ((p1 1), .inr (5, [.ref (p1 2), .ref (p1 3), .ref (p1 4), .ref (p1 5), .ref (p1 6), .ref (p1 7), .ref (p1 8), .ref (p1 9), .ref (p1 10), .ref (p1 11), .ref (p1 12), .ref (p1 13), .int 0, .int 0, .int 0, .int 0, .int 0, .int 100, .int 0, .int 0])), ((p0 3), .inr (0, [.int 0, .int 0, .int 0, .int 0])), ((p1 12), .inl (cI, 3, .inl (fun _ => 0))), ((p1 11), .inl (cI, 3, .inl (fun _ => 0))), ((p1 28), .inr (0, [.int 0, .int 0, .int 0, .int 0])), ((p0 2), .inr (0, [.int 0, .int 0, .int 0, .int 0])), ((p0 1), .inl (cI, 9216, .inl (fun k => if 0 ≤ k ∧ k < 9 then 2147483647 else 0)))] := hD
  refine lv_aload_n hx hb dX4_climb_68 rfl (lv_at hl 2 rfl) ?_
  refine k_get (D := (dC, dI)) (ci := 0) (v := .int 0) (C := RX0) (T := TX0) (N := 4) hx hb hts hinX0 hown hK hP 5 rfl rfl 0 (by decide) w_7 rfl rfl dX4_climb_69 ?_
  refine lv_if_lt (tgt := 102) hx hb dX4_climb_72 (by decide) (fun q9 => absurd q9 (by decide +kernel)) (fun _ => ?_)
  refine lv_aload_n hx hb dX4_climb_75 rfl (lv_at hl 2 rfl) ?_
  refine k_get (D := (dC, dI)) (ci := 0) (v := .int 0) (C := RX0) (T := TX0) (N := 4) hx hb hts hinX0 hown hK hP 5 rfl rfl 0 (by decide) w_7 rfl rfl dX4_climb_76 ?_
  refine lv_aload_n hx hb dX4_climb_79 rfl (lv_at hl 0 rfl) ?_
  refine k_get (D := (dC, dI)) (ci := 4) (v := .int 1) (C := RX4) (T := TX4) (N := 6) hx hb hts hinX4 hown hK hP 0 rfl rfl 4 (by decide) w_4 rfl rfl dX4_climb_80 ?_
  refine lv_icmp_ge (tgt := 102) hx hb dX4_climb_83 (by decide) (fun q9 => absurd q9 (by decide +kernel)) (fun _ => ?_)
  refine lv_aload_n hx hb dX4_climb_86 rfl (lv_at hl 0 rfl) ?_
  refine k_get (D := (dC, dI)) (ci := 4) (v := .ref (p0 1)) (C := RX4) (T := TX4) (N := 6) hx hb hts hinX4 hown hK hP 0 rfl rfl 0 (by decide) w_5 rfl rfl dX4_climb_87 ?_
  refine lv_aload_n hx hb dX4_climb_90 rfl (lv_at hl 2 rfl) ?_
  refine k_get (D := (dC, dI)) (ci := 0) (v := .int 0) (C := RX0) (T := TX0) (N := 4) hx hb hts hinX0 hown hK hP 5 rfl rfl 0 (by decide) w_7 rfl rfl dX4_climb_91 ?_
  refine lv_aload_n hx hb dX4_climb_94 rfl (lv_at hl 2 rfl) ?_
  refine k_get (D := (dC, dI)) (ci := 0) (v := .int 0) (C := RX0) (T := TX0) (N := 4) hx hb hts hinX0 hown hK hP 5 rfl rfl 1 (by decide) w_8 rfl rfl dX4_climb_95 ?_
  refine lv_bipush (v := 14) hx hb dX4_climb_98 (by decide +kernel) ?_
  refine lv_ishl hx hb dX4_climb_100 ?_
  refine k_int (v := 0) (by decide +kernel) ?_
  refine k_iast (g := (upd (fun k => if 0 ≤ k ∧ k < 9 then 2147483647 else 0) 0 0)) (ws' := [((p0 0), .inr (4, [.ref (p0 1), .ref (p0 2), .ref (p0 3), .ref (p1 1), .int 1, .int 1])), ((p1 1), .inr (5, [.ref (p1 2), .ref (p1 3), .ref (p1 4), .ref (p1 5), .ref (p1 6), .ref (p1 7), .ref (p1 8), .ref (p1 9), .ref (p1 10), .ref (p1 11), .ref (p1 12), .ref (p1 13), .int 0, .int 0, .int 0, .int 0, .int 0, .int 100, .int 0, .int 0])), ((p0 3), .inr (0, [.int 0, .int 0, .int 0, .int 0])), ((p1 12), .inl (cI, 3, .inl (fun _ => 0))), ((p1 11), .inl (cI, 3, .inl (fun _ => 0))), ((p1 28), .inr (0, [.int 0, .int 0, .int 0, .int 0])), ((p0 2), .inr (0, [.int 0, .int 0, .int 0, .int 0])), ((p0 1), .inl (cI, 9216, .inl (upd (fun k => if 0 ≤ k ∧ k < 9 then 2147483647 else 0) 0 0)))]) hx hb hK hP hD hS 7 0 0 rfl rfl rfl (Nat.le_of_ble_eq_true rfl) (Nat.le_of_ble_eq_true rfl) rfl rfl dX4_climb_101 (fun H locs hP hD hS => ?_)
  refine lv_iconst (v := 0) hx hb dX4_climb_102 (by decide +kernel) ?_
  refine lv_istore_n (lv' := [(3, .int 0), (0, .ref (p0 0)), (1, .ref (p1 1)), (2, .ref (p1 28))]) hx hb dX4_climb_103 rfl hl (by decide) rfl (fun ls hl => ?_)
  refine lv_iload_n hx hb dX4_climb_104 rfl (lv_at hl 0 rfl) ?_
  refine lv_bipush (v := 8) hx hb dX4_climb_105 (by decide +kernel) ?_
  refine lv_aload_n hx hb dX4_climb_107 rfl (lv_at hl 1 rfl) ?_
  refine k_get (D := (dC, dI)) (ci := 4) (v := .int 1) (C := RX4) (T := TX4) (N := 6) hx hb hts hinX4 hown hK hP 0 rfl rfl 4 (by decide) w_4 rfl rfl dX4_climb_108 ?_
  refine lv_imul hx hb dX4_climb_111 ?_
  refine k_int (v := 8) (by decide +kernel) ?_
  refine lv_icmp_ge (tgt := 137) hx hb dX4_climb_112 (by decide) (fun q9 => absurd q9 (by decide +kernel)) (fun _ => ?_)
  refine lv_aload_n hx hb dX4_climb_115 rfl (lv_at hl 1 rfl) ?_
  refine k_get (D := (dC, dI)) (ci := 4) (v := .ref (p0 1)) (C := RX4) (T := TX4) (N := 6) hx hb hts hinX4 hown hK hP 0 rfl rfl 0 (by decide) w_5 rfl rfl dX4_climb_116 ?_
  refine lv_iload_n hx hb dX4_climb_119 rfl (lv_at hl 0 rfl) ?_
  refine k_iald (v := 0) hx hb hK hP 7 0 0 rfl rfl rfl (Nat.le_of_ble_eq_true rfl) (Nat.le_of_ble_eq_true rfl) rfl dX4_climb_120 ?_
  refine lv_ldc (v := 2147483647) hx hb hown w_6 dX4_climb_121 ?_
  refine lv_icmp_eq (tgt := 131) hx hb dX4_climb_123 (by decide) (fun q9 => absurd q9 (by decide +kernel)) (fun _ => ?_)
  refine lv_aload_n hx hb dX4_climb_126 rfl (lv_at hl 1 rfl) ?_
  refine lv_iload_n hx hb dX4_climb_127 rfl (lv_at hl 0 rfl) ?_
  refine k_cv (wc := [((p0 0), .inr (4, [.ref (p0 1), .ref (p0 2), .ref (p0 3), .ref (p1 1), .int 1, .int 1])), ((p0 1), .inl (cI, 9216, .inl (upd (fun k => if 0 ≤ k ∧ k < 9 then 2147483647 else 0) 0 0))), ((p0 2), .inr (0, [.int 0, .int 0, .int 0, .int 0])), ((p0 3), .inr (0, [.int 0, .int 0, .int 0, .int 0])), ((p1 1), .inr (5, [.ref (p1 2), .ref (p1 3), .ref (p1 4), .ref (p1 5), .ref (p1 6), .ref (p1 7), .ref (p1 8), .ref (p1 9), .ref (p1 10), .ref (p1 11), .ref (p1 12), .ref (p1 13), .int 0, .int 0, .int 0, .int 0, .int 0, .int 100, .int 0, .int 0])), ((p1 12), .inl (cI, 3, .inl (fun _ => 0))), ((p1 11), .inl (cI, 3, .inl (fun _ => 0)))]) (wr := [((p1 28), .inr (0, [.int 0, .int 0, .int 0, .int 0]))]) (fun hPc hDc hFc => va_runV (As := [.int 0]) (rest := []) ⟨hx, hb, hml, hown, hts⟩ (c_X4_spread_v0 l dC dI cI cJ cZ cM p0 p1 H.size) (cwV 1 hts gX4_climb_X4_spread rfl rfl rfl (by decide +kernel) ⟨(Nat.le_of_ble_eq_true rfl), (Nat.le_of_ble_eq_true rfl)⟩) (k_pV hPc hDc hK hN hC hS hFc hP (q0 := 0) (ci := 4) rfl rfl) rfl rfl hl.1 rfl (lv_room (Nat.le_of_ble_eq_true rfl)) dX4_climb_128 ⟨(Nat.le_of_ble_eq_true rfl), (Nat.le_of_ble_eq_true rfl)⟩) hP hD hS hA [0, 7, 6, 2, 1, 3, 4] [5] rfl rfl rfl rfl (by decide) (fun _ => rfl) 0 0 rfl rfl (fun u_6 H locs hw hP hD hS => ?_)
  have hP : va_P (dC, dI) vwCl [((p1 28), .inr (0, [.int 0, .int 0, .int 0, .int 0])), ((p0 0), .inr (4, [.ref (p0 1), .ref (p0 2), .ref (p0 3), .ref (p1 1), .int 1, .int 1])), ((p0 1), .inl (cI, 9216, .inl (upd (fun k => if 0 ≤ k ∧ k < 9 then 2147483647 else 0) 0 0))), ((p0 2), .inr (0, [.int 0, .int 0, .int 0, .int 0])), ((p0 3), .inr (0, [.int 0, .int 0, .int 0, .int 0])), ((p1 1), .inr (5, [.ref (p1 2), .ref (p1 3), .ref (p1 4), .ref (p1 5), .ref (p1 6), .ref (p1 7), .ref (p1 8), .ref (p1 9), .ref (p1 10), .ref (p1 11), .ref (p1 12), .ref (p1 13), .int 0, .int 0, .int 0, .int 0, .int 0, .int 100, .int 0, .int 0])), ((p1 12), .inl (cI, 3, .inl (fun _ => 0))), ((p1 11), .inl (cI, 3, .inl (fun _ => 0)))] H := hP
  have hD : va_D A [((p1 28), .inr (0, [.int 0, .int 0, .int 0, .int 0])), ((p0 0), .inr (4, [.ref (p0 1), .ref (p0 2), .ref (p0 3), .ref (p1 1), .int 1, .int 1])), ((p0 1), .inl (cI, 9216, .inl (upd (fun k => if 0 ≤ k ∧ k < 9 then 2147483647 else 0) 0 0))), ((p0 2), .inr (0, [.int 0, .int 0, .int 0, .int 0])), ((p0 3), .inr (0, [.int 0, .int 0, .int 0, .int 0])), ((p1 1), .inr (5, [.ref (p1 2), .ref (p1 3), .ref (p1 4), .ref (p1 5), .ref (p1 6), .ref (p1 7), .ref (p1 8), .ref (p1 9), .ref (p1 10), .ref (p1 11), .ref (p1 12), .ref (p1 13), .int 0, .int 0, .int 0, .int 0, .int 0, .int 100, .int 0, .int 0])), ((p1 12), .inl (cI, 3, .inl (fun _ => 0))), ((p1 11), .inl (cI, 3, .inl (fun _ => 0)))] := hD
  refine lv_iinc (v := 1) (lv' := [(3, .int 1), (0, .ref (p0 0)), (1, .ref (p1 1)), (2, .ref (p1 28))]) hx hb dX4_climb_131 hl (k := 0) rfl (by decide +kernel) (by decide) rfl (fun ls hl => ?_)
  refine lv_goto (tgt := 104) hx hb dX4_climb_134 (by decide) ?_
  refine lv_iload_n hx hb dX4_climb_104 rfl (lv_at hl 0 rfl) ?_
  refine lv_bipush (v := 8) hx hb dX4_climb_105 (by decide +kernel) ?_
  refine lv_aload_n hx hb dX4_climb_107 rfl (lv_at hl 1 rfl) ?_
  refine k_get (D := (dC, dI)) (ci := 4) (v := .int 1) (C := RX4) (T := TX4) (N := 6) hx hb hts hinX4 hown hK hP 1 rfl rfl 4 (by decide) w_4 rfl rfl dX4_climb_108 ?_
  refine lv_imul hx hb dX4_climb_111 ?_
  refine k_int (v := 8) (by decide +kernel) ?_
  refine lv_icmp_ge (tgt := 137) hx hb dX4_climb_112 (by decide) (fun q9 => absurd q9 (by decide +kernel)) (fun _ => ?_)
  refine lv_aload_n hx hb dX4_climb_115 rfl (lv_at hl 1 rfl) ?_
  refine k_get (D := (dC, dI)) (ci := 4) (v := .ref (p0 1)) (C := RX4) (T := TX4) (N := 6) hx hb hts hinX4 hown hK hP 1 rfl rfl 0 (by decide) w_5 rfl rfl dX4_climb_116 ?_
  refine lv_iload_n hx hb dX4_climb_119 rfl (lv_at hl 0 rfl) ?_
  refine k_iald (v := 2147483647) hx hb hK hP 2 0 1 rfl rfl rfl (Nat.le_of_ble_eq_true rfl) (Nat.le_of_ble_eq_true rfl) rfl dX4_climb_120 ?_
  refine lv_ldc (v := 2147483647) hx hb hown w_6 dX4_climb_121 ?_
  refine lv_icmp_eq (tgt := 131) hx hb dX4_climb_123 (by decide) (fun _ => ?_) (fun q9 => absurd q9 (by decide +kernel))
  refine lv_iinc (v := 2) (lv' := [(3, .int 2), (0, .ref (p0 0)), (1, .ref (p1 1)), (2, .ref (p1 28))]) hx hb dX4_climb_131 hl (k := 0) rfl (by decide +kernel) (by decide) rfl (fun ls hl => ?_)
  refine lv_goto (tgt := 104) hx hb dX4_climb_134 (by decide) ?_
  refine lv_iload_n hx hb dX4_climb_104 rfl (lv_at hl 0 rfl) ?_
  refine lv_bipush (v := 8) hx hb dX4_climb_105 (by decide +kernel) ?_
  refine lv_aload_n hx hb dX4_climb_107 rfl (lv_at hl 1 rfl) ?_
  refine k_get (D := (dC, dI)) (ci := 4) (v := .int 1) (C := RX4) (T := TX4) (N := 6) hx hb hts hinX4 hown hK hP 1 rfl rfl 4 (by decide) w_4 rfl rfl dX4_climb_108 ?_
  refine lv_imul hx hb dX4_climb_111 ?_
  refine k_int (v := 8) (by decide +kernel) ?_
  refine lv_icmp_ge (tgt := 137) hx hb dX4_climb_112 (by decide) (fun q9 => absurd q9 (by decide +kernel)) (fun _ => ?_)
  refine lv_aload_n hx hb dX4_climb_115 rfl (lv_at hl 1 rfl) ?_
  refine k_get (D := (dC, dI)) (ci := 4) (v := .ref (p0 1)) (C := RX4) (T := TX4) (N := 6) hx hb hts hinX4 hown hK hP 1 rfl rfl 0 (by decide) w_5 rfl rfl dX4_climb_116 ?_
  refine lv_iload_n hx hb dX4_climb_119 rfl (lv_at hl 0 rfl) ?_
  refine k_iald (v := 2147483647) hx hb hK hP 2 0 2 rfl rfl rfl (Nat.le_of_ble_eq_true rfl) (Nat.le_of_ble_eq_true rfl) rfl dX4_climb_120 ?_
  refine lv_ldc (v := 2147483647) hx hb hown w_6 dX4_climb_121 ?_
  refine lv_icmp_eq (tgt := 131) hx hb dX4_climb_123 (by decide) (fun _ => ?_) (fun q9 => absurd q9 (by decide +kernel))
  refine lv_iinc (v := 3) (lv' := [(3, .int 3), (0, .ref (p0 0)), (1, .ref (p1 1)), (2, .ref (p1 28))]) hx hb dX4_climb_131 hl (k := 0) rfl (by decide +kernel) (by decide) rfl (fun ls hl => ?_)
  refine lv_goto (tgt := 104) hx hb dX4_climb_134 (by decide) ?_
  refine lv_iload_n hx hb dX4_climb_104 rfl (lv_at hl 0 rfl) ?_
  refine lv_bipush (v := 8) hx hb dX4_climb_105 (by decide +kernel) ?_
  refine lv_aload_n hx hb dX4_climb_107 rfl (lv_at hl 1 rfl) ?_
  refine k_get (D := (dC, dI)) (ci := 4) (v := .int 1) (C := RX4) (T := TX4) (N := 6) hx hb hts hinX4 hown hK hP 1 rfl rfl 4 (by decide) w_4 rfl rfl dX4_climb_108 ?_
  refine lv_imul hx hb dX4_climb_111 ?_
  refine k_int (v := 8) (by decide +kernel) ?_
  refine lv_icmp_ge (tgt := 137) hx hb dX4_climb_112 (by decide) (fun q9 => absurd q9 (by decide +kernel)) (fun _ => ?_)
  refine lv_aload_n hx hb dX4_climb_115 rfl (lv_at hl 1 rfl) ?_
  refine k_get (D := (dC, dI)) (ci := 4) (v := .ref (p0 1)) (C := RX4) (T := TX4) (N := 6) hx hb hts hinX4 hown hK hP 1 rfl rfl 0 (by decide) w_5 rfl rfl dX4_climb_116 ?_
  refine lv_iload_n hx hb dX4_climb_119 rfl (lv_at hl 0 rfl) ?_
  refine k_iald (v := 2147483647) hx hb hK hP 2 0 3 rfl rfl rfl (Nat.le_of_ble_eq_true rfl) (Nat.le_of_ble_eq_true rfl) rfl dX4_climb_120 ?_
  refine lv_ldc (v := 2147483647) hx hb hown w_6 dX4_climb_121 ?_
  refine lv_icmp_eq (tgt := 131) hx hb dX4_climb_123 (by decide) (fun _ => ?_) (fun q9 => absurd q9 (by decide +kernel))
  refine lv_iinc (v := 4) (lv' := [(3, .int 4), (0, .ref (p0 0)), (1, .ref (p1 1)), (2, .ref (p1 28))]) hx hb dX4_climb_131 hl (k := 0) rfl (by decide +kernel) (by decide) rfl (fun ls hl => ?_)
  refine lv_goto (tgt := 104) hx hb dX4_climb_134 (by decide) ?_
  refine lv_iload_n hx hb dX4_climb_104 rfl (lv_at hl 0 rfl) ?_
  refine lv_bipush (v := 8) hx hb dX4_climb_105 (by decide +kernel) ?_
  refine lv_aload_n hx hb dX4_climb_107 rfl (lv_at hl 1 rfl) ?_
  refine k_get (D := (dC, dI)) (ci := 4) (v := .int 1) (C := RX4) (T := TX4) (N := 6) hx hb hts hinX4 hown hK hP 1 rfl rfl 4 (by decide) w_4 rfl rfl dX4_climb_108 ?_
  refine lv_imul hx hb dX4_climb_111 ?_
  refine k_int (v := 8) (by decide +kernel) ?_
  refine lv_icmp_ge (tgt := 137) hx hb dX4_climb_112 (by decide) (fun q9 => absurd q9 (by decide +kernel)) (fun _ => ?_)
  refine lv_aload_n hx hb dX4_climb_115 rfl (lv_at hl 1 rfl) ?_
  refine k_get (D := (dC, dI)) (ci := 4) (v := .ref (p0 1)) (C := RX4) (T := TX4) (N := 6) hx hb hts hinX4 hown hK hP 1 rfl rfl 0 (by decide) w_5 rfl rfl dX4_climb_116 ?_
  refine lv_iload_n hx hb dX4_climb_119 rfl (lv_at hl 0 rfl) ?_
  refine k_iald (v := 2147483647) hx hb hK hP 2 0 4 rfl rfl rfl (Nat.le_of_ble_eq_true rfl) (Nat.le_of_ble_eq_true rfl) rfl dX4_climb_120 ?_
  refine lv_ldc (v := 2147483647) hx hb hown w_6 dX4_climb_121 ?_
  refine lv_icmp_eq (tgt := 131) hx hb dX4_climb_123 (by decide) (fun _ => ?_) (fun q9 => absurd q9 (by decide +kernel))
  refine lv_iinc (v := 5) (lv' := [(3, .int 5), (0, .ref (p0 0)), (1, .ref (p1 1)), (2, .ref (p1 28))]) hx hb dX4_climb_131 hl (k := 0) rfl (by decide +kernel) (by decide) rfl (fun ls hl => ?_)
  refine lv_goto (tgt := 104) hx hb dX4_climb_134 (by decide) ?_
  refine lv_iload_n hx hb dX4_climb_104 rfl (lv_at hl 0 rfl) ?_
  refine lv_bipush (v := 8) hx hb dX4_climb_105 (by decide +kernel) ?_
  refine lv_aload_n hx hb dX4_climb_107 rfl (lv_at hl 1 rfl) ?_
  refine k_get (D := (dC, dI)) (ci := 4) (v := .int 1) (C := RX4) (T := TX4) (N := 6) hx hb hts hinX4 hown hK hP 1 rfl rfl 4 (by decide) w_4 rfl rfl dX4_climb_108 ?_
  refine lv_imul hx hb dX4_climb_111 ?_
  refine k_int (v := 8) (by decide +kernel) ?_
  refine lv_icmp_ge (tgt := 137) hx hb dX4_climb_112 (by decide) (fun q9 => absurd q9 (by decide +kernel)) (fun _ => ?_)
  refine lv_aload_n hx hb dX4_climb_115 rfl (lv_at hl 1 rfl) ?_
  refine k_get (D := (dC, dI)) (ci := 4) (v := .ref (p0 1)) (C := RX4) (T := TX4) (N := 6) hx hb hts hinX4 hown hK hP 1 rfl rfl 0 (by decide) w_5 rfl rfl dX4_climb_116 ?_
  refine lv_iload_n hx hb dX4_climb_119 rfl (lv_at hl 0 rfl) ?_
  refine k_iald (v := 2147483647) hx hb hK hP 2 0 5 rfl rfl rfl (Nat.le_of_ble_eq_true rfl) (Nat.le_of_ble_eq_true rfl) rfl dX4_climb_120 ?_
  refine lv_ldc (v := 2147483647) hx hb hown w_6 dX4_climb_121 ?_
  refine lv_icmp_eq (tgt := 131) hx hb dX4_climb_123 (by decide) (fun _ => ?_) (fun q9 => absurd q9 (by decide +kernel))
  refine lv_iinc (v := 6) (lv' := [(3, .int 6), (0, .ref (p0 0)), (1, .ref (p1 1)), (2, .ref (p1 28))]) hx hb dX4_climb_131 hl (k := 0) rfl (by decide +kernel) (by decide) rfl (fun ls hl => ?_)
  refine lv_goto (tgt := 104) hx hb dX4_climb_134 (by decide) ?_
  refine lv_iload_n hx hb dX4_climb_104 rfl (lv_at hl 0 rfl) ?_
  refine lv_bipush (v := 8) hx hb dX4_climb_105 (by decide +kernel) ?_
  refine lv_aload_n hx hb dX4_climb_107 rfl (lv_at hl 1 rfl) ?_
  refine k_get (D := (dC, dI)) (ci := 4) (v := .int 1) (C := RX4) (T := TX4) (N := 6) hx hb hts hinX4 hown hK hP 1 rfl rfl 4 (by decide) w_4 rfl rfl dX4_climb_108 ?_
  refine lv_imul hx hb dX4_climb_111 ?_
  refine k_int (v := 8) (by decide +kernel) ?_
  refine lv_icmp_ge (tgt := 137) hx hb dX4_climb_112 (by decide) (fun q9 => absurd q9 (by decide +kernel)) (fun _ => ?_)
  refine lv_aload_n hx hb dX4_climb_115 rfl (lv_at hl 1 rfl) ?_
  refine k_get (D := (dC, dI)) (ci := 4) (v := .ref (p0 1)) (C := RX4) (T := TX4) (N := 6) hx hb hts hinX4 hown hK hP 1 rfl rfl 0 (by decide) w_5 rfl rfl dX4_climb_116 ?_
  refine lv_iload_n hx hb dX4_climb_119 rfl (lv_at hl 0 rfl) ?_
  refine k_iald (v := 2147483647) hx hb hK hP 2 0 6 rfl rfl rfl (Nat.le_of_ble_eq_true rfl) (Nat.le_of_ble_eq_true rfl) rfl dX4_climb_120 ?_
  refine lv_ldc (v := 2147483647) hx hb hown w_6 dX4_climb_121 ?_
  refine lv_icmp_eq (tgt := 131) hx hb dX4_climb_123 (by decide) (fun _ => ?_) (fun q9 => absurd q9 (by decide +kernel))
  refine lv_iinc (v := 7) (lv' := [(3, .int 7), (0, .ref (p0 0)), (1, .ref (p1 1)), (2, .ref (p1 28))]) hx hb dX4_climb_131 hl (k := 0) rfl (by decide +kernel) (by decide) rfl (fun ls hl => ?_)
  refine lv_goto (tgt := 104) hx hb dX4_climb_134 (by decide) ?_
  refine lv_iload_n hx hb dX4_climb_104 rfl (lv_at hl 0 rfl) ?_
  refine lv_bipush (v := 8) hx hb dX4_climb_105 (by decide +kernel) ?_
  refine lv_aload_n hx hb dX4_climb_107 rfl (lv_at hl 1 rfl) ?_
  refine k_get (D := (dC, dI)) (ci := 4) (v := .int 1) (C := RX4) (T := TX4) (N := 6) hx hb hts hinX4 hown hK hP 1 rfl rfl 4 (by decide) w_4 rfl rfl dX4_climb_108 ?_
  refine lv_imul hx hb dX4_climb_111 ?_
  refine k_int (v := 8) (by decide +kernel) ?_
  refine lv_icmp_ge (tgt := 137) hx hb dX4_climb_112 (by decide) (fun q9 => absurd q9 (by decide +kernel)) (fun _ => ?_)
  refine lv_aload_n hx hb dX4_climb_115 rfl (lv_at hl 1 rfl) ?_
  refine k_get (D := (dC, dI)) (ci := 4) (v := .ref (p0 1)) (C := RX4) (T := TX4) (N := 6) hx hb hts hinX4 hown hK hP 1 rfl rfl 0 (by decide) w_5 rfl rfl dX4_climb_116 ?_
  refine lv_iload_n hx hb dX4_climb_119 rfl (lv_at hl 0 rfl) ?_
  refine k_iald (v := 2147483647) hx hb hK hP 2 0 7 rfl rfl rfl (Nat.le_of_ble_eq_true rfl) (Nat.le_of_ble_eq_true rfl) rfl dX4_climb_120 ?_
  refine lv_ldc (v := 2147483647) hx hb hown w_6 dX4_climb_121 ?_
  refine lv_icmp_eq (tgt := 131) hx hb dX4_climb_123 (by decide) (fun _ => ?_) (fun q9 => absurd q9 (by decide +kernel))
  refine lv_iinc (v := 8) (lv' := [(3, .int 8), (0, .ref (p0 0)), (1, .ref (p1 1)), (2, .ref (p1 28))]) hx hb dX4_climb_131 hl (k := 0) rfl (by decide +kernel) (by decide) rfl (fun ls hl => ?_)
  refine lv_goto (tgt := 104) hx hb dX4_climb_134 (by decide) ?_
  refine lv_iload_n hx hb dX4_climb_104 rfl (lv_at hl 0 rfl) ?_
  refine lv_bipush (v := 8) hx hb dX4_climb_105 (by decide +kernel) ?_
  refine lv_aload_n hx hb dX4_climb_107 rfl (lv_at hl 1 rfl) ?_
  refine k_get (D := (dC, dI)) (ci := 4) (v := .int 1) (C := RX4) (T := TX4) (N := 6) hx hb hts hinX4 hown hK hP 1 rfl rfl 4 (by decide) w_4 rfl rfl dX4_climb_108 ?_
  refine lv_imul hx hb dX4_climb_111 ?_
  refine k_int (v := 8) (by decide +kernel) ?_
  refine lv_icmp_ge (tgt := 137) hx hb dX4_climb_112 (by decide) (fun _ => ?_) (fun q9 => absurd q9 (by decide +kernel))
  refine lv_aload_n hx hb dX4_climb_137 rfl (lv_at hl 1 rfl) ?_
  exact k_rr B hP hD hS dX4_climb_138 () [1, 0, 3, 5, 2, 4, 6, 7] (by first | exact Or.inl ⟨_, rfl⟩ | exact Or.inr ⟨_, rfl⟩) rfl rfl (Nat.le_of_ble_eq_true rfl) (Nat.le_of_ble_eq_true rfl) rfl
set_option maxHeartbeats 4000000 in
set_option maxRecDepth 100000 in
theorem c_X4_count_v0 (l : Launch) (dC : Nat → ClassId) (dI : Nat → Nat → Nat) (cI cJ cZ cM : ClassId) (p0 : Nat → Nat) (p1 : Int32) (p2 : Nat → Nat) (b_0 : 0 ≤ p1.toInt) (t_0 : p1.toInt ≤ 8)  : k_Mi l yX4_count wsX4_count ({ frames := 1, cells := 0, slots := 0, locals := 40 }) (dC, dI) vwCl (tyy cI cJ cZ cM) [((p0 0), .inr (4, [.ref (p0 1), .ref (p0 2), .ref (p0 3), .ref (p2 1), .int 1, .int 1])), ((p0 1), .inl (cI, 9216, .inl (upd (fun k => if 0 ≤ k ∧ k < 9 then 2147483647 else 0) 0 0)))] [.ref (p0 0), .int p1] 0 0 (fun (u9 : (Nat × (Nat → Nat))) => [((p0 0), .inr (4, [.ref (p0 1), .ref (p0 2), .ref (p0 3), .ref (p2 1), .int 1, .int 1])), ((p0 1), .inl (cI, 9216, .inl (upd (fun k => if 0 ≤ k ∧ k < 9 then 2147483647 else 0) 0 0)))]) (fun (r9 : Int32) (u9 : (Nat × (Nat → Nat))) => match u9.1 with | 0 => (p1.toInt = 0) ∧ r9 = 1 | 1 => (p1.toInt = 1) ∧ r9 = 0 | 2 => (p1.toInt = 2) ∧ r9 = 0 | 3 => (p1.toInt = 3) ∧ r9 = 0 | 4 => (p1.toInt = 4) ∧ r9 = 0 | 5 => (p1.toInt = 5) ∧ r9 = 0 | 6 => (p1.toInt = 6) ∧ r9 = 0 | 7 => (p1.toInt = 7) ∧ r9 = 0 | 8 => (p1.toInt = 8) ∧ r9 = 0 | _ => False) := by
  refine fun sz => k_enter (cc := cX4_count) (maxL := 4) (ret := some (.int)) (Qc := fun A => va_Qi (fun (r9 : Int32) (u9 : (Nat × (Nat → Nat))) => match u9.1 with | 0 => (p1.toInt = 0) ∧ r9 = 1 | 1 => (p1.toInt = 1) ∧ r9 = 0 | 2 => (p1.toInt = 2) ∧ r9 = 0 | 3 => (p1.toInt = 3) ∧ r9 = 0 | 4 => (p1.toInt = 4) ∧ r9 = 0 | 5 => (p1.toInt = 5) ∧ r9 = 0 | 6 => (p1.toInt = 6) ∧ r9 = 0 | 7 => (p1.toInt = 7) ∧ r9 = 0 | 8 => (p1.toInt = 8) ∧ r9 = 0 | _ => False) (fun u => k_B (dC, dI) vwCl (tyy cI cJ cZ cM) A ((fun (u9 : (Nat × (Nat → Nat))) => [((p0 0), .inr (4, [.ref (p0 1), .ref (p0 2), .ref (p0 3), .ref (p2 1), .int 1, .int 1])), ((p0 1), .inl (cI, 9216, .inl (upd (fun k => if 0 ≤ k ∧ k < 9 then 2147483647 else 0) 0 0)))]) u)) A) sz (by decide +kernel) rfl (Nat.le_of_ble_eq_true rfl) (fun p e s m args below meth c A ls H locs B hP hD hS hl => ?_)
  obtain ⟨hx, hb, hml, hown, hts, hr, hlk, hnm, hK, hA, hN, hC⟩ := id B
  have hown : s.vm.findClass RX4 = some m.cls := hown
  have hl : lv_has ls 4 [(0, .ref (p0 0)), (1, .int p1)] := hl
  have w_0 : (Cond.fieldLink RX4 47 "WishSea$Rungs" "sets" "I").before args s = true := hts _ (List.mem_of_getElem? (i := 1) rfl)
  have w_1 : (Cond.fieldLink RX4 9 "WishSea$Rungs" "table" "[I").before args s = true := hts _ (List.mem_of_getElem? (i := 2) rfl)
  have w_2 : (Cond.constant RX4 50 (2147483647)).before args s = true := hts _ (List.mem_of_getElem? (i := 3) rfl)
  have hinX4 : ∀ w ∈ u_ws RX4 TX4 6, w ∈ wsX4_count := fun _ h => List.mem_cons_of_mem _ (List.mem_append_right _ h)
  rcases (show p1.toInt = 0 ∨ p1.toInt = 1 ∨ p1.toInt = 2 ∨ p1.toInt = 3 ∨ p1.toInt = 4 ∨ p1.toInt = 5 ∨ p1.toInt = 6 ∨ p1.toInt = 7 ∨ p1.toInt = 8 by omega) with c_1 | c_1 | c_1 | c_1 | c_1 | c_1 | c_1 | c_1 | c_1
  · obtain rfl : p1 = 0 := k_eqL (by decide +kernel) c_1
    refine lv_iconst (v := 0) hx hb dX4_count_0 (by decide +kernel) ?_
    refine lv_istore_n (lv' := [(2, .int 0), (0, .ref (p0 0)), (1, .int 0)]) hx hb dX4_count_1 rfl hl (by decide) rfl (fun ls hl => ?_)
    refine lv_iload_n hx hb dX4_count_2 rfl (lv_at hl 2 rfl) ?_
    refine lv_aload_n hx hb dX4_count_3 rfl (lv_at hl 1 rfl) ?_
    refine k_get (D := (dC, dI)) (ci := 4) (v := .int 1) (C := RX4) (T := TX4) (N := 6) hx hb hts hinX4 hown hK hP 0 rfl rfl 4 (by decide) w_0 rfl rfl dX4_count_4 ?_
    refine lv_imul hx hb dX4_count_7 ?_
    refine k_int (v := 0) (by decide +kernel) ?_
    refine lv_istore_n (lv' := [(3, .int 0), (2, .int 0), (0, .ref (p0 0)), (1, .int 0)]) hx hb dX4_count_8 rfl hl (by decide) rfl (fun ls hl => ?_)
    refine lv_iload_n hx hb dX4_count_9 rfl (lv_at hl 0 rfl) ?_
    refine lv_iload_n hx hb dX4_count_10 rfl (lv_at hl 3 rfl) ?_
    refine lv_iconst (v := 1) hx hb dX4_count_11 (by decide +kernel) ?_
    refine lv_iadd hx hb dX4_count_12 ?_
    refine k_int (v := 1) (by decide +kernel) ?_
    refine lv_aload_n hx hb dX4_count_13 rfl (lv_at hl 2 rfl) ?_
    refine k_get (D := (dC, dI)) (ci := 4) (v := .int 1) (C := RX4) (T := TX4) (N := 6) hx hb hts hinX4 hown hK hP 0 rfl rfl 4 (by decide) w_0 rfl rfl dX4_count_14 ?_
    refine lv_imul hx hb dX4_count_17 ?_
    refine k_int (v := 1) (by decide +kernel) ?_
    refine lv_icmp_ge (tgt := 50) hx hb dX4_count_18 (by decide) (fun q9 => absurd q9 (by decide +kernel)) (fun _ => ?_)
    refine lv_iload_n hx hb dX4_count_21 rfl (lv_at hl 0 rfl) ?_
    refine lv_aload_n hx hb dX4_count_22 rfl (lv_at hl 2 rfl) ?_
    refine k_get (D := (dC, dI)) (ci := 4) (v := .ref (p0 1)) (C := RX4) (T := TX4) (N := 6) hx hb hts hinX4 hown hK hP 0 rfl rfl 0 (by decide) w_1 rfl rfl dX4_count_23 ?_
    refine va_alen (v := 9216) hx hb hK hP 1 0 rfl rfl rfl dX4_count_26 ?_
    refine lv_icmp_ge (tgt := 50) hx hb dX4_count_27 (by decide) (fun q9 => absurd q9 (by decide +kernel)) (fun _ => ?_)
    refine lv_aload_n hx hb dX4_count_30 rfl (lv_at hl 2 rfl) ?_
    refine k_get (D := (dC, dI)) (ci := 4) (v := .ref (p0 1)) (C := RX4) (T := TX4) (N := 6) hx hb hts hinX4 hown hK hP 0 rfl rfl 0 (by decide) w_1 rfl rfl dX4_count_31 ?_
    refine lv_iload_n hx hb dX4_count_34 rfl (lv_at hl 0 rfl) ?_
    refine k_iald (v := 0) hx hb hK hP 1 0 0 rfl rfl rfl (Nat.le_of_ble_eq_true rfl) (Nat.le_of_ble_eq_true rfl) rfl dX4_count_35 ?_
    refine lv_ldc (v := 2147483647) hx hb hown w_2 dX4_count_36 ?_
    refine lv_icmp_eq (tgt := 44) hx hb dX4_count_38 (by decide) (fun q9 => absurd q9 (by decide +kernel)) (fun _ => ?_)
    refine lv_iinc (v := 1) (lv' := [(2, .int 1), (3, .int 0), (0, .ref (p0 0)), (1, .int 0)]) hx hb dX4_count_41 hl (k := 1) rfl (by decide +kernel) (by decide) rfl (fun ls hl => ?_)
    refine lv_iinc (v := 1) (lv' := [(3, .int 1), (2, .int 1), (0, .ref (p0 0)), (1, .int 0)]) hx hb dX4_count_44 hl (k := 1) rfl (by decide +kernel) (by decide) rfl (fun ls hl => ?_)
    refine lv_goto (tgt := 9) hx hb dX4_count_47 (by decide) ?_
    refine lv_iload_n hx hb dX4_count_9 rfl (lv_at hl 0 rfl) ?_
    refine lv_iload_n hx hb dX4_count_10 rfl (lv_at hl 3 rfl) ?_
    refine lv_iconst (v := 1) hx hb dX4_count_11 (by decide +kernel) ?_
    refine lv_iadd hx hb dX4_count_12 ?_
    refine k_int (v := 1) (by decide +kernel) ?_
    refine lv_aload_n hx hb dX4_count_13 rfl (lv_at hl 2 rfl) ?_
    refine k_get (D := (dC, dI)) (ci := 4) (v := .int 1) (C := RX4) (T := TX4) (N := 6) hx hb hts hinX4 hown hK hP 0 rfl rfl 4 (by decide) w_0 rfl rfl dX4_count_14 ?_
    refine lv_imul hx hb dX4_count_17 ?_
    refine k_int (v := 1) (by decide +kernel) ?_
    refine lv_icmp_ge (tgt := 50) hx hb dX4_count_18 (by decide) (fun _ => ?_) (fun q9 => absurd q9 (by decide +kernel))
    refine lv_iload_n hx hb dX4_count_50 rfl (lv_at hl 1 rfl) ?_
    exact k_ri B hP hD hS dX4_count_51 (0, (fun _ => 0)) [0, 1] rfl rfl rfl (Nat.le_of_ble_eq_true rfl) (Nat.le_of_ble_eq_true rfl) ⟨c_1, rfl⟩
  · obtain rfl : p1 = 1 := k_eqL (by decide +kernel) c_1
    refine lv_iconst (v := 0) hx hb dX4_count_0 (by decide +kernel) ?_
    refine lv_istore_n (lv' := [(2, .int 0), (0, .ref (p0 0)), (1, .int 1)]) hx hb dX4_count_1 rfl hl (by decide) rfl (fun ls hl => ?_)
    refine lv_iload_n hx hb dX4_count_2 rfl (lv_at hl 2 rfl) ?_
    refine lv_aload_n hx hb dX4_count_3 rfl (lv_at hl 1 rfl) ?_
    refine k_get (D := (dC, dI)) (ci := 4) (v := .int 1) (C := RX4) (T := TX4) (N := 6) hx hb hts hinX4 hown hK hP 0 rfl rfl 4 (by decide) w_0 rfl rfl dX4_count_4 ?_
    refine lv_imul hx hb dX4_count_7 ?_
    refine k_int (v := 1) (by decide +kernel) ?_
    refine lv_istore_n (lv' := [(3, .int 1), (2, .int 0), (0, .ref (p0 0)), (1, .int 1)]) hx hb dX4_count_8 rfl hl (by decide) rfl (fun ls hl => ?_)
    refine lv_iload_n hx hb dX4_count_9 rfl (lv_at hl 0 rfl) ?_
    refine lv_iload_n hx hb dX4_count_10 rfl (lv_at hl 3 rfl) ?_
    refine lv_iconst (v := 1) hx hb dX4_count_11 (by decide +kernel) ?_
    refine lv_iadd hx hb dX4_count_12 ?_
    refine k_int (v := 2) (by decide +kernel) ?_
    refine lv_aload_n hx hb dX4_count_13 rfl (lv_at hl 2 rfl) ?_
    refine k_get (D := (dC, dI)) (ci := 4) (v := .int 1) (C := RX4) (T := TX4) (N := 6) hx hb hts hinX4 hown hK hP 0 rfl rfl 4 (by decide) w_0 rfl rfl dX4_count_14 ?_
    refine lv_imul hx hb dX4_count_17 ?_
    refine k_int (v := 2) (by decide +kernel) ?_
    refine lv_icmp_ge (tgt := 50) hx hb dX4_count_18 (by decide) (fun q9 => absurd q9 (by decide +kernel)) (fun _ => ?_)
    refine lv_iload_n hx hb dX4_count_21 rfl (lv_at hl 0 rfl) ?_
    refine lv_aload_n hx hb dX4_count_22 rfl (lv_at hl 2 rfl) ?_
    refine k_get (D := (dC, dI)) (ci := 4) (v := .ref (p0 1)) (C := RX4) (T := TX4) (N := 6) hx hb hts hinX4 hown hK hP 0 rfl rfl 0 (by decide) w_1 rfl rfl dX4_count_23 ?_
    refine va_alen (v := 9216) hx hb hK hP 1 0 rfl rfl rfl dX4_count_26 ?_
    refine lv_icmp_ge (tgt := 50) hx hb dX4_count_27 (by decide) (fun q9 => absurd q9 (by decide +kernel)) (fun _ => ?_)
    refine lv_aload_n hx hb dX4_count_30 rfl (lv_at hl 2 rfl) ?_
    refine k_get (D := (dC, dI)) (ci := 4) (v := .ref (p0 1)) (C := RX4) (T := TX4) (N := 6) hx hb hts hinX4 hown hK hP 0 rfl rfl 0 (by decide) w_1 rfl rfl dX4_count_31 ?_
    refine lv_iload_n hx hb dX4_count_34 rfl (lv_at hl 0 rfl) ?_
    refine k_iald (v := 2147483647) hx hb hK hP 1 0 1 rfl rfl rfl (Nat.le_of_ble_eq_true rfl) (Nat.le_of_ble_eq_true rfl) rfl dX4_count_35 ?_
    refine lv_ldc (v := 2147483647) hx hb hown w_2 dX4_count_36 ?_
    refine lv_icmp_eq (tgt := 44) hx hb dX4_count_38 (by decide) (fun _ => ?_) (fun q9 => absurd q9 (by decide +kernel))
    refine lv_iinc (v := 2) (lv' := [(3, .int 2), (2, .int 0), (0, .ref (p0 0)), (1, .int 1)]) hx hb dX4_count_44 hl (k := 0) rfl (by decide +kernel) (by decide) rfl (fun ls hl => ?_)
    refine lv_goto (tgt := 9) hx hb dX4_count_47 (by decide) ?_
    refine lv_iload_n hx hb dX4_count_9 rfl (lv_at hl 0 rfl) ?_
    refine lv_iload_n hx hb dX4_count_10 rfl (lv_at hl 3 rfl) ?_
    refine lv_iconst (v := 1) hx hb dX4_count_11 (by decide +kernel) ?_
    refine lv_iadd hx hb dX4_count_12 ?_
    refine k_int (v := 2) (by decide +kernel) ?_
    refine lv_aload_n hx hb dX4_count_13 rfl (lv_at hl 2 rfl) ?_
    refine k_get (D := (dC, dI)) (ci := 4) (v := .int 1) (C := RX4) (T := TX4) (N := 6) hx hb hts hinX4 hown hK hP 0 rfl rfl 4 (by decide) w_0 rfl rfl dX4_count_14 ?_
    refine lv_imul hx hb dX4_count_17 ?_
    refine k_int (v := 2) (by decide +kernel) ?_
    refine lv_icmp_ge (tgt := 50) hx hb dX4_count_18 (by decide) (fun _ => ?_) (fun q9 => absurd q9 (by decide +kernel))
    refine lv_iload_n hx hb dX4_count_50 rfl (lv_at hl 1 rfl) ?_
    exact k_ri B hP hD hS dX4_count_51 (1, (fun _ => 0)) [0, 1] rfl rfl rfl (Nat.le_of_ble_eq_true rfl) (Nat.le_of_ble_eq_true rfl) ⟨c_1, rfl⟩
  · obtain rfl : p1 = 2 := k_eqL (by decide +kernel) c_1
    refine lv_iconst (v := 0) hx hb dX4_count_0 (by decide +kernel) ?_
    refine lv_istore_n (lv' := [(2, .int 0), (0, .ref (p0 0)), (1, .int 2)]) hx hb dX4_count_1 rfl hl (by decide) rfl (fun ls hl => ?_)
    refine lv_iload_n hx hb dX4_count_2 rfl (lv_at hl 2 rfl) ?_
    refine lv_aload_n hx hb dX4_count_3 rfl (lv_at hl 1 rfl) ?_
    refine k_get (D := (dC, dI)) (ci := 4) (v := .int 1) (C := RX4) (T := TX4) (N := 6) hx hb hts hinX4 hown hK hP 0 rfl rfl 4 (by decide) w_0 rfl rfl dX4_count_4 ?_
    refine lv_imul hx hb dX4_count_7 ?_
    refine k_int (v := 2) (by decide +kernel) ?_
    refine lv_istore_n (lv' := [(3, .int 2), (2, .int 0), (0, .ref (p0 0)), (1, .int 2)]) hx hb dX4_count_8 rfl hl (by decide) rfl (fun ls hl => ?_)
    refine lv_iload_n hx hb dX4_count_9 rfl (lv_at hl 0 rfl) ?_
    refine lv_iload_n hx hb dX4_count_10 rfl (lv_at hl 3 rfl) ?_
    refine lv_iconst (v := 1) hx hb dX4_count_11 (by decide +kernel) ?_
    refine lv_iadd hx hb dX4_count_12 ?_
    refine k_int (v := 3) (by decide +kernel) ?_
    refine lv_aload_n hx hb dX4_count_13 rfl (lv_at hl 2 rfl) ?_
    refine k_get (D := (dC, dI)) (ci := 4) (v := .int 1) (C := RX4) (T := TX4) (N := 6) hx hb hts hinX4 hown hK hP 0 rfl rfl 4 (by decide) w_0 rfl rfl dX4_count_14 ?_
    refine lv_imul hx hb dX4_count_17 ?_
    refine k_int (v := 3) (by decide +kernel) ?_
    refine lv_icmp_ge (tgt := 50) hx hb dX4_count_18 (by decide) (fun q9 => absurd q9 (by decide +kernel)) (fun _ => ?_)
    refine lv_iload_n hx hb dX4_count_21 rfl (lv_at hl 0 rfl) ?_
    refine lv_aload_n hx hb dX4_count_22 rfl (lv_at hl 2 rfl) ?_
    refine k_get (D := (dC, dI)) (ci := 4) (v := .ref (p0 1)) (C := RX4) (T := TX4) (N := 6) hx hb hts hinX4 hown hK hP 0 rfl rfl 0 (by decide) w_1 rfl rfl dX4_count_23 ?_
    refine va_alen (v := 9216) hx hb hK hP 1 0 rfl rfl rfl dX4_count_26 ?_
    refine lv_icmp_ge (tgt := 50) hx hb dX4_count_27 (by decide) (fun q9 => absurd q9 (by decide +kernel)) (fun _ => ?_)
    refine lv_aload_n hx hb dX4_count_30 rfl (lv_at hl 2 rfl) ?_
    refine k_get (D := (dC, dI)) (ci := 4) (v := .ref (p0 1)) (C := RX4) (T := TX4) (N := 6) hx hb hts hinX4 hown hK hP 0 rfl rfl 0 (by decide) w_1 rfl rfl dX4_count_31 ?_
    refine lv_iload_n hx hb dX4_count_34 rfl (lv_at hl 0 rfl) ?_
    refine k_iald (v := 2147483647) hx hb hK hP 1 0 2 rfl rfl rfl (Nat.le_of_ble_eq_true rfl) (Nat.le_of_ble_eq_true rfl) rfl dX4_count_35 ?_
    refine lv_ldc (v := 2147483647) hx hb hown w_2 dX4_count_36 ?_
    refine lv_icmp_eq (tgt := 44) hx hb dX4_count_38 (by decide) (fun _ => ?_) (fun q9 => absurd q9 (by decide +kernel))
    refine lv_iinc (v := 3) (lv' := [(3, .int 3), (2, .int 0), (0, .ref (p0 0)), (1, .int 2)]) hx hb dX4_count_44 hl (k := 0) rfl (by decide +kernel) (by decide) rfl (fun ls hl => ?_)
    refine lv_goto (tgt := 9) hx hb dX4_count_47 (by decide) ?_
    refine lv_iload_n hx hb dX4_count_9 rfl (lv_at hl 0 rfl) ?_
    refine lv_iload_n hx hb dX4_count_10 rfl (lv_at hl 3 rfl) ?_
    refine lv_iconst (v := 1) hx hb dX4_count_11 (by decide +kernel) ?_
    refine lv_iadd hx hb dX4_count_12 ?_
    refine k_int (v := 3) (by decide +kernel) ?_
    refine lv_aload_n hx hb dX4_count_13 rfl (lv_at hl 2 rfl) ?_
    refine k_get (D := (dC, dI)) (ci := 4) (v := .int 1) (C := RX4) (T := TX4) (N := 6) hx hb hts hinX4 hown hK hP 0 rfl rfl 4 (by decide) w_0 rfl rfl dX4_count_14 ?_
    refine lv_imul hx hb dX4_count_17 ?_
    refine k_int (v := 3) (by decide +kernel) ?_
    refine lv_icmp_ge (tgt := 50) hx hb dX4_count_18 (by decide) (fun _ => ?_) (fun q9 => absurd q9 (by decide +kernel))
    refine lv_iload_n hx hb dX4_count_50 rfl (lv_at hl 1 rfl) ?_
    exact k_ri B hP hD hS dX4_count_51 (2, (fun _ => 0)) [0, 1] rfl rfl rfl (Nat.le_of_ble_eq_true rfl) (Nat.le_of_ble_eq_true rfl) ⟨c_1, rfl⟩
  · obtain rfl : p1 = 3 := k_eqL (by decide +kernel) c_1
    refine lv_iconst (v := 0) hx hb dX4_count_0 (by decide +kernel) ?_
    refine lv_istore_n (lv' := [(2, .int 0), (0, .ref (p0 0)), (1, .int 3)]) hx hb dX4_count_1 rfl hl (by decide) rfl (fun ls hl => ?_)
    refine lv_iload_n hx hb dX4_count_2 rfl (lv_at hl 2 rfl) ?_
    refine lv_aload_n hx hb dX4_count_3 rfl (lv_at hl 1 rfl) ?_
    refine k_get (D := (dC, dI)) (ci := 4) (v := .int 1) (C := RX4) (T := TX4) (N := 6) hx hb hts hinX4 hown hK hP 0 rfl rfl 4 (by decide) w_0 rfl rfl dX4_count_4 ?_
    refine lv_imul hx hb dX4_count_7 ?_
    refine k_int (v := 3) (by decide +kernel) ?_
    refine lv_istore_n (lv' := [(3, .int 3), (2, .int 0), (0, .ref (p0 0)), (1, .int 3)]) hx hb dX4_count_8 rfl hl (by decide) rfl (fun ls hl => ?_)
    refine lv_iload_n hx hb dX4_count_9 rfl (lv_at hl 0 rfl) ?_
    refine lv_iload_n hx hb dX4_count_10 rfl (lv_at hl 3 rfl) ?_
    refine lv_iconst (v := 1) hx hb dX4_count_11 (by decide +kernel) ?_
    refine lv_iadd hx hb dX4_count_12 ?_
    refine k_int (v := 4) (by decide +kernel) ?_
    refine lv_aload_n hx hb dX4_count_13 rfl (lv_at hl 2 rfl) ?_
    refine k_get (D := (dC, dI)) (ci := 4) (v := .int 1) (C := RX4) (T := TX4) (N := 6) hx hb hts hinX4 hown hK hP 0 rfl rfl 4 (by decide) w_0 rfl rfl dX4_count_14 ?_
    refine lv_imul hx hb dX4_count_17 ?_
    refine k_int (v := 4) (by decide +kernel) ?_
    refine lv_icmp_ge (tgt := 50) hx hb dX4_count_18 (by decide) (fun q9 => absurd q9 (by decide +kernel)) (fun _ => ?_)
    refine lv_iload_n hx hb dX4_count_21 rfl (lv_at hl 0 rfl) ?_
    refine lv_aload_n hx hb dX4_count_22 rfl (lv_at hl 2 rfl) ?_
    refine k_get (D := (dC, dI)) (ci := 4) (v := .ref (p0 1)) (C := RX4) (T := TX4) (N := 6) hx hb hts hinX4 hown hK hP 0 rfl rfl 0 (by decide) w_1 rfl rfl dX4_count_23 ?_
    refine va_alen (v := 9216) hx hb hK hP 1 0 rfl rfl rfl dX4_count_26 ?_
    refine lv_icmp_ge (tgt := 50) hx hb dX4_count_27 (by decide) (fun q9 => absurd q9 (by decide +kernel)) (fun _ => ?_)
    refine lv_aload_n hx hb dX4_count_30 rfl (lv_at hl 2 rfl) ?_
    refine k_get (D := (dC, dI)) (ci := 4) (v := .ref (p0 1)) (C := RX4) (T := TX4) (N := 6) hx hb hts hinX4 hown hK hP 0 rfl rfl 0 (by decide) w_1 rfl rfl dX4_count_31 ?_
    refine lv_iload_n hx hb dX4_count_34 rfl (lv_at hl 0 rfl) ?_
    refine k_iald (v := 2147483647) hx hb hK hP 1 0 3 rfl rfl rfl (Nat.le_of_ble_eq_true rfl) (Nat.le_of_ble_eq_true rfl) rfl dX4_count_35 ?_
    refine lv_ldc (v := 2147483647) hx hb hown w_2 dX4_count_36 ?_
    refine lv_icmp_eq (tgt := 44) hx hb dX4_count_38 (by decide) (fun _ => ?_) (fun q9 => absurd q9 (by decide +kernel))
    refine lv_iinc (v := 4) (lv' := [(3, .int 4), (2, .int 0), (0, .ref (p0 0)), (1, .int 3)]) hx hb dX4_count_44 hl (k := 0) rfl (by decide +kernel) (by decide) rfl (fun ls hl => ?_)
    refine lv_goto (tgt := 9) hx hb dX4_count_47 (by decide) ?_
    refine lv_iload_n hx hb dX4_count_9 rfl (lv_at hl 0 rfl) ?_
    refine lv_iload_n hx hb dX4_count_10 rfl (lv_at hl 3 rfl) ?_
    refine lv_iconst (v := 1) hx hb dX4_count_11 (by decide +kernel) ?_
    refine lv_iadd hx hb dX4_count_12 ?_
    refine k_int (v := 4) (by decide +kernel) ?_
    refine lv_aload_n hx hb dX4_count_13 rfl (lv_at hl 2 rfl) ?_
    refine k_get (D := (dC, dI)) (ci := 4) (v := .int 1) (C := RX4) (T := TX4) (N := 6) hx hb hts hinX4 hown hK hP 0 rfl rfl 4 (by decide) w_0 rfl rfl dX4_count_14 ?_
    refine lv_imul hx hb dX4_count_17 ?_
    refine k_int (v := 4) (by decide +kernel) ?_
    refine lv_icmp_ge (tgt := 50) hx hb dX4_count_18 (by decide) (fun _ => ?_) (fun q9 => absurd q9 (by decide +kernel))
    refine lv_iload_n hx hb dX4_count_50 rfl (lv_at hl 1 rfl) ?_
    exact k_ri B hP hD hS dX4_count_51 (3, (fun _ => 0)) [0, 1] rfl rfl rfl (Nat.le_of_ble_eq_true rfl) (Nat.le_of_ble_eq_true rfl) ⟨c_1, rfl⟩
  · obtain rfl : p1 = 4 := k_eqL (by decide +kernel) c_1
    refine lv_iconst (v := 0) hx hb dX4_count_0 (by decide +kernel) ?_
    refine lv_istore_n (lv' := [(2, .int 0), (0, .ref (p0 0)), (1, .int 4)]) hx hb dX4_count_1 rfl hl (by decide) rfl (fun ls hl => ?_)
    refine lv_iload_n hx hb dX4_count_2 rfl (lv_at hl 2 rfl) ?_
    refine lv_aload_n hx hb dX4_count_3 rfl (lv_at hl 1 rfl) ?_
    refine k_get (D := (dC, dI)) (ci := 4) (v := .int 1) (C := RX4) (T := TX4) (N := 6) hx hb hts hinX4 hown hK hP 0 rfl rfl 4 (by decide) w_0 rfl rfl dX4_count_4 ?_
    refine lv_imul hx hb dX4_count_7 ?_
    refine k_int (v := 4) (by decide +kernel) ?_
    refine lv_istore_n (lv' := [(3, .int 4), (2, .int 0), (0, .ref (p0 0)), (1, .int 4)]) hx hb dX4_count_8 rfl hl (by decide) rfl (fun ls hl => ?_)
    refine lv_iload_n hx hb dX4_count_9 rfl (lv_at hl 0 rfl) ?_
    refine lv_iload_n hx hb dX4_count_10 rfl (lv_at hl 3 rfl) ?_
    refine lv_iconst (v := 1) hx hb dX4_count_11 (by decide +kernel) ?_
    refine lv_iadd hx hb dX4_count_12 ?_
    refine k_int (v := 5) (by decide +kernel) ?_
    refine lv_aload_n hx hb dX4_count_13 rfl (lv_at hl 2 rfl) ?_
    refine k_get (D := (dC, dI)) (ci := 4) (v := .int 1) (C := RX4) (T := TX4) (N := 6) hx hb hts hinX4 hown hK hP 0 rfl rfl 4 (by decide) w_0 rfl rfl dX4_count_14 ?_
    refine lv_imul hx hb dX4_count_17 ?_
    refine k_int (v := 5) (by decide +kernel) ?_
    refine lv_icmp_ge (tgt := 50) hx hb dX4_count_18 (by decide) (fun q9 => absurd q9 (by decide +kernel)) (fun _ => ?_)
    refine lv_iload_n hx hb dX4_count_21 rfl (lv_at hl 0 rfl) ?_
    refine lv_aload_n hx hb dX4_count_22 rfl (lv_at hl 2 rfl) ?_
    refine k_get (D := (dC, dI)) (ci := 4) (v := .ref (p0 1)) (C := RX4) (T := TX4) (N := 6) hx hb hts hinX4 hown hK hP 0 rfl rfl 0 (by decide) w_1 rfl rfl dX4_count_23 ?_
    refine va_alen (v := 9216) hx hb hK hP 1 0 rfl rfl rfl dX4_count_26 ?_
    refine lv_icmp_ge (tgt := 50) hx hb dX4_count_27 (by decide) (fun q9 => absurd q9 (by decide +kernel)) (fun _ => ?_)
    refine lv_aload_n hx hb dX4_count_30 rfl (lv_at hl 2 rfl) ?_
    refine k_get (D := (dC, dI)) (ci := 4) (v := .ref (p0 1)) (C := RX4) (T := TX4) (N := 6) hx hb hts hinX4 hown hK hP 0 rfl rfl 0 (by decide) w_1 rfl rfl dX4_count_31 ?_
    refine lv_iload_n hx hb dX4_count_34 rfl (lv_at hl 0 rfl) ?_
    refine k_iald (v := 2147483647) hx hb hK hP 1 0 4 rfl rfl rfl (Nat.le_of_ble_eq_true rfl) (Nat.le_of_ble_eq_true rfl) rfl dX4_count_35 ?_
    refine lv_ldc (v := 2147483647) hx hb hown w_2 dX4_count_36 ?_
    refine lv_icmp_eq (tgt := 44) hx hb dX4_count_38 (by decide) (fun _ => ?_) (fun q9 => absurd q9 (by decide +kernel))
    refine lv_iinc (v := 5) (lv' := [(3, .int 5), (2, .int 0), (0, .ref (p0 0)), (1, .int 4)]) hx hb dX4_count_44 hl (k := 0) rfl (by decide +kernel) (by decide) rfl (fun ls hl => ?_)
    refine lv_goto (tgt := 9) hx hb dX4_count_47 (by decide) ?_
    refine lv_iload_n hx hb dX4_count_9 rfl (lv_at hl 0 rfl) ?_
    refine lv_iload_n hx hb dX4_count_10 rfl (lv_at hl 3 rfl) ?_
    refine lv_iconst (v := 1) hx hb dX4_count_11 (by decide +kernel) ?_
    refine lv_iadd hx hb dX4_count_12 ?_
    refine k_int (v := 5) (by decide +kernel) ?_
    refine lv_aload_n hx hb dX4_count_13 rfl (lv_at hl 2 rfl) ?_
    refine k_get (D := (dC, dI)) (ci := 4) (v := .int 1) (C := RX4) (T := TX4) (N := 6) hx hb hts hinX4 hown hK hP 0 rfl rfl 4 (by decide) w_0 rfl rfl dX4_count_14 ?_
    refine lv_imul hx hb dX4_count_17 ?_
    refine k_int (v := 5) (by decide +kernel) ?_
    refine lv_icmp_ge (tgt := 50) hx hb dX4_count_18 (by decide) (fun _ => ?_) (fun q9 => absurd q9 (by decide +kernel))
    refine lv_iload_n hx hb dX4_count_50 rfl (lv_at hl 1 rfl) ?_
    exact k_ri B hP hD hS dX4_count_51 (4, (fun _ => 0)) [0, 1] rfl rfl rfl (Nat.le_of_ble_eq_true rfl) (Nat.le_of_ble_eq_true rfl) ⟨c_1, rfl⟩
  · obtain rfl : p1 = 5 := k_eqL (by decide +kernel) c_1
    refine lv_iconst (v := 0) hx hb dX4_count_0 (by decide +kernel) ?_
    refine lv_istore_n (lv' := [(2, .int 0), (0, .ref (p0 0)), (1, .int 5)]) hx hb dX4_count_1 rfl hl (by decide) rfl (fun ls hl => ?_)
    refine lv_iload_n hx hb dX4_count_2 rfl (lv_at hl 2 rfl) ?_
    refine lv_aload_n hx hb dX4_count_3 rfl (lv_at hl 1 rfl) ?_
    refine k_get (D := (dC, dI)) (ci := 4) (v := .int 1) (C := RX4) (T := TX4) (N := 6) hx hb hts hinX4 hown hK hP 0 rfl rfl 4 (by decide) w_0 rfl rfl dX4_count_4 ?_
    refine lv_imul hx hb dX4_count_7 ?_
    refine k_int (v := 5) (by decide +kernel) ?_
    refine lv_istore_n (lv' := [(3, .int 5), (2, .int 0), (0, .ref (p0 0)), (1, .int 5)]) hx hb dX4_count_8 rfl hl (by decide) rfl (fun ls hl => ?_)
    refine lv_iload_n hx hb dX4_count_9 rfl (lv_at hl 0 rfl) ?_
    refine lv_iload_n hx hb dX4_count_10 rfl (lv_at hl 3 rfl) ?_
    refine lv_iconst (v := 1) hx hb dX4_count_11 (by decide +kernel) ?_
    refine lv_iadd hx hb dX4_count_12 ?_
    refine k_int (v := 6) (by decide +kernel) ?_
    refine lv_aload_n hx hb dX4_count_13 rfl (lv_at hl 2 rfl) ?_
    refine k_get (D := (dC, dI)) (ci := 4) (v := .int 1) (C := RX4) (T := TX4) (N := 6) hx hb hts hinX4 hown hK hP 0 rfl rfl 4 (by decide) w_0 rfl rfl dX4_count_14 ?_
    refine lv_imul hx hb dX4_count_17 ?_
    refine k_int (v := 6) (by decide +kernel) ?_
    refine lv_icmp_ge (tgt := 50) hx hb dX4_count_18 (by decide) (fun q9 => absurd q9 (by decide +kernel)) (fun _ => ?_)
    refine lv_iload_n hx hb dX4_count_21 rfl (lv_at hl 0 rfl) ?_
    refine lv_aload_n hx hb dX4_count_22 rfl (lv_at hl 2 rfl) ?_
    refine k_get (D := (dC, dI)) (ci := 4) (v := .ref (p0 1)) (C := RX4) (T := TX4) (N := 6) hx hb hts hinX4 hown hK hP 0 rfl rfl 0 (by decide) w_1 rfl rfl dX4_count_23 ?_
    refine va_alen (v := 9216) hx hb hK hP 1 0 rfl rfl rfl dX4_count_26 ?_
    refine lv_icmp_ge (tgt := 50) hx hb dX4_count_27 (by decide) (fun q9 => absurd q9 (by decide +kernel)) (fun _ => ?_)
    refine lv_aload_n hx hb dX4_count_30 rfl (lv_at hl 2 rfl) ?_
    refine k_get (D := (dC, dI)) (ci := 4) (v := .ref (p0 1)) (C := RX4) (T := TX4) (N := 6) hx hb hts hinX4 hown hK hP 0 rfl rfl 0 (by decide) w_1 rfl rfl dX4_count_31 ?_
    refine lv_iload_n hx hb dX4_count_34 rfl (lv_at hl 0 rfl) ?_
    refine k_iald (v := 2147483647) hx hb hK hP 1 0 5 rfl rfl rfl (Nat.le_of_ble_eq_true rfl) (Nat.le_of_ble_eq_true rfl) rfl dX4_count_35 ?_
    refine lv_ldc (v := 2147483647) hx hb hown w_2 dX4_count_36 ?_
    refine lv_icmp_eq (tgt := 44) hx hb dX4_count_38 (by decide) (fun _ => ?_) (fun q9 => absurd q9 (by decide +kernel))
    refine lv_iinc (v := 6) (lv' := [(3, .int 6), (2, .int 0), (0, .ref (p0 0)), (1, .int 5)]) hx hb dX4_count_44 hl (k := 0) rfl (by decide +kernel) (by decide) rfl (fun ls hl => ?_)
    refine lv_goto (tgt := 9) hx hb dX4_count_47 (by decide) ?_
    refine lv_iload_n hx hb dX4_count_9 rfl (lv_at hl 0 rfl) ?_
    refine lv_iload_n hx hb dX4_count_10 rfl (lv_at hl 3 rfl) ?_
    refine lv_iconst (v := 1) hx hb dX4_count_11 (by decide +kernel) ?_
    refine lv_iadd hx hb dX4_count_12 ?_
    refine k_int (v := 6) (by decide +kernel) ?_
    refine lv_aload_n hx hb dX4_count_13 rfl (lv_at hl 2 rfl) ?_
    refine k_get (D := (dC, dI)) (ci := 4) (v := .int 1) (C := RX4) (T := TX4) (N := 6) hx hb hts hinX4 hown hK hP 0 rfl rfl 4 (by decide) w_0 rfl rfl dX4_count_14 ?_
    refine lv_imul hx hb dX4_count_17 ?_
    refine k_int (v := 6) (by decide +kernel) ?_
    refine lv_icmp_ge (tgt := 50) hx hb dX4_count_18 (by decide) (fun _ => ?_) (fun q9 => absurd q9 (by decide +kernel))
    refine lv_iload_n hx hb dX4_count_50 rfl (lv_at hl 1 rfl) ?_
    exact k_ri B hP hD hS dX4_count_51 (5, (fun _ => 0)) [0, 1] rfl rfl rfl (Nat.le_of_ble_eq_true rfl) (Nat.le_of_ble_eq_true rfl) ⟨c_1, rfl⟩
  · obtain rfl : p1 = 6 := k_eqL (by decide +kernel) c_1
    refine lv_iconst (v := 0) hx hb dX4_count_0 (by decide +kernel) ?_
    refine lv_istore_n (lv' := [(2, .int 0), (0, .ref (p0 0)), (1, .int 6)]) hx hb dX4_count_1 rfl hl (by decide) rfl (fun ls hl => ?_)
    refine lv_iload_n hx hb dX4_count_2 rfl (lv_at hl 2 rfl) ?_
    refine lv_aload_n hx hb dX4_count_3 rfl (lv_at hl 1 rfl) ?_
    refine k_get (D := (dC, dI)) (ci := 4) (v := .int 1) (C := RX4) (T := TX4) (N := 6) hx hb hts hinX4 hown hK hP 0 rfl rfl 4 (by decide) w_0 rfl rfl dX4_count_4 ?_
    refine lv_imul hx hb dX4_count_7 ?_
    refine k_int (v := 6) (by decide +kernel) ?_
    refine lv_istore_n (lv' := [(3, .int 6), (2, .int 0), (0, .ref (p0 0)), (1, .int 6)]) hx hb dX4_count_8 rfl hl (by decide) rfl (fun ls hl => ?_)
    refine lv_iload_n hx hb dX4_count_9 rfl (lv_at hl 0 rfl) ?_
    refine lv_iload_n hx hb dX4_count_10 rfl (lv_at hl 3 rfl) ?_
    refine lv_iconst (v := 1) hx hb dX4_count_11 (by decide +kernel) ?_
    refine lv_iadd hx hb dX4_count_12 ?_
    refine k_int (v := 7) (by decide +kernel) ?_
    refine lv_aload_n hx hb dX4_count_13 rfl (lv_at hl 2 rfl) ?_
    refine k_get (D := (dC, dI)) (ci := 4) (v := .int 1) (C := RX4) (T := TX4) (N := 6) hx hb hts hinX4 hown hK hP 0 rfl rfl 4 (by decide) w_0 rfl rfl dX4_count_14 ?_
    refine lv_imul hx hb dX4_count_17 ?_
    refine k_int (v := 7) (by decide +kernel) ?_
    refine lv_icmp_ge (tgt := 50) hx hb dX4_count_18 (by decide) (fun q9 => absurd q9 (by decide +kernel)) (fun _ => ?_)
    refine lv_iload_n hx hb dX4_count_21 rfl (lv_at hl 0 rfl) ?_
    refine lv_aload_n hx hb dX4_count_22 rfl (lv_at hl 2 rfl) ?_
    refine k_get (D := (dC, dI)) (ci := 4) (v := .ref (p0 1)) (C := RX4) (T := TX4) (N := 6) hx hb hts hinX4 hown hK hP 0 rfl rfl 0 (by decide) w_1 rfl rfl dX4_count_23 ?_
    refine va_alen (v := 9216) hx hb hK hP 1 0 rfl rfl rfl dX4_count_26 ?_
    refine lv_icmp_ge (tgt := 50) hx hb dX4_count_27 (by decide) (fun q9 => absurd q9 (by decide +kernel)) (fun _ => ?_)
    refine lv_aload_n hx hb dX4_count_30 rfl (lv_at hl 2 rfl) ?_
    refine k_get (D := (dC, dI)) (ci := 4) (v := .ref (p0 1)) (C := RX4) (T := TX4) (N := 6) hx hb hts hinX4 hown hK hP 0 rfl rfl 0 (by decide) w_1 rfl rfl dX4_count_31 ?_
    refine lv_iload_n hx hb dX4_count_34 rfl (lv_at hl 0 rfl) ?_
    refine k_iald (v := 2147483647) hx hb hK hP 1 0 6 rfl rfl rfl (Nat.le_of_ble_eq_true rfl) (Nat.le_of_ble_eq_true rfl) rfl dX4_count_35 ?_
    refine lv_ldc (v := 2147483647) hx hb hown w_2 dX4_count_36 ?_
    refine lv_icmp_eq (tgt := 44) hx hb dX4_count_38 (by decide) (fun _ => ?_) (fun q9 => absurd q9 (by decide +kernel))
    refine lv_iinc (v := 7) (lv' := [(3, .int 7), (2, .int 0), (0, .ref (p0 0)), (1, .int 6)]) hx hb dX4_count_44 hl (k := 0) rfl (by decide +kernel) (by decide) rfl (fun ls hl => ?_)
    refine lv_goto (tgt := 9) hx hb dX4_count_47 (by decide) ?_
    refine lv_iload_n hx hb dX4_count_9 rfl (lv_at hl 0 rfl) ?_
    refine lv_iload_n hx hb dX4_count_10 rfl (lv_at hl 3 rfl) ?_
    refine lv_iconst (v := 1) hx hb dX4_count_11 (by decide +kernel) ?_
    refine lv_iadd hx hb dX4_count_12 ?_
    refine k_int (v := 7) (by decide +kernel) ?_
    refine lv_aload_n hx hb dX4_count_13 rfl (lv_at hl 2 rfl) ?_
    refine k_get (D := (dC, dI)) (ci := 4) (v := .int 1) (C := RX4) (T := TX4) (N := 6) hx hb hts hinX4 hown hK hP 0 rfl rfl 4 (by decide) w_0 rfl rfl dX4_count_14 ?_
    refine lv_imul hx hb dX4_count_17 ?_
    refine k_int (v := 7) (by decide +kernel) ?_
    refine lv_icmp_ge (tgt := 50) hx hb dX4_count_18 (by decide) (fun _ => ?_) (fun q9 => absurd q9 (by decide +kernel))
    refine lv_iload_n hx hb dX4_count_50 rfl (lv_at hl 1 rfl) ?_
    exact k_ri B hP hD hS dX4_count_51 (6, (fun _ => 0)) [0, 1] rfl rfl rfl (Nat.le_of_ble_eq_true rfl) (Nat.le_of_ble_eq_true rfl) ⟨c_1, rfl⟩
  · obtain rfl : p1 = 7 := k_eqL (by decide +kernel) c_1
    refine lv_iconst (v := 0) hx hb dX4_count_0 (by decide +kernel) ?_
    refine lv_istore_n (lv' := [(2, .int 0), (0, .ref (p0 0)), (1, .int 7)]) hx hb dX4_count_1 rfl hl (by decide) rfl (fun ls hl => ?_)
    refine lv_iload_n hx hb dX4_count_2 rfl (lv_at hl 2 rfl) ?_
    refine lv_aload_n hx hb dX4_count_3 rfl (lv_at hl 1 rfl) ?_
    refine k_get (D := (dC, dI)) (ci := 4) (v := .int 1) (C := RX4) (T := TX4) (N := 6) hx hb hts hinX4 hown hK hP 0 rfl rfl 4 (by decide) w_0 rfl rfl dX4_count_4 ?_
    refine lv_imul hx hb dX4_count_7 ?_
    refine k_int (v := 7) (by decide +kernel) ?_
    refine lv_istore_n (lv' := [(3, .int 7), (2, .int 0), (0, .ref (p0 0)), (1, .int 7)]) hx hb dX4_count_8 rfl hl (by decide) rfl (fun ls hl => ?_)
    refine lv_iload_n hx hb dX4_count_9 rfl (lv_at hl 0 rfl) ?_
    refine lv_iload_n hx hb dX4_count_10 rfl (lv_at hl 3 rfl) ?_
    refine lv_iconst (v := 1) hx hb dX4_count_11 (by decide +kernel) ?_
    refine lv_iadd hx hb dX4_count_12 ?_
    refine k_int (v := 8) (by decide +kernel) ?_
    refine lv_aload_n hx hb dX4_count_13 rfl (lv_at hl 2 rfl) ?_
    refine k_get (D := (dC, dI)) (ci := 4) (v := .int 1) (C := RX4) (T := TX4) (N := 6) hx hb hts hinX4 hown hK hP 0 rfl rfl 4 (by decide) w_0 rfl rfl dX4_count_14 ?_
    refine lv_imul hx hb dX4_count_17 ?_
    refine k_int (v := 8) (by decide +kernel) ?_
    refine lv_icmp_ge (tgt := 50) hx hb dX4_count_18 (by decide) (fun q9 => absurd q9 (by decide +kernel)) (fun _ => ?_)
    refine lv_iload_n hx hb dX4_count_21 rfl (lv_at hl 0 rfl) ?_
    refine lv_aload_n hx hb dX4_count_22 rfl (lv_at hl 2 rfl) ?_
    refine k_get (D := (dC, dI)) (ci := 4) (v := .ref (p0 1)) (C := RX4) (T := TX4) (N := 6) hx hb hts hinX4 hown hK hP 0 rfl rfl 0 (by decide) w_1 rfl rfl dX4_count_23 ?_
    refine va_alen (v := 9216) hx hb hK hP 1 0 rfl rfl rfl dX4_count_26 ?_
    refine lv_icmp_ge (tgt := 50) hx hb dX4_count_27 (by decide) (fun q9 => absurd q9 (by decide +kernel)) (fun _ => ?_)
    refine lv_aload_n hx hb dX4_count_30 rfl (lv_at hl 2 rfl) ?_
    refine k_get (D := (dC, dI)) (ci := 4) (v := .ref (p0 1)) (C := RX4) (T := TX4) (N := 6) hx hb hts hinX4 hown hK hP 0 rfl rfl 0 (by decide) w_1 rfl rfl dX4_count_31 ?_
    refine lv_iload_n hx hb dX4_count_34 rfl (lv_at hl 0 rfl) ?_
    refine k_iald (v := 2147483647) hx hb hK hP 1 0 7 rfl rfl rfl (Nat.le_of_ble_eq_true rfl) (Nat.le_of_ble_eq_true rfl) rfl dX4_count_35 ?_
    refine lv_ldc (v := 2147483647) hx hb hown w_2 dX4_count_36 ?_
    refine lv_icmp_eq (tgt := 44) hx hb dX4_count_38 (by decide) (fun _ => ?_) (fun q9 => absurd q9 (by decide +kernel))
    refine lv_iinc (v := 8) (lv' := [(3, .int 8), (2, .int 0), (0, .ref (p0 0)), (1, .int 7)]) hx hb dX4_count_44 hl (k := 0) rfl (by decide +kernel) (by decide) rfl (fun ls hl => ?_)
    refine lv_goto (tgt := 9) hx hb dX4_count_47 (by decide) ?_
    refine lv_iload_n hx hb dX4_count_9 rfl (lv_at hl 0 rfl) ?_
    refine lv_iload_n hx hb dX4_count_10 rfl (lv_at hl 3 rfl) ?_
    refine lv_iconst (v := 1) hx hb dX4_count_11 (by decide +kernel) ?_
    refine lv_iadd hx hb dX4_count_12 ?_
    refine k_int (v := 8) (by decide +kernel) ?_
    refine lv_aload_n hx hb dX4_count_13 rfl (lv_at hl 2 rfl) ?_
    refine k_get (D := (dC, dI)) (ci := 4) (v := .int 1) (C := RX4) (T := TX4) (N := 6) hx hb hts hinX4 hown hK hP 0 rfl rfl 4 (by decide) w_0 rfl rfl dX4_count_14 ?_
    refine lv_imul hx hb dX4_count_17 ?_
    refine k_int (v := 8) (by decide +kernel) ?_
    refine lv_icmp_ge (tgt := 50) hx hb dX4_count_18 (by decide) (fun _ => ?_) (fun q9 => absurd q9 (by decide +kernel))
    refine lv_iload_n hx hb dX4_count_50 rfl (lv_at hl 1 rfl) ?_
    exact k_ri B hP hD hS dX4_count_51 (7, (fun _ => 0)) [0, 1] rfl rfl rfl (Nat.le_of_ble_eq_true rfl) (Nat.le_of_ble_eq_true rfl) ⟨c_1, rfl⟩
  · obtain rfl : p1 = 8 := k_eqL (by decide +kernel) c_1
    refine lv_iconst (v := 0) hx hb dX4_count_0 (by decide +kernel) ?_
    refine lv_istore_n (lv' := [(2, .int 0), (0, .ref (p0 0)), (1, .int 8)]) hx hb dX4_count_1 rfl hl (by decide) rfl (fun ls hl => ?_)
    refine lv_iload_n hx hb dX4_count_2 rfl (lv_at hl 2 rfl) ?_
    refine lv_aload_n hx hb dX4_count_3 rfl (lv_at hl 1 rfl) ?_
    refine k_get (D := (dC, dI)) (ci := 4) (v := .int 1) (C := RX4) (T := TX4) (N := 6) hx hb hts hinX4 hown hK hP 0 rfl rfl 4 (by decide) w_0 rfl rfl dX4_count_4 ?_
    refine lv_imul hx hb dX4_count_7 ?_
    refine k_int (v := 8) (by decide +kernel) ?_
    refine lv_istore_n (lv' := [(3, .int 8), (2, .int 0), (0, .ref (p0 0)), (1, .int 8)]) hx hb dX4_count_8 rfl hl (by decide) rfl (fun ls hl => ?_)
    refine lv_iload_n hx hb dX4_count_9 rfl (lv_at hl 0 rfl) ?_
    refine lv_iload_n hx hb dX4_count_10 rfl (lv_at hl 3 rfl) ?_
    refine lv_iconst (v := 1) hx hb dX4_count_11 (by decide +kernel) ?_
    refine lv_iadd hx hb dX4_count_12 ?_
    refine k_int (v := 9) (by decide +kernel) ?_
    refine lv_aload_n hx hb dX4_count_13 rfl (lv_at hl 2 rfl) ?_
    refine k_get (D := (dC, dI)) (ci := 4) (v := .int 1) (C := RX4) (T := TX4) (N := 6) hx hb hts hinX4 hown hK hP 0 rfl rfl 4 (by decide) w_0 rfl rfl dX4_count_14 ?_
    refine lv_imul hx hb dX4_count_17 ?_
    refine k_int (v := 9) (by decide +kernel) ?_
    refine lv_icmp_ge (tgt := 50) hx hb dX4_count_18 (by decide) (fun q9 => absurd q9 (by decide +kernel)) (fun _ => ?_)
    refine lv_iload_n hx hb dX4_count_21 rfl (lv_at hl 0 rfl) ?_
    refine lv_aload_n hx hb dX4_count_22 rfl (lv_at hl 2 rfl) ?_
    refine k_get (D := (dC, dI)) (ci := 4) (v := .ref (p0 1)) (C := RX4) (T := TX4) (N := 6) hx hb hts hinX4 hown hK hP 0 rfl rfl 0 (by decide) w_1 rfl rfl dX4_count_23 ?_
    refine va_alen (v := 9216) hx hb hK hP 1 0 rfl rfl rfl dX4_count_26 ?_
    refine lv_icmp_ge (tgt := 50) hx hb dX4_count_27 (by decide) (fun q9 => absurd q9 (by decide +kernel)) (fun _ => ?_)
    refine lv_aload_n hx hb dX4_count_30 rfl (lv_at hl 2 rfl) ?_
    refine k_get (D := (dC, dI)) (ci := 4) (v := .ref (p0 1)) (C := RX4) (T := TX4) (N := 6) hx hb hts hinX4 hown hK hP 0 rfl rfl 0 (by decide) w_1 rfl rfl dX4_count_31 ?_
    refine lv_iload_n hx hb dX4_count_34 rfl (lv_at hl 0 rfl) ?_
    refine k_iald (v := 2147483647) hx hb hK hP 1 0 8 rfl rfl rfl (Nat.le_of_ble_eq_true rfl) (Nat.le_of_ble_eq_true rfl) rfl dX4_count_35 ?_
    refine lv_ldc (v := 2147483647) hx hb hown w_2 dX4_count_36 ?_
    refine lv_icmp_eq (tgt := 44) hx hb dX4_count_38 (by decide) (fun _ => ?_) (fun q9 => absurd q9 (by decide +kernel))
    refine lv_iinc (v := 9) (lv' := [(3, .int 9), (2, .int 0), (0, .ref (p0 0)), (1, .int 8)]) hx hb dX4_count_44 hl (k := 0) rfl (by decide +kernel) (by decide) rfl (fun ls hl => ?_)
    refine lv_goto (tgt := 9) hx hb dX4_count_47 (by decide) ?_
    refine lv_iload_n hx hb dX4_count_9 rfl (lv_at hl 0 rfl) ?_
    refine lv_iload_n hx hb dX4_count_10 rfl (lv_at hl 3 rfl) ?_
    refine lv_iconst (v := 1) hx hb dX4_count_11 (by decide +kernel) ?_
    refine lv_iadd hx hb dX4_count_12 ?_
    refine k_int (v := 9) (by decide +kernel) ?_
    refine lv_aload_n hx hb dX4_count_13 rfl (lv_at hl 2 rfl) ?_
    refine k_get (D := (dC, dI)) (ci := 4) (v := .int 1) (C := RX4) (T := TX4) (N := 6) hx hb hts hinX4 hown hK hP 0 rfl rfl 4 (by decide) w_0 rfl rfl dX4_count_14 ?_
    refine lv_imul hx hb dX4_count_17 ?_
    refine k_int (v := 9) (by decide +kernel) ?_
    refine lv_icmp_ge (tgt := 50) hx hb dX4_count_18 (by decide) (fun _ => ?_) (fun q9 => absurd q9 (by decide +kernel))
    refine lv_iload_n hx hb dX4_count_50 rfl (lv_at hl 1 rfl) ?_
    exact k_ri B hP hD hS dX4_count_51 (8, (fun _ => 0)) [0, 1] rfl rfl rfl (Nat.le_of_ble_eq_true rfl) (Nat.le_of_ble_eq_true rfl) ⟨c_1, rfl⟩
