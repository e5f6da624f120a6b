set_option maxHeartbeats 4000000 in
set_option maxRecDepth 100000 in
theorem c_X7_is_v24 (l : Launch) (dC : Nat → ClassId) (dI : Nat → Nat → Nat) (cI cJ cZ cM : ClassId) (p0 : Int32)   : k_Mi l yX7_is wsX7_is ({ frames := 1, cells := 0, slots := 0, locals := 40 }) (dC, dI) vwCl (tyy cI cJ cZ cM) [] [.int p0, .int 0, .int 3] 0 0 (fun (u9 : (Nat × (Nat → Nat))) => []) (fun (r9 : Int32) (u9 : (Nat × (Nat → Nat))) => match u9.1 with | 0 => (p0.toInt < 0) ∧ r9 = 0 | 1 => (0 ≤ p0.toInt) ∧ (3 < p0.toInt) ∧ r9 = 0 | 2 => (0 ≤ p0.toInt) ∧ (p0.toInt ≤ 3) ∧ r9 = 1 | _ => False) := by
  refine fun sz => k_enter (cc := cX7_is) (maxL := 3) (ret := some (.boolean)) (Qc := fun A => va_Qi (fun (r9 : Int32) (u9 : (Nat × (Nat → Nat))) => match u9.1 with | 0 => (p0.toInt < 0) ∧ r9 = 0 | 1 => (0 ≤ p0.toInt) ∧ (3 < p0.toInt) ∧ r9 = 0 | 2 => (0 ≤ p0.toInt) ∧ (p0.toInt ≤ 3) ∧ r9 = 1 | _ => False) (fun u => k_B (dC, dI) vwCl (tyy cI cJ cZ cM) A ((fun (u9 : (Nat × (Nat → Nat))) => []) u)) A) sz (by decide +kernel) rfl (Nat.le_of_ble_eq_true rfl) (fun p e s m args below meth c A ls H locs B hP hD hS hl => ?_)
  obtain ⟨hx, hb, hml, hown, hts, hr, hlk, hnm, hK, hA, hN, hC⟩ := id B
  have hown : s.vm.findClass RX7 = some m.cls := hown
  have hl : lv_has ls 3 [(0, .int p0), (1, .int 0), (2, .int 3)] := hl
  refine lv_iload_n hx hb dX7_is_0 rfl (lv_at hl 0 rfl) ?_
  refine lv_iload_n hx hb dX7_is_1 rfl (lv_at hl 1 rfl) ?_
  refine lv_icmp_lt (tgt := 14) hx hb dX7_is_2 (by decide) (fun c_1 => ?_) (fun c_1 => ?_)
  · have c_1 : p0.toInt < 0 := k_ltT rfl (by decide +kernel) c_1
    refine lv_iconst (v := 0) hx hb dX7_is_14 (by decide +kernel) ?_
    exact k_ri B hP hD hS dX7_is_15 (0, (fun _ => 0)) [] rfl rfl rfl (Nat.le_of_ble_eq_true rfl) (Nat.le_of_ble_eq_true rfl) ⟨c_1, rfl⟩
  · have c_1 : 0 ≤ p0.toInt := k_ltF rfl (by decide +kernel) c_1
    refine lv_iload_n hx hb dX7_is_5 rfl (lv_at hl 0 rfl) ?_
    refine lv_iload_n hx hb dX7_is_6 rfl (lv_at hl 2 rfl) ?_
    refine lv_icmp_gt (tgt := 14) hx hb dX7_is_7 (by decide) (fun c_2 => ?_) (fun c_2 => ?_)
    · have c_2 : 3 < p0.toInt := k_ltT (by decide +kernel) rfl c_2
      refine lv_iconst (v := 0) hx hb dX7_is_14 (by decide +kernel) ?_
      exact k_ri B hP hD hS dX7_is_15 (1, (fun _ => 0)) [] rfl rfl rfl (Nat.le_of_ble_eq_true rfl) (Nat.le_of_ble_eq_true rfl) ⟨c_1, c_2, rfl⟩
    · have c_2 : p0.toInt ≤ 3 := k_ltF (by decide +kernel) rfl c_2
      refine lv_iconst (v := 1) hx hb dX7_is_10 (by decide +kernel) ?_
      refine lv_goto (tgt := 15) hx hb dX7_is_11 (by decide) ?_
      exact k_ri B hP hD hS dX7_is_15 (2, (fun _ => 0)) [] rfl rfl rfl (Nat.le_of_ble_eq_true rfl) (Nat.le_of_ble_eq_true rfl) ⟨c_1, c_2, rfl⟩
set_option maxHeartbeats 4000000 in
set_option maxRecDepth 100000 in
theorem c_X7_most_v5 (l : Launch) (dC : Nat → ClassId) (dI : Nat → Nat → Nat) (cI cJ cZ cM : ClassId) (p0 : Nat) (p1 : Int32) (p2 : Int32) (p3 : Nat → Nat) (b_0 : 0 ≤ p1.toInt) (t_0 : p1.toInt ≤ 8)  : k_Mi l yX7_most wsX7_most ({ frames := 3, cells := 0, slots := 0, locals := 88 }) (dC, dI) vwCl (tyy cI cJ cZ cM) [(p0, .inr (7, oM p3 i7 j7)), ((p3 49), .inl (cI, 22, .inl (fun _ => 0))), ((p3 50), .inl (cI, 22, .inl (fun _ => 0))), ((p3 72), .inl (cI, 9216, .inl (fun _ => 0))), ((p3 14), .inl (cI, 2, .inl (fun _ => 0))), ((p3 18), .inl (cI, 2, .inl (fun _ => 0)))] [.ref p0, .int p1, .int p2] 0 0 (fun (u9 : (Nat × (Nat → Nat))) => match u9.1 with | 0 => [(p0, .inr (7, oM p3 i7 j7)), ((p3 49), .inl (cI, 22, .inl (fun _ => 0))), ((p3 50), .inl (cI, 22, .inl (fun _ => 0))), ((p3 72), .inl (cI, 9216, .inl (fun _ => 0))), ((p3 14), .inl (cI, 2, .inl (fun _ => 0))), ((p3 18), .inl (cI, 2, .inl (fun _ => 0)))] | 1 => [(p0, .inr (7, oM p3 i7 j7)), ((p3 49), .inl (cI, 22, .inl (fun _ => 0))), ((p3 50), .inl (cI, 22, .inl (fun _ => 0))), ((p3 72), .inl (cI, 9216, .inl (fun _ => 0))), ((p3 14), .inl (cI, 2, .inl (fun _ => 0))), ((p3 18), .inl (cI, 2, .inl (fun _ => 0)))] | 2 => [(p0, .inr (7, oM p3 (upd (upd i7 75 0) 76 0) j7)), ((p3 49), .inl (cI, 22, .inl (fun _ => 0))), ((p3 50), .inl (cI, 22, .inl (fun _ => 0))), ((p3 72), .inl (cI, 9216, .inl (upd (fun _ => (-1)) 0 0))), ((p3 14), .inl (cI, 2, .inl (fun _ => 0))), ((p3 18), .inl (cI, 2, .inl (fun _ => 0)))] | 3 => [(p0, .inr (7, oM p3 (upd (upd i7 75 0) 76 0) j7)), ((p3 49), .inl (cI, 22, .inl (fun _ => 0))), ((p3 50), .inl (cI, 22, .inl (fun _ => 0))), ((p3 72), .inl (cI, 9216, .inl (upd (fun _ => (-1)) 0 0))), ((p3 14), .inl (cI, 2, .inl (fun _ => 0))), ((p3 18), .inl (cI, 2, .inl (fun _ => 0)))] | 4 => [(p0, .inr (7, oM p3 (upd (upd i7 75 0) 76 0) j7)), ((p3 49), .inl (cI, 22, .inl (fun _ => 0))), ((p3 50), .inl (cI, 22, .inl (fun _ => 0))), ((p3 72), .inl (cI, 9216, .inl (upd (fun _ => (-1)) 0 0))), ((p3 14), .inl (cI, 2, .inl (fun _ => 0))), ((p3 18), .inl (cI, 2, .inl (fun _ => 0)))] | 5 => [(p0, .inr (7, oM p3 (upd (upd i7 75 0) 76 0) j7)), ((p3 49), .inl (cI, 22, .inl (fun _ => 0))), ((p3 50), .inl (cI, 22, .inl (fun _ => 0))), ((p3 72), .inl (cI, 9216, .inl (upd (fun _ => (-1)) 0 0))), ((p3 14), .inl (cI, 2, .inl (fun _ => 0))), ((p3 18), .inl (cI, 2, .inl (fun _ => 0)))] | 6 => [(p0, .inr (7, oM p3 i7 j7)), ((p3 49), .inl (cI, 22, .inl (fun _ => 0))), ((p3 50), .inl (cI, 22, .inl (fun _ => 0))), ((p3 72), .inl (cI, 9216, .inl (fun _ => 0))), ((p3 14), .inl (cI, 2, .inl (fun _ => 0))), ((p3 18), .inl (cI, 2, .inl (fun _ => 0)))] | 7 => [(p0, .inr (7, oM p3 i7 j7)), ((p3 49), .inl (cI, 22, .inl (fun _ => 0))), ((p3 50), .inl (cI, 22, .inl (fun _ => 0))), ((p3 72), .inl (cI, 9216, .inl (fun _ => 0))), ((p3 14), .inl (cI, 2, .inl (fun _ => 0))), ((p3 18), .inl (cI, 2, .inl (fun _ => 0)))] | 8 => [(p0, .inr (7, oM p3 (upd (upd i7 75 0) 76 0) j7)), ((p3 49), .inl (cI, 22, .inl (fun _ => 0))), ((p3 50), .inl (cI, 22, .inl (fun _ => 0))), ((p3 72), .inl (cI, 9216, .inl (upd (fun _ => (-1)) 0 0))), ((p3 14), .inl (cI, 2, .inl (fun _ => 0))), ((p3 18), .inl (cI, 2, .inl (fun _ => 0)))] | 9 => [(p0, .inr (7, oM p3 (upd (upd i7 75 0) 76 0) j7)), ((p3 49), .inl (cI, 22, .inl (fun _ => 0))), ((p3 50), .inl (cI, 22, .inl (fun _ => 0))), ((p3 72), .inl (cI, 9216, .inl (upd (fun _ => (-1)) 0 0))), ((p3 14), .inl (cI, 2, .inl (fun _ => 0))), ((p3 18), .inl (cI, 2, .inl (fun _ => 0)))] | 10 => [(p0, .inr (7, oM p3 (upd (upd i7 75 0) 76 0) j7)), ((p3 49), .inl (cI, 22, .inl (fun _ => 0))), ((p3 50), .inl (cI, 22, .inl (fun _ => 0))), ((p3 72), .inl (cI, 9216, .inl (upd (fun _ => (-1)) 0 0))), ((p3 14), .inl (cI, 2, .inl (fun _ => 0))), ((p3 18), .inl (cI, 2, .inl (fun _ => 0)))] | 11 => [(p0, .inr (7, oM p3 (upd (upd i7 75 0) 76 0) j7)), ((p3 49), .inl (cI, 22, .inl (fun _ => 0))), ((p3 50), .inl (cI, 22, .inl (fun _ => 0))), ((p3 72), .inl (cI, 9216, .inl (upd (fun _ => (-1)) 0 0))), ((p3 14), .inl (cI, 2, .inl (fun _ => 0))), ((p3 18), .inl (cI, 2, .inl (fun _ => 0)))] | 12 => [(p0, .inr (7, oM p3 i7 j7)), ((p3 49), .inl (cI, 22, .inl (fun _ => 0))), ((p3 50), .inl (cI, 22, .inl (fun _ => 0))), ((p3 72), .inl (cI, 9216, .inl (fun _ => 0))), ((p3 14), .inl (cI, 2, .inl (fun _ => 0))), ((p3 18), .inl (cI, 2, .inl (fun _ => 0)))] | 13 => [(p0, .inr (7, oM p3 i7 j7)), ((p3 49), .inl (cI, 22, .inl (fun _ => 0))), ((p3 50), .inl (cI, 22, .inl (fun _ => 0))), ((p3 72), .inl (cI, 9216, .inl (fun _ => 0))), ((p3 14), .inl (cI, 2, .inl (fun _ => 0))), ((p3 18), .inl (cI, 2, .inl (fun _ => 0)))] | 14 => [(p0, .inr (7, oM p3 (upd (upd i7 75 0) 76 0) j7)), ((p3 49), .inl (cI, 22, .inl (fun _ => 0))), ((p3 50), .inl (cI, 22, .inl (fun _ => 0))), ((p3 72), .inl (cI, 9216, .inl (upd (fun _ => (-1)) 0 0))), ((p3 14), .inl (cI, 2, .inl (fun _ => 0))), ((p3 18), .inl (cI, 2, .inl (fun _ => 0)))] | 15 => [(p0, .inr (7, oM p3 (upd (upd i7 75 0) 76 0) j7)), ((p3 49), .inl (cI, 22, .inl (fun _ => 0))), ((p3 50), .inl (cI, 22, .inl (fun _ => 0))), ((p3 72), .inl (cI, 9216, .inl (upd (fun _ => (-1)) 0 0))), ((p3 14), .inl (cI, 2, .inl (fun _ => 0))), ((p3 18), .inl (cI, 2, .inl (fun _ => 0)))] | 16 => [(p0, .inr (7, oM p3 (upd (upd i7 75 0) 76 0) j7)), ((p3 49), .inl (cI, 22, .inl (fun _ => 0))), ((p3 50), .inl (cI, 22, .inl (fun _ => 0))), ((p3 72), .inl (cI, 9216, .inl (upd (fun _ => (-1)) 0 0))), ((p3 14), .inl (cI, 2, .inl (fun _ => 0))), ((p3 18), .inl (cI, 2, .inl (fun _ => 0)))] | 17 => [(p0, .inr (7, oM p3 (upd (upd i7 75 0) 76 0) j7)), ((p3 49), .inl (cI, 22, .inl (fun _ => 0))), ((p3 50), .inl (cI, 22, .inl (fun _ => 0))), ((p3 72), .inl (cI, 9216, .inl (upd (fun _ => (-1)) 0 0))), ((p3 14), .inl (cI, 2, .inl (fun _ => 0))), ((p3 18), .inl (cI, 2, .inl (fun _ => 0)))] | 18 => [(p0, .inr (7, oM p3 i7 j7)), ((p3 49), .inl (cI, 22, .inl (fun _ => 0))), ((p3 50), .inl (cI, 22, .inl (fun _ => 0))), ((p3 72), .inl (cI, 9216, .inl (fun _ => 0))), ((p3 14), .inl (cI, 2, .inl (fun _ => 0))), ((p3 18), .inl (cI, 2, .inl (fun _ => 0)))] | 19 => [(p0, .inr (7, oM p3 i7 j7)), ((p3 49), .inl (cI, 22, .inl (fun _ => 0))), ((p3 50), .inl (cI, 22, .inl (fun _ => 0))), ((p3 72), .inl (cI, 9216, .inl (fun _ => 0))), ((p3 14), .inl (cI, 2, .inl (fun _ => 0))), ((p3 18), .inl (cI, 2, .inl (fun _ => 0)))] | 20 => [(p0, .inr (7, oM p3 (upd (upd i7 75 0) 76 0) j7)), ((p3 49), .inl (cI, 22, .inl (fun _ => 0))), ((p3 50), .inl (cI, 22, .inl (fun _ => 0))), ((p3 72), .inl (cI, 9216, .inl (upd (fun _ => (-1)) 0 0))), ((p3 14), .inl (cI, 2, .inl (fun _ => 0))), ((p3 18), .inl (cI, 2, .inl (fun _ => 0)))] | 21 => [(p0, .inr (7, oM p3 (upd (upd i7 75 0) 76 0) j7)), ((p3 49), .inl (cI, 22, .inl (fun _ => 0))), ((p3 50), .inl (cI, 22, .inl (fun _ => 0))), ((p3 72), .inl (cI, 9216, .inl (upd (fun _ => (-1)) 0 0))), ((p3 14), .inl (cI, 2, .inl (fun _ => 0))), ((p3 18), .inl (cI, 2, .inl (fun _ => 0)))] | 22 => [(p0, .inr (7, oM p3 (upd (upd i7 75 0) 76 0) j7)), ((p3 49), .inl (cI, 22, .inl (fun _ => 0))), ((p3 50), .inl (cI, 22, .inl (fun _ => 0))), ((p3 72), .inl (cI, 9216, .inl (upd (fun _ => (-1)) 0 0))), ((p3 14), .inl (cI, 2, .inl (fun _ => 0))), ((p3 18), .inl (cI, 2, .inl (fun _ => 0)))] | 23 => [(p0, .inr (7, oM p3 (upd (upd i7 75 0) 76 0) j7)), ((p3 49), .inl (cI, 22, .inl (fun _ => 0))), ((p3 50), .inl (cI, 22, .inl (fun _ => 0))), ((p3 72), .inl (cI, 9216, .inl (upd (fun _ => (-1)) 0 0))), ((p3 14), .inl (cI, 2, .inl (fun _ => 0))), ((p3 18), .inl (cI, 2, .inl (fun _ => 0)))] | 24 => [(p0, .inr (7, oM p3 i7 j7)), ((p3 49), .inl (cI, 22, .inl (fun _ => 0))), ((p3 50), .inl (cI, 22, .inl (fun _ => 0))), ((p3 72), .inl (cI, 9216, .inl (fun _ => 0))), ((p3 14), .inl (cI, 2, .inl (fun _ => 0))), ((p3 18), .inl (cI, 2, .inl (fun _ => 0)))] | 25 => [(p0, .inr (7, oM p3 i7 j7)), ((p3 49), .inl (cI, 22, .inl (fun _ => 0))), ((p3 50), .inl (cI, 22, .inl (fun _ => 0))), ((p3 72), .inl (cI, 9216, .inl (fun _ => 0))), ((p3 14), .inl (cI, 2, .inl (fun _ => 0))), ((p3 18), .inl (cI, 2, .inl (fun _ => 0)))] | 26 => [(p0, .inr (7, oM p3 (upd (upd i7 75 0) 76 0) j7)), ((p3 49), .inl (cI, 22, .inl (fun _ => 0))), ((p3 50), .inl (cI, 22, .inl (fun _ => 0))), ((p3 72), .inl (cI, 9216, .inl (upd (fun _ => (-1)) 0 0))), ((p3 14), .inl (cI, 2, .inl (fun _ => 0))), ((p3 18), .inl (cI, 2, .inl (fun _ => 0)))] | 27 => [(p0, .inr (7, oM p3 (upd (upd i7 75 0) 76 0) j7)), ((p3 49), .inl (cI, 22, .inl (fun _ => 0))), ((p3 50), .inl (cI, 22, .inl (fun _ => 0))), ((p3 72), .inl (cI, 9216, .inl (upd (fun _ => (-1)) 0 0))), ((p3 14), .inl (cI, 2, .inl (fun _ => 0))), ((p3 18), .inl (cI, 2, .inl (fun _ => 0)))] | 28 => [(p0, .inr (7, oM p3 (upd (upd i7 75 0) 76 0) j7)), ((p3 49), .inl (cI, 22, .inl (fun _ => 0))), ((p3 50), .inl (cI, 22, .inl (fun _ => 0))), ((p3 72), .inl (cI, 9216, .inl (upd (fun _ => (-1)) 0 0))), ((p3 14), .inl (cI, 2, .inl (fun _ => 0))), ((p3 18), .inl (cI, 2, .inl (fun _ => 0)))] | 29 => [(p0, .inr (7, oM p3 (upd (upd i7 75 0) 76 0) j7)), ((p3 49), .inl (cI, 22, .inl (fun _ => 0))), ((p3 50), .inl (cI, 22, .inl (fun _ => 0))), ((p3 72), .inl (cI, 9216, .inl (upd (fun _ => (-1)) 0 0))), ((p3 14), .inl (cI, 2, .inl (fun _ => 0))), ((p3 18), .inl (cI, 2, .inl (fun _ => 0)))] | 30 => [(p0, .inr (7, oM p3 i7 j7)), ((p3 49), .inl (cI, 22, .inl (fun _ => 0))), ((p3 50), .inl (cI, 22, .inl (fun _ => 0))), ((p3 72), .inl (cI, 9216, .inl (fun _ => 0))), ((p3 14), .inl (cI, 2, .inl (fun _ => 0))), ((p3 18), .inl (cI, 2, .inl (fun _ => 0)))] | 31 => [(p0, .inr (7, oM p3 i7 j7)), ((p3 49), .inl (cI, 22, .inl (fun _ => 0))), ((p3 50), .inl (cI, 22, .inl (fun _ => 0))), ((p3 72), .inl (cI, 9216, .inl (fun _ => 0))), ((p3 14), .inl (cI, 2, .inl (fun _ => 0))), ((p3 18), .inl (cI, 2, .inl (fun _ => 0)))] | 32 => [(p0, .inr (7, oM p3 (upd (upd i7 75 0) 76 0) j7)), ((p3 49), .inl (cI, 22, .inl (fun _ => 0))), ((p3 50), .inl (cI, 22, .inl (fun _ => 0))), ((p3 72), .inl (cI, 9216, .inl (upd (fun _ => (-1)) 0 0))), ((p3 14), .inl (cI, 2, .inl (fun _ => 0))), ((p3 18), .inl (cI, 2, .inl (fun _ => 0)))] | 33 => [(p0, .inr (7, oM p3 (upd (upd i7 75 0) 76 0) j7)), ((p3 49), .inl (cI, 22, .inl (fun _ => 0))), ((p3 50), .inl (cI, 22, .inl (fun _ => 0))), ((p3 72), .inl (cI, 9216, .inl (upd (fun _ => (-1)) 0 0))), ((p3 14), .inl (cI, 2, .inl (fun _ => 0))), ((p3 18), .inl (cI, 2, .inl (fun _ => 0)))] | 34 => [(p0, .inr (7, oM p3 (upd (upd i7 75 0) 76 0) j7)), ((p3 49), .inl (cI, 22, .inl (fun _ => 0))), ((p3 50), .inl (cI, 22, .inl (fun _ => 0))), ((p3 72), .inl (cI, 9216, .inl (upd (fun _ => (-1)) 0 0))), ((p3 14), .inl (cI, 2, .inl (fun _ => 0))), ((p3 18), .inl (cI, 2, .inl (fun _ => 0)))] | 35 => [(p0, .inr (7, oM p3 (upd (upd i7 75 0) 76 0) j7)), ((p3 49), .inl (cI, 22, .inl (fun _ => 0))), ((p3 50), .inl (cI, 22, .inl (fun _ => 0))), ((p3 72), .inl (cI, 9216, .inl (upd (fun _ => (-1)) 0 0))), ((p3 14), .inl (cI, 2, .inl (fun _ => 0))), ((p3 18), .inl (cI, 2, .inl (fun _ => 0)))] | 36 => [(p0, .inr (7, oM p3 i7 j7)), ((p3 49), .inl (cI, 22, .inl (fun _ => 0))), ((p3 50), .inl (cI, 22, .inl (fun _ => 0))), ((p3 72), .inl (cI, 9216, .inl (fun _ => 0))), ((p3 14), .inl (cI, 2, .inl (fun _ => 0))), ((p3 18), .inl (cI, 2, .inl (fun _ => 0)))] | 37 => [(p0, .inr (7, oM p3 i7 j7)), ((p3 49), .inl (cI, 22, .inl (fun _ => 0))), ((p3 50), .inl (cI, 22, .inl (fun _ => 0))), ((p3 72), .inl (cI, 9216, .inl (fun _ => 0))), ((p3 14), .inl (cI, 2, .inl (fun _ => 0))), ((p3 18), .inl (cI, 2, .inl (fun _ => 0)))] | 38 => [(p0, .inr (7, oM p3 (upd (upd i7 75 0) 76 0) j7)), ((p3 49), .inl (cI, 22, .inl (fun _ => 0))), ((p3 50), .inl (cI, 22, .inl (fun _ => 0))), ((p3 72), .inl (cI, 9216, .inl (upd (fun _ => (-1)) 0 0))), ((p3 14), .inl (cI, 2, .inl (fun _ => 0))), ((p3 18), .inl (cI, 2, .inl (fun _ => 0)))] | 39 => [(p0, .inr (7, oM p3 (upd (upd i7 75 0) 76 0) j7)), ((p3 49), .inl (cI, 22, .inl (fun _ => 0))), ((p3 50), .inl (cI, 22, .inl (fun _ => 0))), ((p3 72), .inl (cI, 9216, .inl (upd (fun _ => (-1)) 0 0))), ((p3 14), .inl (cI, 2, .inl (fun _ => 0))), ((p3 18), .inl (cI, 2, .inl (fun _ => 0)))] | 40 => [(p0, .inr (7, oM p3 (upd (upd i7 75 0) 76 0) j7)), ((p3 49), .inl (cI, 22, .inl (fun _ => 0))), ((p3 50), .inl (cI, 22, .inl (fun _ => 0))), ((p3 72), .inl (cI, 9216, .inl (upd (fun _ => (-1)) 0 0))), ((p3 14), .inl (cI, 2, .inl (fun _ => 0))), ((p3 18), .inl (cI, 2, .inl (fun _ => 0)))] | 41 => [(p0, .inr (7, oM p3 (upd (upd i7 75 0) 76 0) j7)), ((p3 49), .inl (cI, 22, .inl (fun _ => 0))), ((p3 50), .inl (cI, 22, .inl (fun _ => 0))), ((p3 72), .inl (cI, 9216, .inl (upd (fun _ => (-1)) 0 0))), ((p3 14), .inl (cI, 2, .inl (fun _ => 0))), ((p3 18), .inl (cI, 2, .inl (fun _ => 0)))] | 42 => [(p0, .inr (7, oM p3 i7 j7)), ((p3 49), .inl (cI, 22, .inl (fun _ => 0))), ((p3 50), .inl (cI, 22, .inl (fun _ => 0))), ((p3 72), .inl (cI, 9216, .inl (fun _ => 0))), ((p3 14), .inl (cI, 2, .inl (fun _ => 0))), ((p3 18), .inl (cI, 2, .inl (fun _ => 0)))] | 43 => [(p0, .inr (7, oM p3 i7 j7)), ((p3 49), .inl (cI, 22, .inl (fun _ => 0))), ((p3 50), .inl (cI, 22, .inl (fun _ => 0))), ((p3 72), .inl (cI, 9216, .inl (fun _ => 0))), ((p3 14), .inl (cI, 2, .inl (fun _ => 0))), ((p3 18), .inl (cI, 2, .inl (fun _ => 0)))] | 44 => [(p0, .inr (7, oM p3 (upd (upd i7 75 0) 76 0) j7)), ((p3 49), .inl (cI, 22, .inl (fun _ => 0))), ((p3 50), .inl (cI, 22, .inl (fun _ => 0))), ((p3 72), .inl (cI, 9216, .inl (upd (fun _ => (-1)) 0 0))), ((p3 14), .inl (cI, 2, .inl (fun _ => 0))), ((p3 18), .inl (cI, 2, .inl (fun _ => 0)))] | 45 => [(p0, .inr (7, oM p3 (upd (upd i7 75 0) 76 0) j7)), ((p3 49), .inl (cI, 22, .inl (fun _ => 0))), ((p3 50), .inl (cI, 22, .inl (fun _ => 0))), ((p3 72), .inl (cI, 9216, .inl (upd (fun _ => (-1)) 0 0))), ((p3 14), .inl (cI, 2, .inl (fun _ => 0))), ((p3 18), .inl (cI, 2, .inl (fun _ => 0)))] | 46 => [(p0, .inr (7, oM p3 (upd (upd i7 75 0) 76 0) j7)), ((p3 49), .inl (cI, 22, .inl (fun _ => 0))), ((p3 50), .inl (cI, 22, .inl (fun _ => 0))), ((p3 72), .inl (cI, 9216, .inl (upd (fun _ => (-1)) 0 0))), ((p3 14), .inl (cI, 2, .inl (fun _ => 0))), ((p3 18), .inl (cI, 2, .inl (fun _ => 0)))] | 47 => [(p0, .inr (7, oM p3 (upd (upd i7 75 0) 76 0) j7)), ((p3 49), .inl (cI, 22, .inl (fun _ => 0))), ((p3 50), .inl (cI, 22, .inl (fun _ => 0))), ((p3 72), .inl (cI, 9216, .inl (upd (fun _ => (-1)) 0 0))), ((p3 14), .inl (cI, 2, .inl (fun _ => 0))), ((p3 18), .inl (cI, 2, .inl (fun _ => 0)))] | 48 => [(p0, .inr (7, oM p3 i7 j7)), ((p3 49), .inl (cI, 22, .inl (fun _ => 0))), ((p3 50), .inl (cI, 22, .inl (fun _ => 0))), ((p3 72), .inl (cI, 9216, .inl (fun _ => 0))), ((p3 14), .inl (cI, 2, .inl (fun _ => 0))), ((p3 18), .inl (cI, 2, .inl (fun _ => 0)))] | 49 => [(p0, .inr (7, oM p3 i7 j7)), ((p3 49), .inl (cI, 22, .inl (fun _ => 0))), ((p3 50), .inl (cI, 22, .inl (fun _ => 0))), ((p3 72), .inl (cI, 9216, .inl (fun _ => 0))), ((p3 14), .inl (cI, 2, .inl (fun _ => 0))), ((p3 18), .inl (cI, 2, .inl (fun _ => 0)))] | 50 => [(p0, .inr (7, oM p3 (upd (upd i7 75 0) 76 0) j7)), ((p3 49), .inl (cI, 22, .inl (fun _ => 0))), ((p3 50), .inl (cI, 22, .inl (fun _ => 0))), ((p3 72), .inl (cI, 9216, .inl (upd (fun _ => (-1)) 0 0))), ((p3 14), .inl (cI, 2, .inl (fun _ => 0))), ((p3 18), .inl (cI, 2, .inl (fun _ => 0)))] | 51 => [(p0, .inr (7, oM p3 (upd (upd i7 75 0) 76 0) j7)), ((p3 49), .inl (cI, 22, .inl (fun _ => 0))), ((p3 50), .inl (cI, 22, .inl (fun _ => 0))), ((p3 72), .inl (cI, 9216, .inl (upd (fun _ => (-1)) 0 0))), ((p3 14), .inl (cI, 2, .inl (fun _ => 0))), ((p3 18), .inl (cI, 2, .inl (fun _ => 0)))] | 52 => [(p0, .inr (7, oM p3 (upd (upd i7 75 0) 76 0) j7)), ((p3 49), .inl (cI, 22, .inl (fun _ => 0))), ((p3 50), .inl (cI, 22, .inl (fun _ => 0))), ((p3 72), .inl (cI, 9216, .inl (upd (fun _ => (-1)) 0 0))), ((p3 14), .inl (cI, 2, .inl (fun _ => 0))), ((p3 18), .inl (cI, 2, .inl (fun _ => 0)))] | 53 => [(p0, .inr (7, oM p3 (upd (upd i7 75 0) 76 0) j7)), ((p3 49), .inl (cI, 22, .inl (fun _ => 0))), ((p3 50), .inl (cI, 22, .inl (fun _ => 0))), ((p3 72), .inl (cI, 9216, .inl (upd (fun _ => (-1)) 0 0))), ((p3 14), .inl (cI, 2, .inl (fun _ => 0))), ((p3 18), .inl (cI, 2, .inl (fun _ => 0)))] | _ => []) (fun (r9 : Int32) (u9 : (Nat × (Nat → Nat))) => match u9.1 with | 0 => (p1.toInt = 0) ∧ (p2.toInt < 0) ∧ r9 = (-1) | 1 => (p1.toInt = 0) ∧ (0 ≤ p2.toInt) ∧ (3 < p2.toInt) ∧ r9 = (-1) | 2 => (p1.toInt = 0) ∧ (0 ≤ p2.toInt) ∧ (p2.toInt ≤ 3) ∧ (¬ p2.toInt = 0) ∧ (¬ p2.toInt = 1) ∧ (¬ p2.toInt = 2) ∧ r9 = 0 | 3 => (p1.toInt = 0) ∧ (0 ≤ p2.toInt) ∧ (p2.toInt ≤ 3) ∧ (¬ p2.toInt = 0) ∧ (¬ p2.toInt = 1) ∧ (p2.toInt = 2) ∧ r9 = 0 | 4 => (p1.toInt = 0) ∧ (0 ≤ p2.toInt) ∧ (p2.toInt ≤ 3) ∧ (¬ p2.toInt = 0) ∧ (p2.toInt = 1) ∧ r9 = 0 | 5 => (p1.toInt = 0) ∧ (0 ≤ p2.toInt) ∧ (p2.toInt ≤ 3) ∧ (p2.toInt = 0) ∧ r9 = 0 | 6 => (p1.toInt = 1) ∧ (p2.toInt < 0) ∧ r9 = (-1) | 7 => (p1.toInt = 1) ∧ (0 ≤ p2.toInt) ∧ (3 < p2.toInt) ∧ r9 = (-1) | 8 => (p1.toInt = 1) ∧ (0 ≤ p2.toInt) ∧ (p2.toInt ≤ 3) ∧ (¬ p2.toInt = 0) ∧ (¬ p2.toInt = 1) ∧ (¬ p2.toInt = 2) ∧ r9 = 0 | 9 => (p1.toInt = 1) ∧ (0 ≤ p2.toInt) ∧ (p2.toInt ≤ 3) ∧ (¬ p2.toInt = 0) ∧ (¬ p2.toInt = 1) ∧ (p2.toInt = 2) ∧ r9 = 0 | 10 => (p1.toInt = 1) ∧ (0 ≤ p2.toInt) ∧ (p2.toInt ≤ 3) ∧ (¬ p2.toInt = 0) ∧ (p2.toInt = 1) ∧ r9 = 0 | 11 => (p1.toInt = 1) ∧ (0 ≤ p2.toInt) ∧ (p2.toInt ≤ 3) ∧ (p2.toInt = 0) ∧ r9 = 0 | 12 => (p1.toInt = 2) ∧ (p2.toInt < 0) ∧ r9 = (-1) | 13 => (p1.toInt = 2) ∧ (0 ≤ p2.toInt) ∧ (3 < p2.toInt) ∧ r9 = (-1) | 14 => (p1.toInt = 2) ∧ (0 ≤ p2.toInt) ∧ (p2.toInt ≤ 3) ∧ (¬ p2.toInt = 0) ∧ (¬ p2.toInt = 1) ∧ (¬ p2.toInt = 2) ∧ r9 = 0 | 15 => (p1.toInt = 2) ∧ (0 ≤ p2.toInt) ∧ (p2.toInt ≤ 3) ∧ (¬ p2.toInt = 0) ∧ (¬ p2.toInt = 1) ∧ (p2.toInt = 2) ∧ r9 = 0 | 16 => (p1.toInt = 2) ∧ (0 ≤ p2.toInt) ∧ (p2.toInt ≤ 3) ∧ (¬ p2.toInt = 0) ∧ (p2.toInt = 1) ∧ r9 = 0 | 17 => (p1.toInt = 2) ∧ (0 ≤ p2.toInt) ∧ (p2.toInt ≤ 3) ∧ (p2.toInt = 0) ∧ r9 = 0 | 18 => (p1.toInt = 3) ∧ (p2.toInt < 0) ∧ r9 = (-1) | 19 => (p1.toInt = 3) ∧ (0 ≤ p2.toInt) ∧ (3 < p2.toInt) ∧ r9 = (-1) | 20 => (p1.toInt = 3) ∧ (0 ≤ p2.toInt) ∧ (p2.toInt ≤ 3) ∧ (¬ p2.toInt = 0) ∧ (¬ p2.toInt = 1) ∧ (¬ p2.toInt = 2) ∧ r9 = 0 | 21 => (p1.toInt = 3) ∧ (0 ≤ p2.toInt) ∧ (p2.toInt ≤ 3) ∧ (¬ p2.toInt = 0) ∧ (¬ p2.toInt = 1) ∧ (p2.toInt = 2) ∧ r9 = 0 | 22 => (p1.toInt = 3) ∧ (0 ≤ p2.toInt) ∧ (p2.toInt ≤ 3) ∧ (¬ p2.toInt = 0) ∧ (p2.toInt = 1) ∧ r9 = 0 | 23 => (p1.toInt = 3) ∧ (0 ≤ p2.toInt) ∧ (p2.toInt ≤ 3) ∧ (p2.toInt = 0) ∧ r9 = 0 | 24 => (p1.toInt = 4) ∧ (p2.toInt < 0) ∧ r9 = (-1) | 25 => (p1.toInt = 4) ∧ (0 ≤ p2.toInt) ∧ (3 < p2.toInt) ∧ r9 = (-1) | 26 => (p1.toInt = 4) ∧ (0 ≤ p2.toInt) ∧ (p2.toInt ≤ 3) ∧ (¬ p2.toInt = 0) ∧ (¬ p2.toInt = 1) ∧ (¬ p2.toInt = 2) ∧ r9 = 0 | 27 => (p1.toInt = 4) ∧ (0 ≤ p2.toInt) ∧ (p2.toInt ≤ 3) ∧ (¬ p2.toInt = 0) ∧ (¬ p2.toInt = 1) ∧ (p2.toInt = 2) ∧ r9 = 0 | 28 => (p1.toInt = 4) ∧ (0 ≤ p2.toInt) ∧ (p2.toInt ≤ 3) ∧ (¬ p2.toInt = 0) ∧ (p2.toInt = 1) ∧ r9 = 0 | 29 => (p1.toInt = 4) ∧ (0 ≤ p2.toInt) ∧ (p2.toInt ≤ 3) ∧ (p2.toInt = 0) ∧ r9 = 0 | 30 => (p1.toInt = 5) ∧ (p2.toInt < 0) ∧ r9 = (-1) | 31 => (p1.toInt = 5) ∧ (0 ≤ p2.toInt) ∧ (3 < p2.toInt) ∧ r9 = (-1) | 32 => (p1.toInt = 5) ∧ (0 ≤ p2.toInt) ∧ (p2.toInt ≤ 3) ∧ (¬ p2.toInt = 0) ∧ (¬ p2.toInt = 1) ∧ (¬ p2.toInt = 2) ∧ r9 = 0 | 33 => (p1.toInt = 5) ∧ (0 ≤ p2.toInt) ∧ (p2.toInt ≤ 3) ∧ (¬ p2.toInt = 0) ∧ (¬ p2.toInt = 1) ∧ (p2.toInt = 2) ∧ r9 = 0 | 34 => (p1.toInt = 5) ∧ (0 ≤ p2.toInt) ∧ (p2.toInt ≤ 3) ∧ (¬ p2.toInt = 0) ∧ (p2.toInt = 1) ∧ r9 = 0 | 35 => (p1.toInt = 5) ∧ (0 ≤ p2.toInt) ∧ (p2.toInt ≤ 3) ∧ (p2.toInt = 0) ∧ r9 = 0 | 36 => (p1.toInt = 6) ∧ (p2.toInt < 0) ∧ r9 = (-1) | 37 => (p1.toInt = 6) ∧ (0 ≤ p2.toInt) ∧ (3 < p2.toInt) ∧ r9 = (-1) | 38 => (p1.toInt = 6) ∧ (0 ≤ p2.toInt) ∧ (p2.toInt ≤ 3) ∧ (¬ p2.toInt = 0) ∧ (¬ p2.toInt = 1) ∧ (¬ p2.toInt = 2) ∧ r9 = 0 | 39 => (p1.toInt = 6) ∧ (0 ≤ p2.toInt) ∧ (p2.toInt ≤ 3) ∧ (¬ p2.toInt = 0) ∧ (¬ p2.toInt = 1) ∧ (p2.toInt = 2) ∧ r9 = 0 | 40 => (p1.toInt = 6) ∧ (0 ≤ p2.toInt) ∧ (p2.toInt ≤ 3) ∧ (¬ p2.toInt = 0) ∧ (p2.toInt = 1) ∧ r9 = 0 | 41 => (p1.toInt = 6) ∧ (0 ≤ p2.toInt) ∧ (p2.toInt ≤ 3) ∧ (p2.toInt = 0) ∧ r9 = 0 | 42 => (p1.toInt = 7) ∧ (p2.toInt < 0) ∧ r9 = (-1) | 43 => (p1.toInt = 7) ∧ (0 ≤ p2.toInt) ∧ (3 < p2.toInt) ∧ r9 = (-1) | 44 => (p1.toInt = 7) ∧ (0 ≤ p2.toInt) ∧ (p2.toInt ≤ 3) ∧ (¬ p2.toInt = 0) ∧ (¬ p2.toInt = 1) ∧ (¬ p2.toInt = 2) ∧ r9 = 0 | 45 => (p1.toInt = 7) ∧ (0 ≤ p2.toInt) ∧ (p2.toInt ≤ 3) ∧ (¬ p2.toInt = 0) ∧ (¬ p2.toInt = 1) ∧ (p2.toInt = 2) ∧ r9 = 0 | 46 => (p1.toInt = 7) ∧ (0 ≤ p2.toInt) ∧ (p2.toInt ≤ 3) ∧ (¬ p2.toInt = 0) ∧ (p2.toInt = 1) ∧ r9 = 0 | 47 => (p1.toInt = 7) ∧ (0 ≤ p2.toInt) ∧ (p2.toInt ≤ 3) ∧ (p2.toInt = 0) ∧ r9 = 0 | 48 => (p1.toInt = 8) ∧ (p2.toInt < 0) ∧ r9 = (-1) | 49 => (p1.toInt = 8) ∧ (0 ≤ p2.toInt) ∧ (3 < p2.toInt) ∧ r9 = (-1) | 50 => (p1.toInt = 8) ∧ (0 ≤ p2.toInt) ∧ (p2.toInt ≤ 3) ∧ (¬ p2.toInt = 0) ∧ (¬ p2.toInt = 1) ∧ (¬ p2.toInt = 2) ∧ r9 = 0 | 51 => (p1.toInt = 8) ∧ (0 ≤ p2.toInt) ∧ (p2.toInt ≤ 3) ∧ (¬ p2.toInt = 0) ∧ (¬ p2.toInt = 1) ∧ (p2.toInt = 2) ∧ r9 = 0 | 52 => (p1.toInt = 8) ∧ (0 ≤ p2.toInt) ∧ (p2.toInt ≤ 3) ∧ (¬ p2.toInt = 0) ∧ (p2.toInt = 1) ∧ r9 = 0 | 53 => (p1.toInt = 8) ∧ (0 ≤ p2.toInt) ∧ (p2.toInt ≤ 3) ∧ (p2.toInt = 0) ∧ r9 = 0 | _ => False) := by
  refine fun sz => k_enter (cc := cX7_most) (maxL := 9) (ret := some (.int)) (Qc := fun A => va_Qi (fun (r9 : Int32) (u9 : (Nat × (Nat → Nat))) => match u9.1 with | 0 => (p1.toInt = 0) ∧ (p2.toInt < 0) ∧ r9 = (-1) | 1 => (p1.toInt = 0) ∧ (0 ≤ p2.toInt) ∧ (3 < p2.toInt) ∧ r9 = (-1) | 2 => (p1.toInt = 0) ∧ (0 ≤ p2.toInt) ∧ (p2.toInt ≤ 3) ∧ (¬ p2.toInt = 0) ∧ (¬ p2.toInt = 1) ∧ (¬ p2.toInt = 2) ∧ r9 = 0 | 3 => (p1.toInt = 0) ∧ (0 ≤ p2.toInt) ∧ (p2.toInt ≤ 3) ∧ (¬ p2.toInt = 0) ∧ (¬ p2.toInt = 1) ∧ (p2.toInt = 2) ∧ r9 = 0 | 4 => (p1.toInt = 0) ∧ (0 ≤ p2.toInt) ∧ (p2.toInt ≤ 3) ∧ (¬ p2.toInt = 0) ∧ (p2.toInt = 1) ∧ r9 = 0 | 5 => (p1.toInt = 0) ∧ (0 ≤ p2.toInt) ∧ (p2.toInt ≤ 3) ∧ (p2.toInt = 0) ∧ r9 = 0 | 6 => (p1.toInt = 1) ∧ (p2.toInt < 0) ∧ r9 = (-1) | 7 => (p1.toInt = 1) ∧ (0 ≤ p2.toInt) ∧ (3 < p2.toInt) ∧ r9 = (-1) | 8 => (p1.toInt = 1) ∧ (0 ≤ p2.toInt) ∧ (p2.toInt ≤ 3) ∧ (¬ p2.toInt = 0) ∧ (¬ p2.toInt = 1) ∧ (¬ p2.toInt = 2) ∧ r9 = 0 | 9 => (p1.toInt = 1) ∧ (0 ≤ p2.toInt) ∧ (p2.toInt ≤ 3) ∧ (¬ p2.toInt = 0) ∧ (¬ p2.toInt = 1) ∧ (p2.toInt = 2) ∧ r9 = 0 | 10 => (p1.toInt = 1) ∧ (0 ≤ p2.toInt) ∧ (p2.toInt ≤ 3) ∧ (¬ p2.toInt = 0) ∧ (p2.toInt = 1) ∧ r9 = 0 | 11 => (p1.toInt = 1) ∧ (0 ≤ p2.toInt) ∧ (p2.toInt ≤ 3) ∧ (p2.toInt = 0) ∧ r9 = 0 | 12 => (p1.toInt = 2) ∧ (p2.toInt < 0) ∧ r9 = (-1) | 13 => (p1.toInt = 2) ∧ (0 ≤ p2.toInt) ∧ (3 < p2.toInt) ∧ r9 = (-1) | 14 => (p1.toInt = 2) ∧ (0 ≤ p2.toInt) ∧ (p2.toInt ≤ 3) ∧ (¬ p2.toInt = 0) ∧ (¬ p2.toInt = 1) ∧ (¬ p2.toInt = 2) ∧ r9 = 0 | 15 => (p1.toInt = 2) ∧ (0 ≤ p2.toInt) ∧ (p2.toInt ≤ 3) ∧ (¬ p2.toInt = 0) ∧ (¬ p2.toInt = 1) ∧ (p2.toInt = 2) ∧ r9 = 0 | 16 => (p1.toInt = 2) ∧ (0 ≤ p2.toInt) ∧ (p2.toInt ≤ 3) ∧ (¬ p2.toInt = 0) ∧ (p2.toInt = 1) ∧ r9 = 0 | 17 => (p1.toInt = 2) ∧ (0 ≤ p2.toInt) ∧ (p2.toInt ≤ 3) ∧ (p2.toInt = 0) ∧ r9 = 0 | 18 => (p1.toInt = 3) ∧ (p2.toInt < 0) ∧ r9 = (-1) | 19 => (p1.toInt = 3) ∧ (0 ≤ p2.toInt) ∧ (3 < p2.toInt) ∧ r9 = (-1) | 20 => (p1.toInt = 3) ∧ (0 ≤ p2.toInt) ∧ (p2.toInt ≤ 3) ∧ (¬ p2.toInt = 0) ∧ (¬ p2.toInt = 1) ∧ (¬ p2.toInt = 2) ∧ r9 = 0 | 21 => (p1.toInt = 3) ∧ (0 ≤ p2.toInt) ∧ (p2.toInt ≤ 3) ∧ (¬ p2.toInt = 0) ∧ (¬ p2.toInt = 1) ∧ (p2.toInt = 2) ∧ r9 = 0 | 22 => (p1.toInt = 3) ∧ (0 ≤ p2.toInt) ∧ (p2.toInt ≤ 3) ∧ (¬ p2.toInt = 0) ∧ (p2.toInt = 1) ∧ r9 = 0 | 23 => (p1.toInt = 3) ∧ (0 ≤ p2.toInt) ∧ (p2.toInt ≤ 3) ∧ (p2.toInt = 0) ∧ r9 = 0 | 24 => (p1.toInt = 4) ∧ (p2.toInt < 0) ∧ r9 = (-1) | 25 => (p1.toInt = 4) ∧ (0 ≤ p2.toInt) ∧ (3 < p2.toInt) ∧ r9 = (-1) | 26 => (p1.toInt = 4) ∧ (0 ≤ p2.toInt) ∧ (p2.toInt ≤ 3) ∧ (¬ p2.toInt = 0) ∧ (¬ p2.toInt = 1) ∧ (¬ p2.toInt = 2) ∧ r9 = 0 | 27 => (p1.toInt = 4) ∧ (0 ≤ p2.toInt) ∧ (p2.toInt ≤ 3) ∧ (¬ p2.toInt = 0) ∧ (¬ p2.toInt = 1) ∧ (p2.toInt = 2) ∧ r9 = 0 | 28 => (p1.toInt = 4) ∧ (0 ≤ p2.toInt) ∧ (p2.toInt ≤ 3) ∧ (¬ p2.toInt = 0) ∧ (p2.toInt = 1) ∧ r9 = 0 | 29 => (p1.toInt = 4) ∧ (0 ≤ p2.toInt) ∧ (p2.toInt ≤ 3) ∧ (p2.toInt = 0) ∧ r9 = 0 | 30 => (p1.toInt = 5) ∧ (p2.toInt < 0) ∧ r9 = (-1) | 31 => (p1.toInt = 5) ∧ (0 ≤ p2.toInt) ∧ (3 < p2.toInt) ∧ r9 = (-1) | 32 => (p1.toInt = 5) ∧ (0 ≤ p2.toInt) ∧ (p2.toInt ≤ 3) ∧ (¬ p2.toInt = 0) ∧ (¬ p2.toInt = 1) ∧ (¬ p2.toInt = 2) ∧ r9 = 0 | 33 => (p1.toInt = 5) ∧ (0 ≤ p2.toInt) ∧ (p2.toInt ≤ 3) ∧ (¬ p2.toInt = 0) ∧ (¬ p2.toInt = 1) ∧ (p2.toInt = 2) ∧ r9 = 0 | 34 => (p1.toInt = 5) ∧ (0 ≤ p2.toInt) ∧ (p2.toInt ≤ 3) ∧ (¬ p2.toInt = 0) ∧ (p2.toInt = 1) ∧ r9 = 0 | 35 => (p1.toInt = 5) ∧ (0 ≤ p2.toInt) ∧ (p2.toInt ≤ 3) ∧ (p2.toInt = 0) ∧ r9 = 0 | 36 => (p1.toInt = 6) ∧ (p2.toInt < 0) ∧ r9 = (-1) | 37 => (p1.toInt = 6) ∧ (0 ≤ p2.toInt) ∧ (3 < p2.toInt) ∧ r9 = (-1) | 38 => (p1.toInt = 6) ∧ (0 ≤ p2.toInt) ∧ (p2.toInt ≤ 3) ∧ (¬ p2.toInt = 0) ∧ (¬ p2.toInt = 1) ∧ (¬ p2.toInt = 2) ∧ r9 = 0 | 39 => (p1.toInt = 6) ∧ (0 ≤ p2.toInt) ∧ (p2.toInt ≤ 3) ∧ (¬ p2.toInt = 0) ∧ (¬ p2.toInt = 1) ∧ (p2.toInt = 2) ∧ r9 = 0 | 40 => (p1.toInt = 6) ∧ (0 ≤ p2.toInt) ∧ (p2.toInt ≤ 3) ∧ (¬ p2.toInt = 0) ∧ (p2.toInt = 1) ∧ r9 = 0 | 41 => (p1.toInt = 6) ∧ (0 ≤ p2.toInt) ∧ (p2.toInt ≤ 3) ∧ (p2.toInt = 0) ∧ r9 = 0 | 42 => (p1.toInt = 7) ∧ (p2.toInt < 0) ∧ r9 = (-1) | 43 => (p1.toInt = 7) ∧ (0 ≤ p2.toInt) ∧ (3 < p2.toInt) ∧ r9 = (-1) | 44 => (p1.toInt = 7) ∧ (0 ≤ p2.toInt) ∧ (p2.toInt ≤ 3) ∧ (¬ p2.toInt = 0) ∧ (¬ p2.toInt = 1) ∧ (¬ p2.toInt = 2) ∧ r9 = 0 | 45 => (p1.toInt = 7) ∧ (0 ≤ p2.toInt) ∧ (p2.toInt ≤ 3) ∧ (¬ p2.toInt = 0) ∧ (¬ p2.toInt = 1) ∧ (p2.toInt = 2) ∧ r9 = 0 | 46 => (p1.toInt = 7) ∧ (0 ≤ p2.toInt) ∧ (p2.toInt ≤ 3) ∧ (¬ p2.toInt = 0) ∧ (p2.toInt = 1) ∧ r9 = 0 | 47 => (p1.toInt = 7) ∧ (0 ≤ p2.toInt) ∧ (p2.toInt ≤ 3) ∧ (p2.toInt = 0) ∧ r9 = 0 | 48 => (p1.toInt = 8) ∧ (p2.toInt < 0) ∧ r9 = (-1) | 49 => (p1.toInt = 8) ∧ (0 ≤ p2.toInt) ∧ (3 < p2.toInt) ∧ r9 = (-1) | 50 => (p1.toInt = 8) ∧ (0 ≤ p2.toInt) ∧ (p2.toInt ≤ 3) ∧ (¬ p2.toInt = 0) ∧ (¬ p2.toInt = 1) ∧ (¬ p2.toInt = 2) ∧ r9 = 0 | 51 => (p1.toInt = 8) ∧ (0 ≤ p2.toInt) ∧ (p2.toInt ≤ 3) ∧ (¬ p2.toInt = 0) ∧ (¬ p2.toInt = 1) ∧ (p2.toInt = 2) ∧ r9 = 0 | 52 => (p1.toInt = 8) ∧ (0 ≤ p2.toInt) ∧ (p2.toInt ≤ 3) ∧ (¬ p2.toInt = 0) ∧ (p2.toInt = 1) ∧ r9 = 0 | 53 => (p1.toInt = 8) ∧ (0 ≤ p2.toInt) ∧ (p2.toInt ≤ 3) ∧ (p2.toInt = 0) ∧ r9 = 0 | _ => False) (fun u => k_B (dC, dI) vwCl (tyy cI cJ cZ cM) A ((fun (u9 : (Nat × (Nat → Nat))) => match u9.1 with | 0 => [(p0, .inr (7, oM p3 i7 j7)), ((p3 49), .inl (cI, 22, .inl (fun _ => 0))), ((p3 50), .inl (cI, 22, .inl (fun _ => 0))), ((p3 72), .inl (cI, 9216, .inl (fun _ => 0))), ((p3 14), .inl (cI, 2, .inl (fun _ => 0))), ((p3 18), .inl (cI, 2, .inl (fun _ => 0)))] | 1 => [(p0, .inr (7, oM p3 i7 j7)), ((p3 49), .inl (cI, 22, .inl (fun _ => 0))), ((p3 50), .inl (cI, 22, .inl (fun _ => 0))), ((p3 72), .inl (cI, 9216, .inl (fun _ => 0))), ((p3 14), .inl (cI, 2, .inl (fun _ => 0))), ((p3 18), .inl (cI, 2, .inl (fun _ => 0)))] | 2 => [(p0, .inr (7, oM p3 (upd (upd i7 75 0) 76 0) j7)), ((p3 49), .inl (cI, 22, .inl (fun _ => 0))), ((p3 50), .inl (cI, 22, .inl (fun _ => 0))), ((p3 72), .inl (cI, 9216, .inl (upd (fun _ => (-1)) 0 0))), ((p3 14), .inl (cI, 2, .inl (fun _ => 0))), ((p3 18), .inl (cI, 2, .inl (fun _ => 0)))] | 3 => [(p0, .inr (7, oM p3 (upd (upd i7 75 0) 76 0) j7)), ((p3 49), .inl (cI, 22, .inl (fun _ => 0))), ((p3 50), .inl (cI, 22, .inl (fun _ => 0))), ((p3 72), .inl (cI, 9216, .inl (upd (fun _ => (-1)) 0 0))), ((p3 14), .inl (cI, 2, .inl (fun _ => 0))), ((p3 18), .inl (cI, 2, .inl (fun _ => 0)))] | 4 => [(p0, .inr (7, oM p3 (upd (upd i7 75 0) 76 0) j7)), ((p3 49), .inl (cI, 22, .inl (fun _ => 0))), ((p3 50), .inl (cI, 22, .inl (fun _ => 0))), ((p3 72), .inl (cI, 9216, .inl (upd (fun _ => (-1)) 0 0))), ((p3 14), .inl (cI, 2, .inl (fun _ => 0))), ((p3 18), .inl (cI, 2, .inl (fun _ => 0)))] | 5 => [(p0, .inr (7, oM p3 (upd (upd i7 75 0) 76 0) j7)), ((p3 49), .inl (cI, 22, .inl (fun _ => 0))), ((p3 50), .inl (cI, 22, .inl (fun _ => 0))), ((p3 72), .inl (cI, 9216, .inl (upd (fun _ => (-1)) 0 0))), ((p3 14), .inl (cI, 2, .inl (fun _ => 0))), ((p3 18), .inl (cI, 2, .inl (fun _ => 0)))] | 6 => [(p0, .inr (7, oM p3 i7 j7)), ((p3 49), .inl (cI, 22, .inl (fun _ => 0))), ((p3 50), .inl (cI, 22, .inl (fun _ => 0))), ((p3 72), .inl (cI, 9216, .inl (fun _ => 0))), ((p3 14), .inl (cI, 2, .inl (fun _ => 0))), ((p3 18), .inl (cI, 2, .inl (fun _ => 0)))] | 7 => [(p0, .inr (7, oM p3 i7 j7)), ((p3 49), .inl (cI, 22, .inl (fun _ => 0))), ((p3 50), .inl (cI, 22, .inl (fun _ => 0))), ((p3 72), .inl (cI, 9216, .inl (fun _ => 0))), ((p3 14), .inl (cI, 2, .inl (fun _ => 0))), ((p3 18), .inl (cI, 2, .inl (fun _ => 0)))] | 8 => [(p0, .inr (7, oM p3 (upd (upd i7 75 0) 76 0) j7)), ((p3 49), .inl (cI, 22, .inl (fun _ => 0))), ((p3 50), .inl (cI, 22, .inl (fun _ => 0))), ((p3 72), .inl (cI, 9216, .inl (upd (fun _ => (-1)) 0 0))), ((p3 14), .inl (cI, 2, .inl (fun _ => 0))), ((p3 18), .inl (cI, 2, .inl (fun _ => 0)))] | 9 => [(p0, .inr (7, oM p3 (upd (upd i7 75 0) 76 0) j7)), ((p3 49), .inl (cI, 22, .inl (fun _ => 0))), ((p3 50), .inl (cI, 22, .inl (fun _ => 0))), ((p3 72), .inl (cI, 9216, .inl (upd (fun _ => (-1)) 0 0))), ((p3 14), .inl (cI, 2, .inl (fun _ => 0))), ((p3 18), .inl (cI, 2, .inl (fun _ => 0)))] | 10 => [(p0, .inr (7, oM p3 (upd (upd i7 75 0) 76 0) j7)), ((p3 49), .inl (cI, 22, .inl (fun _ => 0))), ((p3 50), .inl (cI, 22, .inl (fun _ => 0))), ((p3 72), .inl (cI, 9216, .inl (upd (fun _ => (-1)) 0 0))), ((p3 14), .inl (cI, 2, .inl (fun _ => 0))), ((p3 18), .inl (cI, 2, .inl (fun _ => 0)))] | 11 => [(p0, .inr (7, oM p3 (upd (upd i7 75 0) 76 0) j7)), ((p3 49), .inl (cI, 22, .inl (fun _ => 0))), ((p3 50), .inl (cI, 22, .inl (fun _ => 0))), ((p3 72), .inl (cI, 9216, .inl (upd (fun _ => (-1)) 0 0))), ((p3 14), .inl (cI, 2, .inl (fun _ => 0))), ((p3 18), .inl (cI, 2, .inl (fun _ => 0)))] | 12 => [(p0, .inr (7, oM p3 i7 j7)), ((p3 49), .inl (cI, 22, .inl (fun _ => 0))), ((p3 50), .inl (cI, 22, .inl (fun _ => 0))), ((p3 72), .inl (cI, 9216, .inl (fun _ => 0))), ((p3 14), .inl (cI, 2, .inl (fun _ => 0))), ((p3 18), .inl (cI, 2, .inl (fun _ => 0)))] | 13 => [(p0, .inr (7, oM p3 i7 j7)), ((p3 49), .inl (cI, 22, .inl (fun _ => 0))), ((p3 50), .inl (cI, 22, .inl (fun _ => 0))), ((p3 72), .inl (cI, 9216, .inl (fun _ => 0))), ((p3 14), .inl (cI, 2, .inl (fun _ => 0))), ((p3 18), .inl (cI, 2, .inl (fun _ => 0)))] | 14 => [(p0, .inr (7, oM p3 (upd (upd i7 75 0) 76 0) j7)), ((p3 49), .inl (cI, 22, .inl (fun _ => 0))), ((p3 50), .inl (cI, 22, .inl (fun _ => 0))), ((p3 72), .inl (cI, 9216, .inl (upd (fun _ => (-1)) 0 0))), ((p3 14), .inl (cI, 2, .inl (fun _ => 0))), ((p3 18), .inl (cI, 2, .inl (fun _ => 0)))] | 15 => [(p0, .inr (7, oM p3 (upd (upd i7 75 0) 76 0) j7)), ((p3 49), .inl (cI, 22, .inl (fun _ => 0))), ((p3 50), .inl (cI, 22, .inl (fun _ => 0))), ((p3 72), .inl (cI, 9216, .inl (upd (fun _ => (-1)) 0 0))), ((p3 14), .inl (cI, 2, .inl (fun _ => 0))), ((p3 18), .inl (cI, 2, .inl (fun _ => 0)))] | 16 => [(p0, .inr (7, oM p3 (upd (upd i7 75 0) 76 0) j7)), ((p3 49), .inl (cI, 22, .inl (fun _ => 0))), ((p3 50), .inl (cI, 22, .inl (fun _ => 0))), ((p3 72), .inl (cI, 9216, .inl (upd (fun _ => (-1)) 0 0))), ((p3 14), .inl (cI, 2, .inl (fun _ => 0))), ((p3 18), .inl (cI, 2, .inl (fun _ => 0)))] | 17 => [(p0, .inr (7, oM p3 (upd (upd i7 75 0) 76 0) j7)), ((p3 49), .inl (cI, 22, .inl (fun _ => 0))), ((p3 50), .inl (cI, 22, .inl (fun _ => 0))), ((p3 72), .inl (cI, 9216, .inl (upd (fun _ => (-1)) 0 0))), ((p3 14), .inl (cI, 2, .inl (fun _ => 0))), ((p3 18), .inl (cI, 2, .inl (fun _ => 0)))] | 18 => [(p0, .inr (7, oM p3 i7 j7)), ((p3 49), .inl (cI, 22, .inl (fun _ => 0))), ((p3 50), .inl (cI, 22, .inl (fun _ => 0))), ((p3 72), .inl (cI, 9216, .inl (fun _ => 0))), ((p3 14), .inl (cI, 2, .inl (fun _ => 0))), ((p3 18), .inl (cI, 2, .inl (fun _ => 0)))] | 19 => [(p0, .inr (7, oM p3 i7 j7)), ((p3 49), .inl (cI, 22, .inl (fun _ => 0))), ((p3 50), .inl (cI, 22, .inl (fun _ => 0))), ((p3 72), .inl (cI, 9216, .inl (fun _ => 0))), ((p3 14), .inl (cI, 2, .inl (fun _ => 0))), ((p3 18), .inl (cI, 2, .inl (fun _ => 0)))] | 20 => [(p0, .inr (7, oM p3 (upd (upd i7 75 0) 76 0) j7)), ((p3 49), .inl (cI, 22, .inl (fun _ => 0))), ((p3 50), .inl (cI, 22, .inl (fun _ => 0))), ((p3 72), .inl (cI, 9216, .inl (upd (fun _ => (-1)) 0 0))), ((p3 14), .inl (cI, 2, .inl (fun _ => 0))), ((p3 18), .inl (cI, 2, .inl (fun _ => 0)))] | 21 => [(p0, .inr (7, oM p3 (upd (upd i7 75 0) 76 0) j7)), ((p3 49), .inl (cI, 22, .inl (fun _ => 0))), ((p3 50), .inl (cI, 22, .inl (fun _ => 0))), ((p3 72), .inl (cI, 9216, .inl (upd (fun _ => (-1)) 0 0))), ((p3 14), .inl (cI, 2, .inl (fun _ => 0))), ((p3 18), .inl (cI, 2, .inl (fun _ => 0)))] | 22 => [(p0, .inr (7, oM p3 (upd (upd i7 75 0) 76 0) j7)), ((p3 49), .inl (cI, 22, .inl (fun _ => 0))), ((p3 50), .inl (cI, 22, .inl (fun _ => 0))), ((p3 72), .inl (cI, 9216, .inl (upd (fun _ => (-1)) 0 0))), ((p3 14), .inl (cI, 2, .inl (fun _ => 0))), ((p3 18), .inl (cI, 2, .inl (fun _ => 0)))] | 23 => [(p0, .inr (7, oM p3 (upd (upd i7 75 0) 76 0) j7)), ((p3 49), .inl (cI, 22, .inl (fun _ => 0))), ((p3 50), .inl (cI, 22, .inl (fun _ => 0))), ((p3 72), .inl (cI, 9216, .inl (upd (fun _ => (-1)) 0 0))), ((p3 14), .inl (cI, 2, .inl (fun _ => 0))), ((p3 18), .inl (cI, 2, .inl (fun _ => 0)))] | 24 => [(p0, .inr (7, oM p3 i7 j7)), ((p3 49), .inl (cI, 22, .inl (fun _ => 0))), ((p3 50), .inl (cI, 22, .inl (fun _ => 0))), ((p3 72), .inl (cI, 9216, .inl (fun _ => 0))), ((p3 14), .inl (cI, 2, .inl (fun _ => 0))), ((p3 18), .inl (cI, 2, .inl (fun _ => 0)))] | 25 => [(p0, .inr (7, oM p3 i7 j7)), ((p3 49), .inl (cI, 22, .inl (fun _ => 0))), ((p3 50), .inl (cI, 22, .inl (fun _ => 0))), ((p3 72), .inl (cI, 9216, .inl (fun _ => 0))), ((p3 14), .inl (cI, 2, .inl (fun _ => 0))), ((p3 18), .inl (cI, 2, .inl (fun _ => 0)))] | 26 => [(p0, .inr (7, oM p3 (upd (upd i7 75 0) 76 0) j7)), ((p3 49), .inl (cI, 22, .inl (fun _ => 0))), ((p3 50), .inl (cI, 22, .inl (fun _ => 0))), ((p3 72), .inl (cI, 9216, .inl (upd (fun _ => (-1)) 0 0))), ((p3 14), .inl (cI, 2, .inl (fun _ => 0))), ((p3 18), .inl (cI, 2, .inl (fun _ => 0)))] | 27 => [(p0, .inr (7, oM p3 (upd (upd i7 75 0) 76 0) j7)), ((p3 49), .inl (cI, 22, .inl (fun _ => 0))), ((p3 50), .inl (cI, 22, .inl (fun _ => 0))), ((p3 72), .inl (cI, 9216, .inl (upd (fun _ => (-1)) 0 0))), ((p3 14), .inl (cI, 2, .inl (fun _ => 0))), ((p3 18), .inl (cI, 2, .inl (fun _ => 0)))] | 28 => [(p0, .inr (7, oM p3 (upd (upd i7 75 0) 76 0) j7)), ((p3 49), .inl (cI, 22, .inl (fun _ => 0))), ((p3 50), .inl (cI, 22, .inl (fun _ => 0))), ((p3 72), .inl (cI, 9216, .inl (upd (fun _ => (-1)) 0 0))), ((p3 14), .inl (cI, 2, .inl (fun _ => 0))), ((p3 18), .inl (cI, 2, .inl (fun _ => 0)))] | 29 => [(p0, .inr (7, oM p3 (upd (upd i7 75 0) 76 0) j7)), ((p3 49), .inl (cI, 22, .inl (fun _ => 0))), ((p3 50), .inl (cI, 22, .inl (fun _ => 0))), ((p3 72), .inl (cI, 9216, .inl (upd (fun _ => (-1)) 0 0))), ((p3 14), .inl (cI, 2, .inl (fun _ => 0))), ((p3 18), .inl (cI, 2, .inl (fun _ => 0)))] | 30 => [(p0, .inr (7, oM p3 i7 j7)), ((p3 49), .inl (cI, 22, .inl (fun _ => 0))), ((p3 50), .inl (cI, 22, .inl (fun _ => 0))), ((p3 72), .inl (cI, 9216, .inl (fun _ => 0))), ((p3 14), .inl (cI, 2, .inl (fun _ => 0))), ((p3 18), .inl (cI, 2, .inl (fun _ => 0)))] | 31 => [(p0, .inr (7, oM p3 i7 j7)), ((p3 49), .inl (cI, 22, .inl (fun _ => 0))), ((p3 50), .inl (cI, 22, .inl (fun _ => 0))), ((p3 72), .inl (cI, 9216, .inl (fun _ => 0))), ((p3 14), .inl (cI, 2, .inl (fun _ => 0))), ((p3 18), .inl (cI, 2, .inl (fun _ => 0)))] | 32 => [(p0, .inr (7, oM p3 (upd (upd i7 75 0) 76 0) j7)), ((p3 49), .inl (cI, 22, .inl (fun _ => 0))), ((p3 50), .inl (cI, 22, .inl (fun _ => 0))), ((p3 72), .inl (cI, 9216, .inl (upd (fun _ => (-1)) 0 0))), ((p3 14), .inl (cI, 2, .inl (fun _ => 0))), ((p3 18), .inl (cI, 2, .inl (fun _ => 0)))] | 33 => [(p0, .inr (7, oM p3 (upd (upd i7 75 0) 76 0) j7)), ((p3 49), .inl (cI, 22, .inl (fun _ => 0))), ((p3 50), .inl (cI, 22, .inl (fun _ => 0))), ((p3 72), .inl (cI, 9216, .inl (upd (fun _ => (-1)) 0 0))), ((p3 14), .inl (cI, 2, .inl (fun _ => 0))), ((p3 18), .inl (cI, 2, .inl (fun _ => 0)))] | 34 => [(p0, .inr (7, oM p3 (upd (upd i7 75 0) 76 0) j7)), ((p3 49), .inl (cI, 22, .inl (fun _ => 0))), ((p3 50), .inl (cI, 22, .inl (fun _ => 0))), ((p3 72), .inl (cI, 9216, .inl (upd (fun _ => (-1)) 0 0))), ((p3 14), .inl (cI, 2, .inl (fun _ => 0))), ((p3 18), .inl (cI, 2, .inl (fun _ => 0)))] | 35 => [(p0, .inr (7, oM p3 (upd (upd i7 75 0) 76 0) j7)), ((p3 49), .inl (cI, 22, .inl (fun _ => 0))), ((p3 50), .inl (cI, 22, .inl (fun _ => 0))), ((p3 72), .inl (cI, 9216, .inl (upd (fun _ => (-1)) 0 0))), ((p3 14), .inl (cI, 2, .inl (fun _ => 0))), ((p3 18), .inl (cI, 2, .inl (fun _ => 0)))] | 36 => [(p0, .inr (7, oM p3 i7 j7)), ((p3 49), .inl (cI, 22, .inl (fun _ => 0))), ((p3 50), .inl (cI, 22, .inl (fun _ => 0))), ((p3 72), .inl (cI, 9216, .inl (fun _ => 0))), ((p3 14), .inl (cI, 2, .inl (fun _ => 0))), ((p3 18), .inl (cI, 2, .inl (fun _ => 0)))] | 37 => [(p0, .inr (7, oM p3 i7 j7)), ((p3 49), .inl (cI, 22, .inl (fun _ => 0))), ((p3 50), .inl (cI, 22, .inl (fun _ => 0))), ((p3 72), .inl (cI, 9216, .inl (fun _ => 0))), ((p3 14), .inl (cI, 2, .inl (fun _ => 0))), ((p3 18), .inl (cI, 2, .inl (fun _ => 0)))] | 38 => [(p0, .inr (7, oM p3 (upd (upd i7 75 0) 76 0) j7)), ((p3 49), .inl (cI, 22, .inl (fun _ => 0))), ((p3 50), .inl (cI, 22, .inl (fun _ => 0))), ((p3 72), .inl (cI, 9216, .inl (upd (fun _ => (-1)) 0 0))), ((p3 14), .inl (cI, 2, .inl (fun _ => 0))), ((p3 18), .inl (cI, 2, .inl (fun _ => 0)))] | 39 => [(p0, .inr (7, oM p3 (upd (upd i7 75 0) 76 0) j7)), ((p3 49), .inl (cI, 22, .inl (fun _ => 0))), ((p3 50), .inl (cI, 22, .inl (fun _ => 0))), ((p3 72), .inl (cI, 9216, .inl (upd (fun _ => (-1)) 0 0))), ((p3 14), .inl (cI, 2, .inl (fun _ => 0))), ((p3 18), .inl (cI, 2, .inl (fun _ => 0)))] | 40 => [(p0, .inr (7, oM p3 (upd (upd i7 75 0) 76 0) j7)), ((p3 49), .inl (cI, 22, .inl (fun _ => 0))), ((p3 50), .inl (cI, 22, .inl (fun _ => 0))), ((p3 72), .inl (cI, 9216, .inl (upd (fun _ => (-1)) 0 0))), ((p3 14), .inl (cI, 2, .inl (fun _ => 0))), ((p3 18), .inl (cI, 2, .inl (fun _ => 0)))] | 41 => [(p0, .inr (7, oM p3 (upd (upd i7 75 0) 76 0) j7)), ((p3 49), .inl (cI, 22, .inl (fun _ => 0))), ((p3 50), .inl (cI, 22, .inl (fun _ => 0))), ((p3 72), .inl (cI, 9216, .inl (upd (fun _ => (-1)) 0 0))), ((p3 14), .inl (cI, 2, .inl (fun _ => 0))), ((p3 18), .inl (cI, 2, .inl (fun _ => 0)))] | 42 => [(p0, .inr (7, oM p3 i7 j7)), ((p3 49), .inl (cI, 22, .inl (fun _ => 0))), ((p3 50), .inl (cI, 22, .inl (fun _ => 0))), ((p3 72), .inl (cI, 9216, .inl (fun _ => 0))), ((p3 14), .inl (cI, 2, .inl (fun _ => 0))), ((p3 18), .inl (cI, 2, .inl (fun _ => 0)))] | 43 => [(p0, .inr (7, oM p3 i7 j7)), ((p3 49), .inl (cI, 22, .inl (fun _ => 0))), ((p3 50), .inl (cI, 22, .inl (fun _ => 0))), ((p3 72), .inl (cI, 9216, .inl (fun _ => 0))), ((p3 14), .inl (cI, 2, .inl (fun _ => 0))), ((p3 18), .inl (cI, 2, .inl (fun _ => 0)))] | 44 => [(p0, .inr (7, oM p3 (upd (upd i7 75 0) 76 0) j7)), ((p3 49), .inl (cI, 22, .inl (fun _ => 0))), ((p3 50), .inl (cI, 22, .inl (fun _ => 0))), ((p3 72), .inl (cI, 9216, .inl (upd (fun _ => (-1)) 0 0))), ((p3 14), .inl (cI, 2, .inl (fun _ => 0))), ((p3 18), .inl (cI, 2, .inl (fun _ => 0)))] | 45 => [(p0, .inr (7, oM p3 (upd (upd i7 75 0) 76 0) j7)), ((p3 49), .inl (cI, 22, .inl (fun _ => 0))), ((p3 50), .inl (cI, 22, .inl (fun _ => 0))), ((p3 72), .inl (cI, 9216, .inl (upd (fun _ => (-1)) 0 0))), ((p3 14), .inl (cI, 2, .inl (fun _ => 0))), ((p3 18), .inl (cI, 2, .inl (fun _ => 0)))] | 46 => [(p0, .inr (7, oM p3 (upd (upd i7 75 0) 76 0) j7)), ((p3 49), .inl (cI, 22, .inl (fun _ => 0))), ((p3 50), .inl (cI, 22, .inl (fun _ => 0))), ((p3 72), .inl (cI, 9216, .inl (upd (fun _ => (-1)) 0 0))), ((p3 14), .inl (cI, 2, .inl (fun _ => 0))), ((p3 18), .inl (cI, 2, .inl (fun _ => 0)))] | 47 => [(p0, .inr (7, oM p3 (upd (upd i7 75 0) 76 0) j7)), ((p3 49), .inl (cI, 22, .inl (fun _ => 0))), ((p3 50), .inl (cI, 22, .inl (fun _ => 0))), ((p3 72), .inl (cI, 9216, .inl (upd (fun _ => (-1)) 0 0))), ((p3 14), .inl (cI, 2, .inl (fun _ => 0))), ((p3 18), .inl (cI, 2, .inl (fun _ => 0)))] | 48 => [(p0, .inr (7, oM p3 i7 j7)), ((p3 49), .inl (cI, 22, .inl (fun _ => 0))), ((p3 50), .inl (cI, 22, .inl (fun _ => 0))), ((p3 72), .inl (cI, 9216, .inl (fun _ => 0))), ((p3 14), .inl (cI, 2, .inl (fun _ => 0))), ((p3 18), .inl (cI, 2, .inl (fun _ => 0)))] | 49 => [(p0, .inr (7, oM p3 i7 j7)), ((p3 49), .inl (cI, 22, .inl (fun _ => 0))), ((p3 50), .inl (cI, 22, .inl (fun _ => 0))), ((p3 72), .inl (cI, 9216, .inl (fun _ => 0))), ((p3 14), .inl (cI, 2, .inl (fun _ => 0))), ((p3 18), .inl (cI, 2, .inl (fun _ => 0)))] | 50 => [(p0, .inr (7, oM p3 (upd (upd i7 75 0) 76 0) j7)), ((p3 49), .inl (cI, 22, .inl (fun _ => 0))), ((p3 50), .inl (cI, 22, .inl (fun _ => 0))), ((p3 72), .inl (cI, 9216, .inl (upd (fun _ => (-1)) 0 0))), ((p3 14), .inl (cI, 2, .inl (fun _ => 0))), ((p3 18), .inl (cI, 2, .inl (fun _ => 0)))] | 51 => [(p0, .inr (7, oM p3 (upd (upd i7 75 0) 76 0) j7)), ((p3 49), .inl (cI, 22, .inl (fun _ => 0))), ((p3 50), .inl (cI, 22, .inl (fun _ => 0))), ((p3 72), .inl (cI, 9216, .inl (upd (fun _ => (-1)) 0 0))), ((p3 14), .inl (cI, 2, .inl (fun _ => 0))), ((p3 18), .inl (cI, 2, .inl (fun _ => 0)))] | 52 => [(p0, .inr (7, oM p3 (upd (upd i7 75 0) 76 0) j7)), ((p3 49), .inl (cI, 22, .inl (fun _ => 0))), ((p3 50), .inl (cI, 22, .inl (fun _ => 0))), ((p3 72), .inl (cI, 9216, .inl (upd (fun _ => (-1)) 0 0))), ((p3 14), .inl (cI, 2, .inl (fun _ => 0))), ((p3 18), .inl (cI, 2, .inl (fun _ => 0)))] | 53 => [(p0, .inr (7, oM p3 (upd (upd i7 75 0) 76 0) j7)), ((p3 49), .inl (cI, 22, .inl (fun _ => 0))), ((p3 50), .inl (cI, 22, .inl (fun _ => 0))), ((p3 72), .inl (cI, 9216, .inl (upd (fun _ => (-1)) 0 0))), ((p3 14), .inl (cI, 2, .inl (fun _ => 0))), ((p3 18), .inl (cI, 2, .inl (fun _ => 0)))] | _ => []) u)) A) sz (by decide +kernel) rfl (Nat.le_of_ble_eq_true rfl) (fun p e s m args below meth c A ls H locs B hP hD hS hl => ?_)
  obtain ⟨hx, hb, hml, hown, hts, hr, hlk, hnm, hK, hA, hN, hC⟩ := id B
  have hown : s.vm.findClass RX7 = some m.cls := hown
  have hl : lv_has ls 9 [(0, .ref p0), (1, .int p1), (2, .int p2)] := hl
  have w_0 : (Cond.fieldLink RX7 240 "WishSeaModel" "foundRung" "I").before args s = true := hts _ (List.mem_of_getElem? (i := 1) rfl)
  have w_1 : (Cond.fieldLink RX7 54 "WishSeaModel" "things" "[I").before args s = true := hts _ (List.mem_of_getElem? (i := 2) rfl)
  have w_2 : (Cond.fieldLink RX7 51 "WishSeaModel" "bank" "I").before args s = true := hts _ (List.mem_of_getElem? (i := 3) rfl)
  have w_3 : (Cond.fieldLink RX7 231 "WishSeaModel" "rungSea" "[I").before args s = true := hts _ (List.mem_of_getElem? (i := 4) rfl)
  have w_4 : (Cond.fieldLink RX7 243 "WishSeaModel" "foundSet" "I").before args s = true := hts _ (List.mem_of_getElem? (i := 5) rfl)
  have hinX7 : ∀ w ∈ u_ws RX7 TX7 92, w ∈ wsX7_most := fun _ h => List.mem_cons_of_mem _ (List.mem_append_right _ h)
  rcases (show p1.toInt = 0 ∨ p1.toInt = 1 ∨ p1.toInt = 2 ∨ p1.toInt = 3 ∨ p1.toInt = 4 ∨ p1.toInt = 5 ∨ p1.toInt = 6 ∨ p1.toInt = 7 ∨ p1.toInt = 8 by omega) with c_1 | c_1 | c_1 | c_1 | c_1 | c_1 | c_1 | c_1 | c_1
  · obtain rfl : p1 = 0 := k_eqL (by decide +kernel) c_1
    refine lv_iload_n hx hb dX7_most_0 rfl (lv_at hl 1 rfl) ?_
    refine lv_iconst (v := 0) hx hb dX7_most_1 (by decide +kernel) ?_
    refine lv_bipush (v := 8) hx hb dX7_most_2 (by decide +kernel) ?_
    refine k_ci (wc := []) (wr := [(p0, .inr (7, oM p3 i7 j7)), ((p3 49), .inl (cI, 22, .inl (fun _ => 0))), ((p3 50), .inl (cI, 22, .inl (fun _ => 0))), ((p3 72), .inl (cI, 9216, .inl (fun _ => 0))), ((p3 14), .inl (cI, 2, .inl (fun _ => 0))), ((p3 18), .inl (cI, 2, .inl (fun _ => 0)))]) (fun hPc hDc hFc => va_runS (As := [.int 0, .int 0, .int 8]) (rest := []) ⟨hx, hb, hml, hown, hts⟩ (c_X7_is_v6 l dC dI cI cJ cZ cM H.size) (va_cwS 3 hts gX7_most_X7_is rfl rfl rfl (by decide +kernel) ⟨(Nat.le_of_ble_eq_true rfl), (Nat.le_of_ble_eq_true rfl)⟩) (k_pS hPc hDc hK hN hC hS hFc) rfl rfl hl.1 rfl (lv_room (Nat.le_of_ble_eq_true rfl)) dX7_most_4 ⟨(Nat.le_of_ble_eq_true rfl), (Nat.le_of_ble_eq_true rfl)⟩) hP hD hS hA [] [0, 1, 2, 3, 4, 5] rfl rfl rfl rfl (by decide) (fun _ => rfl) 0 0 rfl rfl (fun r_2 u_3 H locs hw hP hD hS => ?_)
    obtain rfl : r_2 = 1 := hw
    have hP : va_P (dC, dI) vwCl [(p0, .inr (7, oM p3 i7 j7)), ((p3 49), .inl (cI, 22, .inl (fun _ => 0))), ((p3 50), .inl (cI, 22, .inl (fun _ => 0))), ((p3 72), .inl (cI, 9216, .inl (fun _ => 0))), ((p3 14), .inl (cI, 2, .inl (fun _ => 0))), ((p3 18), .inl (cI, 2, .inl (fun _ => 0)))] H := hP
    have hD : va_D A [(p0, .inr (7, oM p3 i7 j7)), ((p3 49), .inl (cI, 22, .inl (fun _ => 0))), ((p3 50), .inl (cI, 22, .inl (fun _ => 0))), ((p3 72), .inl (cI, 9216, .inl (fun _ => 0))), ((p3 14), .inl (cI, 2, .inl (fun _ => 0))), ((p3 18), .inl (cI, 2, .inl (fun _ => 0)))] := hD
    refine lv_if_eq (tgt := 19) hx hb dX7_most_7 (by decide) (fun q9 => absurd q9 (by decide +kernel)) (fun _ => ?_)
    refine lv_iload_n hx hb dX7_most_10 rfl (lv_at hl 2 rfl) ?_
    refine lv_iconst (v := 0) hx hb dX7_most_11 (by decide +kernel) ?_
    refine lv_iconst (v := 3) hx hb dX7_most_12 (by decide +kernel) ?_
    refine k_ci (wc := []) (wr := [(p0, .inr (7, oM p3 i7 j7)), ((p3 49), .inl (cI, 22, .inl (fun _ => 0))), ((p3 50), .inl (cI, 22, .inl (fun _ => 0))), ((p3 72), .inl (cI, 9216, .inl (fun _ => 0))), ((p3 14), .inl (cI, 2, .inl (fun _ => 0))), ((p3 18), .inl (cI, 2, .inl (fun _ => 0)))]) (fun hPc hDc hFc => va_runS (As := [.int p2, .int 0, .int 3]) (rest := []) ⟨hx, hb, hml, hown, hts⟩ (c_X7_is_v24 l dC dI cI cJ cZ cM p2 H.size) (va_cwS 3 hts gX7_most_X7_is rfl rfl rfl (by decide +kernel) ⟨(Nat.le_of_ble_eq_true rfl), (Nat.le_of_ble_eq_true rfl)⟩) (k_pS hPc hDc hK hN hC hS hFc) rfl rfl hl.1 rfl (lv_room (Nat.le_of_ble_eq_true rfl)) dX7_most_13 ⟨(Nat.le_of_ble_eq_true rfl), (Nat.le_of_ble_eq_true rfl)⟩) hP hD hS hA [] [0, 1, 2, 3, 4, 5] rfl rfl rfl rfl (by decide) (fun _ => rfl) 0 0 rfl rfl (fun r_4 u_5 H locs hw hP hD hS => ?_)
    obtain ⟨k_u_5, u_u_5⟩ := u_5
    rcases k_u_5 with _ | _ | _ | k_u_5
    · obtain ⟨c_6, rfl⟩ : (p2.toInt < 0) ∧ r_4 = 0 := hw
      have hP : va_P (dC, dI) vwCl [(p0, .inr (7, oM p3 i7 j7)), ((p3 49), .inl (cI, 22, .inl (fun _ => 0))), ((p3 50), .inl (cI, 22, .inl (fun _ => 0))), ((p3 72), .inl (cI, 9216, .inl (fun _ => 0))), ((p3 14), .inl (cI, 2, .inl (fun _ => 0))), ((p3 18), .inl (cI, 2, .inl (fun _ => 0)))] H := hP
      have hD : va_D A [(p0, .inr (7, oM p3 i7 j7)), ((p3 49), .inl (cI, 22, .inl (fun _ => 0))), ((p3 50), .inl (cI, 22, .inl (fun _ => 0))), ((p3 72), .inl (cI, 9216, .inl (fun _ => 0))), ((p3 14), .inl (cI, 2, .inl (fun _ => 0))), ((p3 18), .inl (cI, 2, .inl (fun _ => 0)))] := hD
      refine lv_if_ne (tgt := 21) hx hb dX7_most_16 (by decide) (fun q9 => absurd q9 (by decide +kernel)) (fun _ => ?_)
      refine lv_iconst (v := (-1)) hx hb dX7_most_19 (by decide +kernel) ?_
      exact k_ri B hP hD hS dX7_most_20 (0, (fun _ => 0)) [0, 1, 2, 3, 4, 5] rfl rfl rfl (Nat.le_of_ble_eq_true rfl) (Nat.le_of_ble_eq_true rfl) ⟨c_1, c_6, rfl⟩
    · obtain ⟨c_7, c_8, rfl⟩ : (0 ≤ p2.toInt) ∧ (3 < p2.toInt) ∧ r_4 = 0 := hw
      have hP : va_P (dC, dI) vwCl [(p0, .inr (7, oM p3 i7 j7)), ((p3 49), .inl (cI, 22, .inl (fun _ => 0))), ((p3 50), .inl (cI, 22, .inl (fun _ => 0))), ((p3 72), .inl (cI, 9216, .inl (fun _ => 0))), ((p3 14), .inl (cI, 2, .inl (fun _ => 0))), ((p3 18), .inl (cI, 2, .inl (fun _ => 0)))] H := hP
      have hD : va_D A [(p0, .inr (7, oM p3 i7 j7)), ((p3 49), .inl (cI, 22, .inl (fun _ => 0))), ((p3 50), .inl (cI, 22, .inl (fun _ => 0))), ((p3 72), .inl (cI, 9216, .inl (fun _ => 0))), ((p3 14), .inl (cI, 2, .inl (fun _ => 0))), ((p3 18), .inl (cI, 2, .inl (fun _ => 0)))] := hD
      refine lv_if_ne (tgt := 21) hx hb dX7_most_16 (by decide) (fun q9 => absurd q9 (by decide +kernel)) (fun _ => ?_)
      refine lv_iconst (v := (-1)) hx hb dX7_most_19 (by decide +kernel) ?_
      exact k_ri B hP hD hS dX7_most_20 (1, (fun _ => 0)) [0, 1, 2, 3, 4, 5] rfl rfl rfl (Nat.le_of_ble_eq_true rfl) (Nat.le_of_ble_eq_true rfl) ⟨c_1, c_7, c_8, rfl⟩
    · obtain ⟨c_9, c_10, rfl⟩ : (0 ≤ p2.toInt) ∧ (p2.toInt ≤ 3) ∧ r_4 = 1 := hw
      have hP : va_P (dC, dI) vwCl [(p0, .inr (7, oM p3 i7 j7)), ((p3 49), .inl (cI, 22, .inl (fun _ => 0))), ((p3 50), .inl (cI, 22, .inl (fun _ => 0))), ((p3 72), .inl (cI, 9216, .inl (fun _ => 0))), ((p3 14), .inl (cI, 2, .inl (fun _ => 0))), ((p3 18), .inl (cI, 2, .inl (fun _ => 0)))] H := hP
      have hD : va_D A [(p0, .inr (7, oM p3 i7 j7)), ((p3 49), .inl (cI, 22, .inl (fun _ => 0))), ((p3 50), .inl (cI, 22, .inl (fun _ => 0))), ((p3 72), .inl (cI, 9216, .inl (fun _ => 0))), ((p3 14), .inl (cI, 2, .inl (fun _ => 0))), ((p3 18), .inl (cI, 2, .inl (fun _ => 0)))] := hD
      refine lv_if_ne (tgt := 21) hx hb dX7_most_16 (by decide) (fun _ => ?_) (fun q9 => absurd q9 (by decide +kernel))
      refine lv_aload_n hx hb dX7_most_21 rfl (lv_at hl 0 rfl) ?_
      refine k_cv (wc := [(p0, .inr (7, oM p3 i7 j7)), ((p3 49), .inl (cI, 22, .inl (fun _ => 0))), ((p3 50), .inl (cI, 22, .inl (fun _ => 0))), ((p3 72), .inl (cI, 9216, .inl (fun _ => 0))), ((p3 14), .inl (cI, 2, .inl (fun _ => 0))), ((p3 18), .inl (cI, 2, .inl (fun _ => 0)))]) (wr := []) (fun hPc hDc hFc => va_runV (As := []) (rest := []) ⟨hx, hb, hml, hown, hts⟩ (c_X7_climbs_v0 l dC dI cI cJ cZ cM p0 p3 H.size) (cwV 0 hts gX7_most_X7_climbs rfl rfl rfl (by decide +kernel) ⟨(Nat.le_of_ble_eq_true rfl), (Nat.le_of_ble_eq_true rfl)⟩) (k_pV hPc hDc hK hN hC hS hFc hP (q0 := 0) (ci := 7) rfl rfl) rfl rfl hl.1 rfl (lv_room (Nat.le_of_ble_eq_true rfl)) dX7_most_22 ⟨(Nat.le_of_ble_eq_true rfl), (Nat.le_of_ble_eq_true rfl)⟩) hP hD hS hA [0, 1, 2, 3, 4, 5] [] rfl rfl rfl rfl (by decide) (fun _ => rfl) 0 0 rfl rfl (fun u_12 H locs hw hP hD hS => ?_)
      have hP : va_P (dC, dI) vwCl [(p0, .inr (7, oM p3 i7 j7)), ((p3 49), .inl (cI, 22, .inl (fun _ => 0))), ((p3 50), .inl (cI, 22, .inl (fun _ => 0))), ((p3 72), .inl (cI, 9216, .inl (upd (fun _ => (-1)) 0 0))), ((p3 14), .inl (cI, 2, .inl (fun _ => 0))), ((p3 18), .inl (cI, 2, .inl (fun _ => 0)))] H := hP
      have hD : va_D A [(p0, .inr (7, oM p3 i7 j7)), ((p3 49), .inl (cI, 22, .inl (fun _ => 0))), ((p3 50), .inl (cI, 22, .inl (fun _ => 0))), ((p3 72), .inl (cI, 9216, .inl (upd (fun _ => (-1)) 0 0))), ((p3 14), .inl (cI, 2, .inl (fun _ => 0))), ((p3 18), .inl (cI, 2, .inl (fun _ => 0)))] := hD
      refine lv_aload_n hx hb dX7_most_25 rfl (lv_at hl 0 rfl) ?_
      refine k_ci (wc := [(p0, .inr (7, oM p3 i7 j7)), ((p3 14), .inl (cI, 2, .inl (fun _ => 0)))]) (wr := [((p3 49), .inl (cI, 22, .inl (fun _ => 0))), ((p3 50), .inl (cI, 22, .inl (fun _ => 0))), ((p3 72), .inl (cI, 9216, .inl (upd (fun _ => (-1)) 0 0))), ((p3 18), .inl (cI, 2, .inl (fun _ => 0)))]) (fun hPc hDc hFc => va_runV (As := []) (rest := []) ⟨hx, hb, hml, hown, hts⟩ (c_X7_briefOnes_v2 l dC dI cI cJ cZ cM p0 p3 H.size) (cwV 0 hts gX7_most_X7_briefOnes rfl rfl rfl (by decide +kernel) ⟨(Nat.le_of_ble_eq_true rfl), (Nat.le_of_ble_eq_true rfl)⟩) (k_pV hPc hDc hK hN hC hS hFc hP (q0 := 0) (ci := 7) rfl rfl) rfl rfl hl.1 rfl (lv_room (Nat.le_of_ble_eq_true rfl)) dX7_most_26 ⟨(Nat.le_of_ble_eq_true rfl), (Nat.le_of_ble_eq_true rfl)⟩) hP hD hS hA [0, 4] [1, 2, 3, 5] rfl rfl rfl rfl (by decide) (fun _ => rfl) 0 0 rfl rfl (fun r_13 u_14 H locs hw hP hD hS => ?_)
      obtain rfl : r_13 = 0 := hw
      have hP : va_P (dC, dI) vwCl [((p3 49), .inl (cI, 22, .inl (fun _ => 0))), ((p3 50), .inl (cI, 22, .inl (fun _ => 0))), ((p3 72), .inl (cI, 9216, .inl (upd (fun _ => (-1)) 0 0))), ((p3 18), .inl (cI, 2, .inl (fun _ => 0))), (p0, .inr (7, oM p3 i7 j7)), ((p3 14), .inl (cI, 2, .inl (fun _ => 0)))] H := hP
      have hD : va_D A [((p3 49), .inl (cI, 22, .inl (fun _ => 0))), ((p3 50), .inl (cI, 22, .inl (fun _ => 0))), ((p3 72), .inl (cI, 9216, .inl (upd (fun _ => (-1)) 0 0))), ((p3 18), .inl (cI, 2, .inl (fun _ => 0))), (p0, .inr (7, oM p3 i7 j7)), ((p3 14), .inl (cI, 2, .inl (fun _ => 0)))] := hD
      refine lv_iconst (v := (-1)) hx hb dX7_most_29 (by decide +kernel) ?_
      refine lv_ixor hx hb dX7_most_30 ?_
      refine k_int (v := (-1)) (by decide +kernel) ?_
      refine lv_istore_n (lv' := [(3, .int (-1)), (0, .ref p0), (1, .int 0), (2, .int p2)]) hx hb dX7_most_31 rfl hl (by decide) rfl (fun ls hl => ?_)
      refine lv_aload_n hx hb dX7_most_32 rfl (lv_at hl 1 rfl) ?_
      refine lv_iconst (v := (-1)) hx hb dX7_most_33 (by decide +kernel) ?_
      refine k_put (D := (dC, dI)) (ci := 7) (v := .int (-1)) (C := RX7) (T := TX7) (N := 92) (ws' := [((p3 49), .inl (cI, 22, .inl (fun _ => 0))), ((p3 50), .inl (cI, 22, .inl (fun _ => 0))), ((p3 72), .inl (cI, 9216, .inl (upd (fun _ => (-1)) 0 0))), ((p3 18), .inl (cI, 2, .inl (fun _ => 0))), (p0, .inr (7, oM p3 (upd i7 75 (-1)) j7)), ((p3 14), .inl (cI, 2, .inl (fun _ => 0)))]) hx hb hts hinX7 tyX7 tyX7_ok nmX7 hown hK hP hD hS 4 rfl rfl 75 (by decide) w_0 rfl rfl rfl rfl (Nat.le_of_ble_eq_true rfl) rfl dX7_most_34 (fun H locs hP hD hS => ?_)
      refine lv_iconst (v := (-1)) hx hb dX7_most_37 (by decide +kernel) ?_
      refine lv_istore (lv' := [(4, .int (-1)), (3, .int (-1)), (0, .ref p0), (1, .int 0), (2, .int p2)]) hx hb dX7_most_38 hl (by decide) rfl (fun ls hl => ?_)
      refine lv_iconst (v := 0) hx hb dX7_most_40 (by decide +kernel) ?_
      refine lv_istore (lv' := [(5, .int 0), (4, .int (-1)), (3, .int (-1)), (0, .ref p0), (1, .int 0), (2, .int p2)]) hx hb dX7_most_41 hl (by decide) rfl (fun ls hl => ?_)
      refine lv_iload hx hb dX7_most_43 (lv_at hl 0 rfl) ?_
      refine lv_iload_n hx hb dX7_most_45 rfl (lv_at hl 4 rfl) ?_
      refine lv_icmp_gt (tgt := 166) hx hb dX7_most_46 (by decide) (fun q9 => absurd q9 (by decide +kernel)) (fun _ => ?_)
      refine lv_iconst (v := 0) hx hb dX7_most_49 (by decide +kernel) ?_
      refine lv_istore (lv' := [(6, .int 0), (5, .int 0), (4, .int (-1)), (3, .int (-1)), (0, .ref p0), (1, .int 0), (2, .int p2)]) hx hb dX7_most_50 hl (by decide) rfl (fun ls hl => ?_)
      refine lv_iload hx hb dX7_most_52 (lv_at hl 0 rfl) ?_
      refine lv_iconst (v := 1) hx hb dX7_most_54 (by decide +kernel) ?_
      refine lv_aload_n hx hb dX7_most_55 rfl (lv_at hl 4 rfl) ?_
      refine k_get (D := (dC, dI)) (ci := 7) (v := .ref (p3 14)) (C := RX7) (T := TX7) (N := 92) hx hb hts hinX7 hown hK hP 4 rfl rfl 14 (by decide) w_1 rfl rfl dX7_most_56 ?_
      refine lv_aload_n hx hb dX7_most_59 rfl (lv_at hl 4 rfl) ?_
      refine k_get (D := (dC, dI)) (ci := 7) (v := .int 0) (C := RX7) (T := TX7) (N := 92) hx hb hts hinX7 hown hK hP 4 rfl rfl 13 (by decide) w_2 rfl rfl dX7_most_60 ?_
      refine k_iald (v := 0) hx hb hK hP 5 0 0 rfl rfl rfl (Nat.le_of_ble_eq_true rfl) (Nat.le_of_ble_eq_true rfl) rfl dX7_most_63 ?_
      refine lv_ishl hx hb dX7_most_64 ?_
      refine k_int (v := 1) (by decide +kernel) ?_
      refine lv_icmp_ge (tgt := 160) hx hb dX7_most_65 (by decide) (fun q9 => absurd q9 (by decide +kernel)) (fun _ => ?_)
      refine lv_aload_n hx hb dX7_most_68 rfl (lv_at hl 4 rfl) ?_
      refine k_get (D := (dC, dI)) (ci := 7) (v := .ref (p3 72)) (C := RX7) (T := TX7) (N := 92) hx hb hts hinX7 hown hK hP 4 rfl rfl 72 (by decide) w_3 rfl rfl dX7_most_69 ?_
      refine lv_sipush (v := 1024) hx hb dX7_most_72 (by decide +kernel) ?_
      refine lv_iload hx hb dX7_most_75 (lv_at hl 1 rfl) ?_
      refine lv_imul hx hb dX7_most_77 ?_
      refine k_int (v := 0) (by decide +kernel) ?_
      refine lv_iload hx hb dX7_most_78 (lv_at hl 0 rfl) ?_
      refine lv_iadd hx hb dX7_most_80 ?_
      refine k_int (v := 0) (by decide +kernel) ?_
      refine k_iald (v := 0) hx hb hK hP 2 0 0 rfl rfl rfl (Nat.le_of_ble_eq_true rfl) (Nat.le_of_ble_eq_true rfl) rfl dX7_most_81 ?_
      refine lv_istore (lv' := [(7, .int 0), (6, .int 0), (5, .int 0), (4, .int (-1)), (3, .int (-1)), (0, .ref p0), (1, .int 0), (2, .int p2)]) hx hb dX7_most_82 hl (by decide) rfl (fun ls hl => ?_)
      refine lv_iload hx hb dX7_most_84 (lv_at hl 0 rfl) ?_
      refine lv_iconst (v := (-1)) hx hb dX7_most_86 (by decide +kernel) ?_
      refine lv_icmp_ne (tgt := 93) hx hb dX7_most_87 (by decide) (fun _ => ?_) (fun q9 => absurd q9 (by decide +kernel))
      refine lv_aload_n hx hb dX7_most_93 rfl (lv_at hl 5 rfl) ?_
      refine lv_iload hx hb dX7_most_94 (lv_at hl 1 rfl) ?_
      refine lv_iload_n hx hb dX7_most_96 rfl (lv_at hl 4 rfl) ?_
      refine lv_iand hx hb dX7_most_97 ?_
      refine k_int (v := 0) (by decide +kernel) ?_
      refine k_ci (wc := [(p0, .inr (7, oM p3 (upd i7 75 (-1)) j7)), ((p3 14), .inl (cI, 2, .inl (fun _ => 0)))]) (wr := [((p3 49), .inl (cI, 22, .inl (fun _ => 0))), ((p3 50), .inl (cI, 22, .inl (fun _ => 0))), ((p3 72), .inl (cI, 9216, .inl (upd (fun _ => (-1)) 0 0))), ((p3 18), .inl (cI, 2, .inl (fun _ => 0)))]) (fun hPc hDc hFc => va_runV (As := [.int 0]) (rest := []) ⟨hx, hb, hml, hown, hts⟩ (c_X7_worthOf_v1 l dC dI cI cJ cZ cM p0 p3 H.size) (cwV 1 hts gX7_most_X7_worthOf rfl rfl rfl (by decide +kernel) ⟨(Nat.le_of_ble_eq_true rfl), (Nat.le_of_ble_eq_true rfl)⟩) (k_pV hPc hDc hK hN hC hS hFc hP (q0 := 4) (ci := 7) rfl rfl) rfl rfl hl.1 rfl (lv_room (Nat.le_of_ble_eq_true rfl)) dX7_most_98 ⟨(Nat.le_of_ble_eq_true rfl), (Nat.le_of_ble_eq_true rfl)⟩) hP hD hS hA [4, 5] [0, 1, 2, 3] rfl rfl rfl rfl (by decide) (fun _ => rfl) 0 0 rfl rfl (fun r_15 u_16 H locs hw hP hD hS => ?_)
      obtain rfl : r_15 = 0 := hw
      have hP : va_P (dC, dI) vwCl [((p3 49), .inl (cI, 22, .inl (fun _ => 0))), ((p3 50), .inl (cI, 22, .inl (fun _ => 0))), ((p3 72), .inl (cI, 9216, .inl (upd (fun _ => (-1)) 0 0))), ((p3 18), .inl (cI, 2, .inl (fun _ => 0))), (p0, .inr (7, oM p3 (upd i7 75 (-1)) j7)), ((p3 14), .inl (cI, 2, .inl (fun _ => 0)))] H := hP
      have hD : va_D A [((p3 49), .inl (cI, 22, .inl (fun _ => 0))), ((p3 50), .inl (cI, 22, .inl (fun _ => 0))), ((p3 72), .inl (cI, 9216, .inl (upd (fun _ => (-1)) 0 0))), ((p3 18), .inl (cI, 2, .inl (fun _ => 0))), (p0, .inr (7, oM p3 (upd i7 75 (-1)) j7)), ((p3 14), .inl (cI, 2, .inl (fun _ => 0)))] := hD
      refine lv_istore (lv' := [(8, .int 0), (7, .int 0), (6, .int 0), (5, .int 0), (4, .int (-1)), (3, .int (-1)), (0, .ref p0), (1, .int 0), (2, .int p2)]) hx hb dX7_most_101 hl (by decide) rfl (fun ls hl => ?_)
      refine lv_iload hx hb dX7_most_103 (lv_at hl 0 rfl) ?_
      refine lv_iload hx hb dX7_most_105 (lv_at hl 4 rfl) ?_
      refine lv_icmp_lt (tgt := 154) hx hb dX7_most_107 (by decide) (fun q9 => absurd q9 (by decide +kernel)) (fun _ => ?_)
      refine lv_iload hx hb dX7_most_110 (lv_at hl 0 rfl) ?_
      refine lv_iload hx hb dX7_most_112 (lv_at hl 4 rfl) ?_
      refine lv_icmp_ne (tgt := 138) hx hb dX7_most_114 (by decide) (fun _ => ?_) (fun q9 => absurd q9 (by decide +kernel))
      refine lv_iload hx hb dX7_most_138 (lv_at hl 0 rfl) ?_
      refine lv_istore (lv' := [(4, .int 0), (8, .int 0), (7, .int 0), (6, .int 0), (5, .int 0), (3, .int (-1)), (0, .ref p0), (1, .int 0), (2, .int p2)]) hx hb dX7_most_140 hl (by decide) rfl (fun ls hl => ?_)
      refine lv_aload_n hx hb dX7_most_142 rfl (lv_at hl 6 rfl) ?_
      refine lv_iload hx hb dX7_most_143 (lv_at hl 4 rfl) ?_
      refine k_put (D := (dC, dI)) (ci := 7) (v := .int 0) (C := RX7) (T := TX7) (N := 92) (ws' := [((p3 49), .inl (cI, 22, .inl (fun _ => 0))), ((p3 50), .inl (cI, 22, .inl (fun _ => 0))), ((p3 72), .inl (cI, 9216, .inl (upd (fun _ => (-1)) 0 0))), ((p3 18), .inl (cI, 2, .inl (fun _ => 0))), (p0, .inr (7, oM p3 (upd i7 75 0) j7)), ((p3 14), .inl (cI, 2, .inl (fun _ => 0)))]) hx hb hts hinX7 tyX7 tyX7_ok nmX7 hown hK hP hD hS 4 rfl rfl 75 (by decide) w_0 rfl rfl rfl rfl (Nat.le_of_ble_eq_true rfl) rfl dX7_most_145 (fun H locs hP hD hS => ?_)
      refine lv_aload_n hx hb dX7_most_148 rfl (lv_at hl 6 rfl) ?_
      refine lv_iload hx hb dX7_most_149 (lv_at hl 3 rfl) ?_
      refine k_put (D := (dC, dI)) (ci := 7) (v := .int 0) (C := RX7) (T := TX7) (N := 92) (ws' := [((p3 49), .inl (cI, 22, .inl (fun _ => 0))), ((p3 50), .inl (cI, 22, .inl (fun _ => 0))), ((p3 72), .inl (cI, 9216, .inl (upd (fun _ => (-1)) 0 0))), ((p3 18), .inl (cI, 2, .inl (fun _ => 0))), (p0, .inr (7, oM p3 (upd (upd i7 75 0) 76 0) j7)), ((p3 14), .inl (cI, 2, .inl (fun _ => 0)))]) hx hb hts hinX7 tyX7 tyX7_ok nmX7 hown hK hP hD hS 4 rfl rfl 76 (by decide) w_4 rfl rfl rfl rfl (Nat.le_of_ble_eq_true rfl) rfl dX7_most_151 (fun H locs hP hD hS => ?_)
      refine lv_iinc (v := 1) (lv' := [(6, .int 1), (4, .int 0), (8, .int 0), (7, .int 0), (5, .int 0), (3, .int (-1)), (0, .ref p0), (1, .int 0), (2, .int p2)]) hx hb dX7_most_154 hl (k := 3) rfl (by decide +kernel) (by decide) rfl (fun ls hl => ?_)
      refine lv_goto (tgt := 52) hx hb dX7_most_157 (by decide) ?_
      refine lv_iload hx hb dX7_most_52 (lv_at hl 0 rfl) ?_
      refine lv_iconst (v := 1) hx hb dX7_most_54 (by decide +kernel) ?_
      refine lv_aload_n hx hb dX7_most_55 rfl (lv_at hl 6 rfl) ?_
      refine k_get (D := (dC, dI)) (ci := 7) (v := .ref (p3 14)) (C := RX7) (T := TX7) (N := 92) hx hb hts hinX7 hown hK hP 4 rfl rfl 14 (by decide) w_1 rfl rfl dX7_most_56 ?_
      refine lv_aload_n hx hb dX7_most_59 rfl (lv_at hl 6 rfl) ?_
      refine k_get (D := (dC, dI)) (ci := 7) (v := .int 0) (C := RX7) (T := TX7) (N := 92) hx hb hts hinX7 hown hK hP 4 rfl rfl 13 (by decide) w_2 rfl rfl dX7_most_60 ?_
      refine k_iald (v := 0) hx hb hK hP 5 0 0 rfl rfl rfl (Nat.le_of_ble_eq_true rfl) (Nat.le_of_ble_eq_true rfl) rfl dX7_most_63 ?_
      refine lv_ishl hx hb dX7_most_64 ?_
      refine k_int (v := 1) (by decide +kernel) ?_
      refine lv_icmp_ge (tgt := 160) hx hb dX7_most_65 (by decide) (fun _ => ?_) (fun q9 => absurd q9 (by decide +kernel))
      refine lv_iinc (v := 1) (lv' := [(5, .int 1), (6, .int 1), (4, .int 0), (8, .int 0), (7, .int 0), (3, .int (-1)), (0, .ref p0), (1, .int 0), (2, .int p2)]) hx hb dX7_most_160 hl (k := 4) rfl (by decide +kernel) (by decide) rfl (fun ls hl => ?_)
      refine lv_goto (tgt := 43) hx hb dX7_most_163 (by decide) ?_
      refine lv_iload hx hb dX7_most_43 (lv_at hl 0 rfl) ?_
      refine lv_iload_n hx hb dX7_most_45 rfl (lv_at hl 7 rfl) ?_
      refine lv_icmp_gt (tgt := 166) hx hb dX7_most_46 (by decide) (fun _ => ?_) (fun q9 => absurd q9 (by decide +kernel))
      refine lv_iload_n hx hb dX7_most_166 rfl (lv_at hl 8 rfl) ?_
      refine lv_if_ne (tgt := 175) hx hb dX7_most_167 (by decide) (fun c_17 => ?_) (fun c_17 => ?_)
      · have c_17 : ¬ p2.toInt = 0 := k_eqF rfl (by decide +kernel) c_17
        refine lv_iload_n hx hb dX7_most_175 rfl (lv_at hl 8 rfl) ?_
        refine lv_iconst (v := 1) hx hb dX7_most_176 (by decide +kernel) ?_
        refine lv_icmp_ne (tgt := 187) hx hb dX7_most_177 (by decide) (fun c_18 => ?_) (fun c_18 => ?_)
        · have c_18 : ¬ p2.toInt = 1 := k_eqF rfl (by decide +kernel) c_18
          refine lv_iload_n hx hb dX7_most_187 rfl (lv_at hl 8 rfl) ?_
          refine lv_iconst (v := 2) hx hb dX7_most_188 (by decide +kernel) ?_
          refine lv_icmp_ne (tgt := 199) hx hb dX7_most_189 (by decide) (fun c_19 => ?_) (fun c_19 => ?_)
          · have c_19 : ¬ p2.toInt = 2 := k_eqF rfl (by decide +kernel) c_19
            refine lv_aload_n hx hb dX7_most_199 rfl (lv_at hl 6 rfl) ?_
            refine k_get (D := (dC, dI)) (ci := 7) (v := .int 0) (C := RX7) (T := TX7) (N := 92) hx hb hts hinX7 hown hK hP 4 rfl rfl 76 (by decide) w_4 rfl rfl dX7_most_200 ?_
            exact k_ri B hP hD hS dX7_most_203 (2, (fun _ => 0)) [4, 0, 1, 2, 5, 3] rfl rfl rfl (Nat.le_of_ble_eq_true rfl) (Nat.le_of_ble_eq_true rfl) ⟨c_1, c_9, c_10, c_17, c_18, c_19, rfl⟩
          · have c_19 : p2.toInt = 2 := k_eqT rfl (by decide +kernel) c_19
            refine lv_aload_n hx hb dX7_most_192 rfl (lv_at hl 6 rfl) ?_
            refine k_ci (wc := [(p0, .inr (7, oM p3 (upd (upd i7 75 0) 76 0) j7)), ((p3 72), .inl (cI, 9216, .inl (upd (fun _ => (-1)) 0 0)))]) (wr := [((p3 49), .inl (cI, 22, .inl (fun _ => 0))), ((p3 50), .inl (cI, 22, .inl (fun _ => 0))), ((p3 18), .inl (cI, 2, .inl (fun _ => 0))), ((p3 14), .inl (cI, 2, .inl (fun _ => 0)))]) (fun hPc hDc hFc => va_runV (As := []) (rest := []) ⟨hx, hb, hml, hown, hts⟩ (c_X7_foundSea_v0 l dC dI cI cJ cZ cM p0 p3 H.size) (cwV 0 hts gX7_most_X7_foundSea rfl rfl rfl (by decide +kernel) ⟨(Nat.le_of_ble_eq_true rfl), (Nat.le_of_ble_eq_true rfl)⟩) (k_pV hPc hDc hK hN hC hS hFc hP (q0 := 4) (ci := 7) rfl rfl) rfl rfl hl.1 rfl (lv_room (Nat.le_of_ble_eq_true rfl)) dX7_most_193 ⟨(Nat.le_of_ble_eq_true rfl), (Nat.le_of_ble_eq_true rfl)⟩) hP hD hS hA [4, 2] [0, 1, 3, 5] rfl rfl rfl rfl (by decide) (fun _ => rfl) 0 0 rfl rfl (fun r_20 u_21 H locs hw hP hD hS => ?_)
            obtain rfl : r_20 = 0 := hw
            have hP : va_P (dC, dI) vwCl [((p3 49), .inl (cI, 22, .inl (fun _ => 0))), ((p3 50), .inl (cI, 22, .inl (fun _ => 0))), ((p3 18), .inl (cI, 2, .inl (fun _ => 0))), ((p3 14), .inl (cI, 2, .inl (fun _ => 0))), (p0, .inr (7, oM p3 (upd (upd i7 75 0) 76 0) j7)), ((p3 72), .inl (cI, 9216, .inl (upd (fun _ => (-1)) 0 0)))] H := hP
            have hD : va_D A [((p3 49), .inl (cI, 22, .inl (fun _ => 0))), ((p3 50), .inl (cI, 22, .inl (fun _ => 0))), ((p3 18), .inl (cI, 2, .inl (fun _ => 0))), ((p3 14), .inl (cI, 2, .inl (fun _ => 0))), (p0, .inr (7, oM p3 (upd (upd i7 75 0) 76 0) j7)), ((p3 72), .inl (cI, 9216, .inl (upd (fun _ => (-1)) 0 0)))] := hD
            refine lv_goto (tgt := 203) hx hb dX7_most_196 (by decide) ?_
            exact k_ri B hP hD hS dX7_most_203 (3, (fun _ => 0)) [4, 0, 1, 5, 3, 2] rfl rfl rfl (Nat.le_of_ble_eq_true rfl) (Nat.le_of_ble_eq_true rfl) ⟨c_1, c_9, c_10, c_17, c_18, c_19, rfl⟩
        · have c_18 : p2.toInt = 1 := k_eqT rfl (by decide +kernel) c_18
          refine lv_aload_n hx hb dX7_most_180 rfl (lv_at hl 6 rfl) ?_
          refine k_get (D := (dC, dI)) (ci := 7) (v := .int 0) (C := RX7) (T := TX7) (N := 92) hx hb hts hinX7 hown hK hP 4 rfl rfl 75 (by decide) w_0 rfl rfl dX7_most_181 ?_
          refine lv_goto (tgt := 203) hx hb dX7_most_184 (by decide) ?_
          exact k_ri B hP hD hS dX7_most_203 (4, (fun _ => 0)) [4, 0, 1, 2, 5, 3] rfl rfl rfl (Nat.le_of_ble_eq_true rfl) (Nat.le_of_ble_eq_true rfl) ⟨c_1, c_9, c_10, c_17, c_18, rfl⟩
      · have c_17 : p2.toInt = 0 := k_eqT rfl (by decide +kernel) c_17
        refine lv_iload hx hb dX7_most_170 (lv_at hl 2 rfl) ?_
        refine lv_goto (tgt := 203) hx hb dX7_most_172 (by decide) ?_
        exact k_ri B hP hD hS dX7_most_203 (5, (fun _ => 0)) [4, 0, 1, 2, 5, 3] rfl rfl rfl (Nat.le_of_ble_eq_true rfl) (Nat.le_of_ble_eq_true rfl) ⟨c_1, c_9, c_10, c_17, rfl⟩
    · exact False.elim hw
  · obtain rfl : p1 = 1 := k_eqL (by decide +kernel) c_1
    refine lv_iload_n hx hb dX7_most_0 rfl (lv_at hl 1 rfl) ?_
    refine lv_iconst (v := 0) hx hb dX7_most_1 (by decide +kernel) ?_
    refine lv_bipush (v := 8) hx hb dX7_most_2 (by decide +kernel) ?_
    refine k_ci (wc := []) (wr := [(p0, .inr (7, oM p3 i7 j7)), ((p3 49), .inl (cI, 22, .inl (fun _ => 0))), ((p3 50), .inl (cI, 22, .inl (fun _ => 0))), ((p3 72), .inl (cI, 9216, .inl (fun _ => 0))), ((p3 14), .inl (cI, 2, .inl (fun _ => 0))), ((p3 18), .inl (cI, 2, .inl (fun _ => 0)))]) (fun hPc hDc hFc => va_runS (As := [.int 1, .int 0, .int 8]) (rest := []) ⟨hx, hb, hml, hown, hts⟩ (c_X7_is_v7 l dC dI cI cJ cZ cM H.size) (va_cwS 3 hts gX7_most_X7_is rfl rfl rfl (by decide +kernel) ⟨(Nat.le_of_ble_eq_true rfl), (Nat.le_of_ble_eq_true rfl)⟩) (k_pS hPc hDc hK hN hC hS hFc) rfl rfl hl.1 rfl (lv_room (Nat.le_of_ble_eq_true rfl)) dX7_most_4 ⟨(Nat.le_of_ble_eq_true rfl), (Nat.le_of_ble_eq_true rfl)⟩) hP hD hS hA [] [0, 1, 2, 3, 4, 5] rfl rfl rfl rfl (by decide) (fun _ => rfl) 0 0 rfl rfl (fun r_22 u_23 H locs hw hP hD hS => ?_)
    obtain rfl : r_22 = 1 := hw
    have hP : va_P (dC, dI) vwCl [(p0, .inr (7, oM p3 i7 j7)), ((p3 49), .inl (cI, 22, .inl (fun _ => 0))), ((p3 50), .inl (cI, 22, .inl (fun _ => 0))), ((p3 72), .inl (cI, 9216, .inl (fun _ => 0))), ((p3 14), .inl (cI, 2, .inl (fun _ => 0))), ((p3 18), .inl (cI, 2, .inl (fun _ => 0)))] H := hP
    have hD : va_D A [(p0, .inr (7, oM p3 i7 j7)), ((p3 49), .inl (cI, 22, .inl (fun _ => 0))), ((p3 50), .inl (cI, 22, .inl (fun _ => 0))), ((p3 72), .inl (cI, 9216, .inl (fun _ => 0))), ((p3 14), .inl (cI, 2, .inl (fun _ => 0))), ((p3 18), .inl (cI, 2, .inl (fun _ => 0)))] := hD
    refine lv_if_eq (tgt := 19) hx hb dX7_most_7 (by decide) (fun q9 => absurd q9 (by decide +kernel)) (fun _ => ?_)
    refine lv_iload_n hx hb dX7_most_10 rfl (lv_at hl 2 rfl) ?_
    refine lv_iconst (v := 0) hx hb dX7_most_11 (by decide +kernel) ?_
    refine lv_iconst (v := 3) hx hb dX7_most_12 (by decide +kernel) ?_
    refine k_ci (wc := []) (wr := [(p0, .inr (7, oM p3 i7 j7)), ((p3 49), .inl (cI, 22, .inl (fun _ => 0))), ((p3 50), .inl (cI, 22, .inl (fun _ => 0))), ((p3 72), .inl (cI, 9216, .inl (fun _ => 0))), ((p3 14), .inl (cI, 2, .inl (fun _ => 0))), ((p3 18), .inl (cI, 2, .inl (fun _ => 0)))]) (fun hPc hDc hFc => va_runS (As := [.int p2, .int 0, .int 3]) (rest := []) ⟨hx, hb, hml, hown, hts⟩ (c_X7_is_v24 l dC dI cI cJ cZ cM p2 H.size) (va_cwS 3 hts gX7_most_X7_is rfl rfl rfl (by decide +kernel) ⟨(Nat.le_of_ble_eq_true rfl), (Nat.le_of_ble_eq_true rfl)⟩) (k_pS hPc hDc hK hN hC hS hFc) rfl rfl hl.1 rfl (lv_room (Nat.le_of_ble_eq_true rfl)) dX7_most_13 ⟨(Nat.le_of_ble_eq_true rfl), (Nat.le_of_ble_eq_true rfl)⟩) hP hD hS hA [] [0, 1, 2, 3, 4, 5] rfl rfl rfl rfl (by decide) (fun _ => rfl) 0 0 rfl rfl (fun r_24 u_25 H locs hw hP hD hS => ?_)
    obtain ⟨k_u_25, u_u_25⟩ := u_25
    rcases k_u_25 with _ | _ | _ | k_u_25
    · obtain ⟨c_26, rfl⟩ : (p2.toInt < 0) ∧ r_24 = 0 := hw
      have hP : va_P (dC, dI) vwCl [(p0, .inr (7, oM p3 i7 j7)), ((p3 49), .inl (cI, 22, .inl (fun _ => 0))), ((p3 50), .inl (cI, 22, .inl (fun _ => 0))), ((p3 72), .inl (cI, 9216, .inl (fun _ => 0))), ((p3 14), .inl (cI, 2, .inl (fun _ => 0))), ((p3 18), .inl (cI, 2, .inl (fun _ => 0)))] H := hP
      have hD : va_D A [(p0, .inr (7, oM p3 i7 j7)), ((p3 49), .inl (cI, 22, .inl (fun _ => 0))), ((p3 50), .inl (cI, 22, .inl (fun _ => 0))), ((p3 72), .inl (cI, 9216, .inl (fun _ => 0))), ((p3 14), .inl (cI, 2, .inl (fun _ => 0))), ((p3 18), .inl (cI, 2, .inl (fun _ => 0)))] := hD
      refine lv_if_ne (tgt := 21) hx hb dX7_most_16 (by decide) (fun q9 => absurd q9 (by decide +kernel)) (fun _ => ?_)
      refine lv_iconst (v := (-1)) hx hb dX7_most_19 (by decide +kernel) ?_
      exact k_ri B hP hD hS dX7_most_20 (6, (fun _ => 0)) [0, 1, 2, 3, 4, 5] rfl rfl rfl (Nat.le_of_ble_eq_true rfl) (Nat.le_of_ble_eq_true rfl) ⟨c_1, c_26, rfl⟩
    · obtain ⟨c_27, c_28, rfl⟩ : (0 ≤ p2.toInt) ∧ (3 < p2.toInt) ∧ r_24 = 0 := hw
      have hP : va_P (dC, dI) vwCl [(p0, .inr (7, oM p3 i7 j7)), ((p3 49), .inl (cI, 22, .inl (fun _ => 0))), ((p3 50), .inl (cI, 22, .inl (fun _ => 0))), ((p3 72), .inl (cI, 9216, .inl (fun _ => 0))), ((p3 14), .inl (cI, 2, .inl (fun _ => 0))), ((p3 18), .inl (cI, 2, .inl (fun _ => 0)))] H := hP
      have hD : va_D A [(p0, .inr (7, oM p3 i7 j7)), ((p3 49), .inl (cI, 22, .inl (fun _ => 0))), ((p3 50), .inl (cI, 22, .inl (fun _ => 0))), ((p3 72), .inl (cI, 9216, .inl (fun _ => 0))), ((p3 14), .inl (cI, 2, .inl (fun _ => 0))), ((p3 18), .inl (cI, 2, .inl (fun _ => 0)))] := hD
      refine lv_if_ne (tgt := 21) hx hb dX7_most_16 (by decide) (fun q9 => absurd q9 (by decide +kernel)) (fun _ => ?_)
      refine lv_iconst (v := (-1)) hx hb dX7_most_19 (by decide +kernel) ?_
      exact k_ri B hP hD hS dX7_most_20 (7, (fun _ => 0)) [0, 1, 2, 3, 4, 5] rfl rfl rfl (Nat.le_of_ble_eq_true rfl) (Nat.le_of_ble_eq_true rfl) ⟨c_1, c_27, c_28, rfl⟩
    · obtain ⟨c_29, c_30, rfl⟩ : (0 ≤ p2.toInt) ∧ (p2.toInt ≤ 3) ∧ r_24 = 1 := hw
      have hP : va_P (dC, dI) vwCl [(p0, .inr (7, oM p3 i7 j7)), ((p3 49), .inl (cI, 22, .inl (fun _ => 0))), ((p3 50), .inl (cI, 22, .inl (fun _ => 0))), ((p3 72), .inl (cI, 9216, .inl (fun _ => 0))), ((p3 14), .inl (cI, 2, .inl (fun _ => 0))), ((p3 18), .inl (cI, 2, .inl (fun _ => 0)))] H := hP
      have hD : va_D A [(p0, .inr (7, oM p3 i7 j7)), ((p3 49), .inl (cI, 22, .inl (fun _ => 0))), ((p3 50), .inl (cI, 22, .inl (fun _ => 0))), ((p3 72), .inl (cI, 9216, .inl (fun _ => 0))), ((p3 14), .inl (cI, 2, .inl (fun _ => 0))), ((p3 18), .inl (cI, 2, .inl (fun _ => 0)))] := hD
      refine lv_if_ne (tgt := 21) hx hb dX7_most_16 (by decide) (fun _ => ?_) (fun q9 => absurd q9 (by decide +kernel))
      refine lv_aload_n hx hb dX7_most_21 rfl (lv_at hl 0 rfl) ?_
      refine k_cv (wc := [(p0, .inr (7, oM p3 i7 j7)), ((p3 49), .inl (cI, 22, .inl (fun _ => 0))), ((p3 50), .inl (cI, 22, .inl (fun _ => 0))), ((p3 72), .inl (cI, 9216, .inl (fun _ => 0))), ((p3 14), .inl (cI, 2, .inl (fun _ => 0))), ((p3 18), .inl (cI, 2, .inl (fun _ => 0)))]) (wr := []) (fun hPc hDc hFc => va_runV (As := []) (rest := []) ⟨hx, hb, hml, hown, hts⟩ (c_X7_climbs_v0 l dC dI cI cJ cZ cM p0 p3 H.size) (cwV 0 hts gX7_most_X7_climbs rfl rfl rfl (by decide +kernel) ⟨(Nat.le_of_ble_eq_true rfl), (Nat.le_of_ble_eq_true rfl)⟩) (k_pV hPc hDc hK hN hC hS hFc hP (q0 := 0) (ci := 7) rfl rfl) rfl rfl hl.1 rfl (lv_room (Nat.le_of_ble_eq_true rfl)) dX7_most_22 ⟨(Nat.le_of_ble_eq_true rfl), (Nat.le_of_ble_eq_true rfl)⟩) hP hD hS hA [0, 1, 2, 3, 4, 5] [] rfl rfl rfl rfl (by decide) (fun _ => rfl) 0 0 rfl rfl (fun u_32 H locs hw hP hD hS => ?_)
      have hP : va_P (dC, dI) vwCl [(p0, .inr (7, oM p3 i7 j7)), ((p3 49), .inl (cI, 22, .inl (fun _ => 0))), ((p3 50), .inl (cI, 22, .inl (fun _ => 0))), ((p3 72), .inl (cI, 9216, .inl (upd (fun _ => (-1)) 0 0))), ((p3 14), .inl (cI, 2, .inl (fun _ => 0))), ((p3 18), .inl (cI, 2, .inl (fun _ => 0)))] H := hP
      have hD : va_D A [(p0, .inr (7, oM p3 i7 j7)), ((p3 49), .inl (cI, 22, .inl (fun _ => 0))), ((p3 50), .inl (cI, 22, .inl (fun _ => 0))), ((p3 72), .inl (cI, 9216, .inl (upd (fun _ => (-1)) 0 0))), ((p3 14), .inl (cI, 2, .inl (fun _ => 0))), ((p3 18), .inl (cI, 2, .inl (fun _ => 0)))] := hD
      refine lv_aload_n hx hb dX7_most_25 rfl (lv_at hl 0 rfl) ?_
      refine k_ci (wc := [(p0, .inr (7, oM p3 i7 j7)), ((p3 14), .inl (cI, 2, .inl (fun _ => 0)))]) (wr := [((p3 49), .inl (cI, 22, .inl (fun _ => 0))), ((p3 50), .inl (cI, 22, .inl (fun _ => 0))), ((p3 72), .inl (cI, 9216, .inl (upd (fun _ => (-1)) 0 0))), ((p3 18), .inl (cI, 2, .inl (fun _ => 0)))]) (fun hPc hDc hFc => va_runV (As := []) (rest := []) ⟨hx, hb, hml, hown, hts⟩ (c_X7_briefOnes_v2 l dC dI cI cJ cZ cM p0 p3 H.size) (cwV 0 hts gX7_most_X7_briefOnes rfl rfl rfl (by decide +kernel) ⟨(Nat.le_of_ble_eq_true rfl), (Nat.le_of_ble_eq_true rfl)⟩) (k_pV hPc hDc hK hN hC hS hFc hP (q0 := 0) (ci := 7) rfl rfl) rfl rfl hl.1 rfl (lv_room (Nat.le_of_ble_eq_true rfl)) dX7_most_26 ⟨(Nat.le_of_ble_eq_true rfl), (Nat.le_of_ble_eq_true rfl)⟩) hP hD hS hA [0, 4] [1, 2, 3, 5] rfl rfl rfl rfl (by decide) (fun _ => rfl) 0 0 rfl rfl (fun r_33 u_34 H locs hw hP hD hS => ?_)
      obtain rfl : r_33 = 0 := hw
      have hP : va_P (dC, dI) vwCl [((p3 49), .inl (cI, 22, .inl (fun _ => 0))), ((p3 50), .inl (cI, 22, .inl (fun _ => 0))), ((p3 72), .inl (cI, 9216, .inl (upd (fun _ => (-1)) 0 0))), ((p3 18), .inl (cI, 2, .inl (fun _ => 0))), (p0, .inr (7, oM p3 i7 j7)), ((p3 14), .inl (cI, 2, .inl (fun _ => 0)))] H := hP
      have hD : va_D A [((p3 49), .inl (cI, 22, .inl (fun _ => 0))), ((p3 50), .inl (cI, 22, .inl (fun _ => 0))), ((p3 72), .inl (cI, 9216, .inl (upd (fun _ => (-1)) 0 0))), ((p3 18), .inl (cI, 2, .inl (fun _ => 0))), (p0, .inr (7, oM p3 i7 j7)), ((p3 14), .inl (cI, 2, .inl (fun _ => 0)))] := hD
      refine lv_iconst (v := (-1)) hx hb dX7_most_29 (by decide +kernel) ?_
      refine lv_ixor hx hb dX7_most_30 ?_
      refine k_int (v := (-1)) (by decide +kernel) ?_
      refine lv_istore_n (lv' := [(3, .int (-1)), (0, .ref p0), (1, .int 1), (2, .int p2)]) hx hb dX7_most_31 rfl hl (by decide) rfl (fun ls hl => ?_)
      refine lv_aload_n hx hb dX7_most_32 rfl (lv_at hl 1 rfl) ?_
      refine lv_iconst (v := (-1)) hx hb dX7_most_33 (by decide +kernel) ?_
      refine k_put (D := (dC, dI)) (ci := 7) (v := .int (-1)) (C := RX7) (T := TX7) (N := 92) (ws' := [((p3 49), .inl (cI, 22, .inl (fun _ => 0))), ((p3 50), .inl (cI, 22, .inl (fun _ => 0))), ((p3 72), .inl (cI, 9216, .inl (upd (fun _ => (-1)) 0 0))), ((p3 18), .inl (cI, 2, .inl (fun _ => 0))), (p0, .inr (7, oM p3 (upd i7 75 (-1)) j7)), ((p3 14), .inl (cI, 2, .inl (fun _ => 0)))]) hx hb hts hinX7 tyX7 tyX7_ok nmX7 hown hK hP hD hS 4 rfl rfl 75 (by decide) w_0 rfl rfl rfl rfl (Nat.le_of_ble_eq_true rfl) rfl dX7_most_34 (fun H locs hP hD hS => ?_)
      refine lv_iconst (v := (-1)) hx hb dX7_most_37 (by decide +kernel) ?_
      refine lv_istore (lv' := [(4, .int (-1)), (3, .int (-1)), (0, .ref p0), (1, .int 1), (2, .int p2)]) hx hb dX7_most_38 hl (by decide) rfl (fun ls hl => ?_)
      refine lv_iconst (v := 0) hx hb dX7_most_40 (by decide +kernel) ?_
      refine lv_istore (lv' := [(5, .int 0), (4, .int (-1)), (3, .int (-1)), (0, .ref p0), (1, .int 1), (2, .int p2)]) hx hb dX7_most_41 hl (by decide) rfl (fun ls hl => ?_)
      refine lv_iload hx hb dX7_most_43 (lv_at hl 0 rfl) ?_
      refine lv_iload_n hx hb dX7_most_45 rfl (lv_at hl 4 rfl) ?_
      refine lv_icmp_gt (tgt := 166) hx hb dX7_most_46 (by decide) (fun q9 => absurd q9 (by decide +kernel)) (fun _ => ?_)
      refine lv_iconst (v := 0) hx hb dX7_most_49 (by decide +kernel) ?_
      refine lv_istore (lv' := [(6, .int 0), (5, .int 0), (4, .int (-1)), (3, .int (-1)), (0, .ref p0), (1, .int 1), (2, .int p2)]) hx hb dX7_most_50 hl (by decide) rfl (fun ls hl => ?_)
      refine lv_iload hx hb dX7_most_52 (lv_at hl 0 rfl) ?_
      refine lv_iconst (v := 1) hx hb dX7_most_54 (by decide +kernel) ?_
      refine lv_aload_n hx hb dX7_most_55 rfl (lv_at hl 4 rfl) ?_
      refine k_get (D := (dC, dI)) (ci := 7) (v := .ref (p3 14)) (C := RX7) (T := TX7) (N := 92) hx hb hts hinX7 hown hK hP 4 rfl rfl 14 (by decide) w_1 rfl rfl dX7_most_56 ?_
      refine lv_aload_n hx hb dX7_most_59 rfl (lv_at hl 4 rfl) ?_
      refine k_get (D := (dC, dI)) (ci := 7) (v := .int 0) (C := RX7) (T := TX7) (N := 92) hx hb hts hinX7 hown hK hP 4 rfl rfl 13 (by decide) w_2 rfl rfl dX7_most_60 ?_
      refine k_iald (v := 0) hx hb hK hP 5 0 0 rfl rfl rfl (Nat.le_of_ble_eq_true rfl) (Nat.le_of_ble_eq_true rfl) rfl dX7_most_63 ?_
      refine lv_ishl hx hb dX7_most_64 ?_
      refine k_int (v := 1) (by decide +kernel) ?_
      refine lv_icmp_ge (tgt := 160) hx hb dX7_most_65 (by decide) (fun q9 => absurd q9 (by decide +kernel)) (fun _ => ?_)
      refine lv_aload_n hx hb dX7_most_68 rfl (lv_at hl 4 rfl) ?_
      refine k_get (D := (dC, dI)) (ci := 7) (v := .ref (p3 72)) (C := RX7) (T := TX7) (N := 92) hx hb hts hinX7 hown hK hP 4 rfl rfl 72 (by decide) w_3 rfl rfl dX7_most_69 ?_
      refine lv_sipush (v := 1024) hx hb dX7_most_72 (by decide +kernel) ?_
      refine lv_iload hx hb dX7_most_75 (lv_at hl 1 rfl) ?_
      refine lv_imul hx hb dX7_most_77 ?_
      refine k_int (v := 0) (by decide +kernel) ?_
      refine lv_iload hx hb dX7_most_78 (lv_at hl 0 rfl) ?_
      refine lv_iadd hx hb dX7_most_80 ?_
      refine k_int (v := 0) (by decide +kernel) ?_
      refine k_iald (v := 0) hx hb hK hP 2 0 0 rfl rfl rfl (Nat.le_of_ble_eq_true rfl) (Nat.le_of_ble_eq_true rfl) rfl dX7_most_81 ?_
      refine lv_istore (lv' := [(7, .int 0), (6, .int 0), (5, .int 0), (4, .int (-1)), (3, .int (-1)), (0, .ref p0), (1, .int 1), (2, .int p2)]) hx hb dX7_most_82 hl (by decide) rfl (fun ls hl => ?_)
      refine lv_iload hx hb dX7_most_84 (lv_at hl 0 rfl) ?_
      refine lv_iconst (v := (-1)) hx hb dX7_most_86 (by decide +kernel) ?_
      refine lv_icmp_ne (tgt := 93) hx hb dX7_most_87 (by decide) (fun _ => ?_) (fun q9 => absurd q9 (by decide +kernel))
      refine lv_aload_n hx hb dX7_most_93 rfl (lv_at hl 5 rfl) ?_
      refine lv_iload hx hb dX7_most_94 (lv_at hl 1 rfl) ?_
      refine lv_iload_n hx hb dX7_most_96 rfl (lv_at hl 4 rfl) ?_
      refine lv_iand hx hb dX7_most_97 ?_
      refine k_int (v := 0) (by decide +kernel) ?_
      refine k_ci (wc := [(p0, .inr (7, oM p3 (upd i7 75 (-1)) j7)), ((p3 14), .inl (cI, 2, .inl (fun _ => 0)))]) (wr := [((p3 49), .inl (cI, 22, .inl (fun _ => 0))), ((p3 50), .inl (cI, 22, .inl (fun _ => 0))), ((p3 72), .inl (cI, 9216, .inl (upd (fun _ => (-1)) 0 0))), ((p3 18), .inl (cI, 2, .inl (fun _ => 0)))]) (fun hPc hDc hFc => va_runV (As := [.int 0]) (rest := []) ⟨hx, hb, hml, hown, hts⟩ (c_X7_worthOf_v1 l dC dI cI cJ cZ cM p0 p3 H.size) (cwV 1 hts gX7_most_X7_worthOf rfl rfl rfl (by decide +kernel) ⟨(Nat.le_of_ble_eq_true rfl), (Nat.le_of_ble_eq_true rfl)⟩) (k_pV hPc hDc hK hN hC hS hFc hP (q0 := 4) (ci := 7) rfl rfl) rfl rfl hl.1 rfl (lv_room (Nat.le_of_ble_eq_true rfl)) dX7_most_98 ⟨(Nat.le_of_ble_eq_true rfl), (Nat.le_of_ble_eq_true rfl)⟩) hP hD hS hA [4, 5] [0, 1, 2, 3] rfl rfl rfl rfl (by decide) (fun _ => rfl) 0 0 rfl rfl (fun r_35 u_36 H locs hw hP hD hS => ?_)
      obtain rfl : r_35 = 0 := hw
      have hP : va_P (dC, dI) vwCl [((p3 49), .inl (cI, 22, .inl (fun _ => 0))), ((p3 50), .inl (cI, 22, .inl (fun _ => 0))), ((p3 72), .inl (cI, 9216, .inl (upd (fun _ => (-1)) 0 0))), ((p3 18), .inl (cI, 2, .inl (fun _ => 0))), (p0, .inr (7, oM p3 (upd i7 75 (-1)) j7)), ((p3 14), .inl (cI, 2, .inl (fun _ => 0)))] H := hP
      have hD : va_D A [((p3 49), .inl (cI, 22, .inl (fun _ => 0))), ((p3 50), .inl (cI, 22, .inl (fun _ => 0))), ((p3 72), .inl (cI, 9216, .inl (upd (fun _ => (-1)) 0 0))), ((p3 18), .inl (cI, 2, .inl (fun _ => 0))), (p0, .inr (7, oM p3 (upd i7 75 (-1)) j7)), ((p3 14), .inl (cI, 2, .inl (fun _ => 0)))] := hD
      refine lv_istore (lv' := [(8, .int 0), (7, .int 0), (6, .int 0), (5, .int 0), (4, .int (-1)), (3, .int (-1)), (0, .ref p0), (1, .int 1), (2, .int p2)]) hx hb dX7_most_101 hl (by decide) rfl (fun ls hl => ?_)
      refine lv_iload hx hb dX7_most_103 (lv_at hl 0 rfl) ?_
      refine lv_iload hx hb dX7_most_105 (lv_at hl 4 rfl) ?_
      refine lv_icmp_lt (tgt := 154) hx hb dX7_most_107 (by decide) (fun q9 => absurd q9 (by decide +kernel)) (fun _ => ?_)
      refine lv_iload hx hb dX7_most_110 (lv_at hl 0 rfl) ?_
      refine lv_iload hx hb dX7_most_112 (lv_at hl 4 rfl) ?_
      refine lv_icmp_ne (tgt := 138) hx hb dX7_most_114 (by decide) (fun _ => ?_) (fun q9 => absurd q9 (by decide +kernel))
      refine lv_iload hx hb dX7_most_138 (lv_at hl 0 rfl) ?_
      refine lv_istore (lv' := [(4, .int 0), (8, .int 0), (7, .int 0), (6, .int 0), (5, .int 0), (3, .int (-1)), (0, .ref p0), (1, .int 1), (2, .int p2)]) hx hb dX7_most_140 hl (by decide) rfl (fun ls hl => ?_)
      refine lv_aload_n hx hb dX7_most_142 rfl (lv_at hl 6 rfl) ?_
      refine lv_iload hx hb dX7_most_143 (lv_at hl 4 rfl) ?_
      refine k_put (D := (dC, dI)) (ci := 7) (v := .int 0) (C := RX7) (T := TX7) (N := 92) (ws' := [((p3 49), .inl (cI, 22, .inl (fun _ => 0))), ((p3 50), .inl (cI, 22, .inl (fun _ => 0))), ((p3 72), .inl (cI, 9216, .inl (upd (fun _ => (-1)) 0 0))), ((p3 18), .inl (cI, 2, .inl (fun _ => 0))), (p0, .inr (7, oM p3 (upd i7 75 0) j7)), ((p3 14), .inl (cI, 2, .inl (fun _ => 0)))]) hx hb hts hinX7 tyX7 tyX7_ok nmX7 hown hK hP hD hS 4 rfl rfl 75 (by decide) w_0 rfl rfl rfl rfl (Nat.le_of_ble_eq_true rfl) rfl dX7_most_145 (fun H locs hP hD hS => ?_)
      refine lv_aload_n hx hb dX7_most_148 rfl (lv_at hl 6 rfl) ?_
      refine lv_iload hx hb dX7_most_149 (lv_at hl 3 rfl) ?_
      refine k_put (D := (dC, dI)) (ci := 7) (v := .int 0) (C := RX7) (T := TX7) (N := 92) (ws' := [((p3 49), .inl (cI, 22, .inl (fun _ => 0))), ((p3 50), .inl (cI, 22, .inl (fun _ => 0))), ((p3 72), .inl (cI, 9216, .inl (upd (fun _ => (-1)) 0 0))), ((p3 18), .inl (cI, 2, .inl (fun _ => 0))), (p0, .inr (7, oM p3 (upd (upd i7 75 0) 76 0) j7)), ((p3 14), .inl (cI, 2, .inl (fun _ => 0)))]) hx hb hts hinX7 tyX7 tyX7_ok nmX7 hown hK hP hD hS 4 rfl rfl 76 (by decide) w_4 rfl rfl rfl rfl (Nat.le_of_ble_eq_true rfl) rfl dX7_most_151 (fun H locs hP hD hS => ?_)
      refine lv_iinc (v := 1) (lv' := [(6, .int 1), (4, .int 0), (8, .int 0), (7, .int 0), (5, .int 0), (3, .int (-1)), (0, .ref p0), (1, .int 1), (2, .int p2)]) hx hb dX7_most_154 hl (k := 3) rfl (by decide +kernel) (by decide) rfl (fun ls hl => ?_)
      refine lv_goto (tgt := 52) hx hb dX7_most_157 (by decide) ?_
      refine lv_iload hx hb dX7_most_52 (lv_at hl 0 rfl) ?_
      refine lv_iconst (v := 1) hx hb dX7_most_54 (by decide +kernel) ?_
      refine lv_aload_n hx hb dX7_most_55 rfl (lv_at hl 6 rfl) ?_
      refine k_get (D := (dC, dI)) (ci := 7) (v := .ref (p3 14)) (C := RX7) (T := TX7) (N := 92) hx hb hts hinX7 hown hK hP 4 rfl rfl 14 (by decide) w_1 rfl rfl dX7_most_56 ?_
      refine lv_aload_n hx hb dX7_most_59 rfl (lv_at hl 6 rfl) ?_
      refine k_get (D := (dC, dI)) (ci := 7) (v := .int 0) (C := RX7) (T := TX7) (N := 92) hx hb hts hinX7 hown hK hP 4 rfl rfl 13 (by decide) w_2 rfl rfl dX7_most_60 ?_
      refine k_iald (v := 0) hx hb hK hP 5 0 0 rfl rfl rfl (Nat.le_of_ble_eq_true rfl) (Nat.le_of_ble_eq_true rfl) rfl dX7_most_63 ?_
      refine lv_ishl hx hb dX7_most_64 ?_
      refine k_int (v := 1) (by decide +kernel) ?_
      refine lv_icmp_ge (tgt := 160) hx hb dX7_most_65 (by decide) (fun _ => ?_) (fun q9 => absurd q9 (by decide +kernel))
      refine lv_iinc (v := 1) (lv' := [(5, .int 1), (6, .int 1), (4, .int 0), (8, .int 0), (7, .int 0), (3, .int (-1)), (0, .ref p0), (1, .int 1), (2, .int p2)]) hx hb dX7_most_160 hl (k := 4) rfl (by decide +kernel) (by decide) rfl (fun ls hl => ?_)
      refine lv_goto (tgt := 43) hx hb dX7_most_163 (by decide) ?_
      refine lv_iload hx hb dX7_most_43 (lv_at hl 0 rfl) ?_
      refine lv_iload_n hx hb dX7_most_45 rfl (lv_at hl 7 rfl) ?_
      refine lv_icmp_gt (tgt := 166) hx hb dX7_most_46 (by decide) (fun q9 => absurd q9 (by decide +kernel)) (fun _ => ?_)
      refine lv_iconst (v := 0) hx hb dX7_most_49 (by decide +kernel) ?_
      refine lv_istore (lv' := [(6, .int 0), (5, .int 1), (4, .int 0), (8, .int 0), (7, .int 0), (3, .int (-1)), (0, .ref p0), (1, .int 1), (2, .int p2)]) hx hb dX7_most_50 hl (by decide) rfl (fun ls hl => ?_)
      refine lv_iload hx hb dX7_most_52 (lv_at hl 0 rfl) ?_
      refine lv_iconst (v := 1) hx hb dX7_most_54 (by decide +kernel) ?_
      refine lv_aload_n hx hb dX7_most_55 rfl (lv_at hl 6 rfl) ?_
      refine k_get (D := (dC, dI)) (ci := 7) (v := .ref (p3 14)) (C := RX7) (T := TX7) (N := 92) hx hb hts hinX7 hown hK hP 4 rfl rfl 14 (by decide) w_1 rfl rfl dX7_most_56 ?_
      refine lv_aload_n hx hb dX7_most_59 rfl (lv_at hl 6 rfl) ?_
      refine k_get (D := (dC, dI)) (ci := 7) (v := .int 0) (C := RX7) (T := TX7) (N := 92) hx hb hts hinX7 hown hK hP 4 rfl rfl 13 (by decide) w_2 rfl rfl dX7_most_60 ?_
      refine k_iald (v := 0) hx hb hK hP 5 0 0 rfl rfl rfl (Nat.le_of_ble_eq_true rfl) (Nat.le_of_ble_eq_true rfl) rfl dX7_most_63 ?_
      refine lv_ishl hx hb dX7_most_64 ?_
      refine k_int (v := 1) (by decide +kernel) ?_
      refine lv_icmp_ge (tgt := 160) hx hb dX7_most_65 (by decide) (fun q9 => absurd q9 (by decide +kernel)) (fun _ => ?_)
      refine lv_aload_n hx hb dX7_most_68 rfl (lv_at hl 6 rfl) ?_
      refine k_get (D := (dC, dI)) (ci := 7) (v := .ref (p3 72)) (C := RX7) (T := TX7) (N := 92) hx hb hts hinX7 hown hK hP 4 rfl rfl 72 (by decide) w_3 rfl rfl dX7_most_69 ?_
      refine lv_sipush (v := 1024) hx hb dX7_most_72 (by decide +kernel) ?_
      refine lv_iload hx hb dX7_most_75 (lv_at hl 1 rfl) ?_
      refine lv_imul hx hb dX7_most_77 ?_
      refine k_int (v := 1024) (by decide +kernel) ?_
      refine lv_iload hx hb dX7_most_78 (lv_at hl 0 rfl) ?_
      refine lv_iadd hx hb dX7_most_80 ?_
      refine k_int (v := 1024) (by decide +kernel) ?_
      refine k_iald (v := (-1)) hx hb hK hP 2 0 1024 rfl rfl rfl (Nat.le_of_ble_eq_true rfl) (Nat.le_of_ble_eq_true rfl) rfl dX7_most_81 ?_
      refine lv_istore (lv' := [(7, .int (-1)), (6, .int 0), (5, .int 1), (4, .int 0), (8, .int 0), (3, .int (-1)), (0, .ref p0), (1, .int 1), (2, .int p2)]) hx hb dX7_most_82 hl (by decide) rfl (fun ls hl => ?_)
      refine lv_iload hx hb dX7_most_84 (lv_at hl 0 rfl) ?_
      refine lv_iconst (v := (-1)) hx hb dX7_most_86 (by decide +kernel) ?_
      refine lv_icmp_ne (tgt := 93) hx hb dX7_most_87 (by decide) (fun q9 => absurd q9 (by decide +kernel)) (fun _ => ?_)
      refine lv_goto (tgt := 154) hx hb dX7_most_90 (by decide) ?_
      refine lv_iinc (v := 1) (lv' := [(6, .int 1), (7, .int (-1)), (5, .int 1), (4, .int 0), (8, .int 0), (3, .int (-1)), (0, .ref p0), (1, .int 1), (2, .int p2)]) hx hb dX7_most_154 hl (k := 1) rfl (by decide +kernel) (by decide) rfl (fun ls hl => ?_)
      refine lv_goto (tgt := 52) hx hb dX7_most_157 (by decide) ?_
      refine lv_iload hx hb dX7_most_52 (lv_at hl 0 rfl) ?_
      refine lv_iconst (v := 1) hx hb dX7_most_54 (by decide +kernel) ?_
      refine lv_aload_n hx hb dX7_most_55 rfl (lv_at hl 6 rfl) ?_
      refine k_get (D := (dC, dI)) (ci := 7) (v := .ref (p3 14)) (C := RX7) (T := TX7) (N := 92) hx hb hts hinX7 hown hK hP 4 rfl rfl 14 (by decide) w_1 rfl rfl dX7_most_56 ?_
      refine lv_aload_n hx hb dX7_most_59 rfl (lv_at hl 6 rfl) ?_
      refine k_get (D := (dC, dI)) (ci := 7) (v := .int 0) (C := RX7) (T := TX7) (N := 92) hx hb hts hinX7 hown hK hP 4 rfl rfl 13 (by decide) w_2 rfl rfl dX7_most_60 ?_
      refine k_iald (v := 0) hx hb hK hP 5 0 0 rfl rfl rfl (Nat.le_of_ble_eq_true rfl) (Nat.le_of_ble_eq_true rfl) rfl dX7_most_63 ?_
      refine lv_ishl hx hb dX7_most_64 ?_
      refine k_int (v := 1) (by decide +kernel) ?_
      refine lv_icmp_ge (tgt := 160) hx hb dX7_most_65 (by decide) (fun _ => ?_) (fun q9 => absurd q9 (by decide +kernel))
      refine lv_iinc (v := 2) (lv' := [(5, .int 2), (6, .int 1), (7, .int (-1)), (4, .int 0), (8, .int 0), (3, .int (-1)), (0, .ref p0), (1, .int 1), (2, .int p2)]) hx hb dX7_most_160 hl (k := 2) rfl (by decide +kernel) (by decide) rfl (fun ls hl => ?_)
      refine lv_goto (tgt := 43) hx hb dX7_most_163 (by decide) ?_
      refine lv_iload hx hb dX7_most_43 (lv_at hl 0 rfl) ?_
      refine lv_iload_n hx hb dX7_most_45 rfl (lv_at hl 7 rfl) ?_
      refine lv_icmp_gt (tgt := 166) hx hb dX7_most_46 (by decide) (fun _ => ?_) (fun q9 => absurd q9 (by decide +kernel))
      refine lv_iload_n hx hb dX7_most_166 rfl (lv_at hl 8 rfl) ?_
      refine lv_if_ne (tgt := 175) hx hb dX7_most_167 (by decide) (fun c_37 => ?_) (fun c_37 => ?_)
      · have c_37 : ¬ p2.toInt = 0 := k_eqF rfl (by decide +kernel) c_37
        refine lv_iload_n hx hb dX7_most_175 rfl (lv_at hl 8 rfl) ?_
        refine lv_iconst (v := 1) hx hb dX7_most_176 (by decide +kernel) ?_
        refine lv_icmp_ne (tgt := 187) hx hb dX7_most_177 (by decide) (fun c_38 => ?_) (fun c_38 => ?_)
        · have c_38 : ¬ p2.toInt = 1 := k_eqF rfl (by decide +kernel) c_38
          refine lv_iload_n hx hb dX7_most_187 rfl (lv_at hl 8 rfl) ?_
          refine lv_iconst (v := 2) hx hb dX7_most_188 (by decide +kernel) ?_
          refine lv_icmp_ne (tgt := 199) hx hb dX7_most_189 (by decide) (fun c_39 => ?_) (fun c_39 => ?_)
          · have c_39 : ¬ p2.toInt = 2 := k_eqF rfl (by decide +kernel) c_39
            refine lv_aload_n hx hb dX7_most_199 rfl (lv_at hl 6 rfl) ?_
            refine k_get (D := (dC, dI)) (ci := 7) (v := .int 0) (C := RX7) (T := TX7) (N := 92) hx hb hts hinX7 hown hK hP 4 rfl rfl 76 (by decide) w_4 rfl rfl dX7_most_200 ?_
            exact k_ri B hP hD hS dX7_most_203 (8, (fun _ => 0)) [4, 0, 1, 2, 5, 3] rfl rfl rfl (Nat.le_of_ble_eq_true rfl) (Nat.le_of_ble_eq_true rfl) ⟨c_1, c_29, c_30, c_37, c_38, c_39, rfl⟩
          · have c_39 : p2.toInt = 2 := k_eqT rfl (by decide +kernel) c_39
            refine lv_aload_n hx hb dX7_most_192 rfl (lv_at hl 6 rfl) ?_
            refine k_ci (wc := [(p0, .inr (7, oM p3 (upd (upd i7 75 0) 76 0) j7)), ((p3 72), .inl (cI, 9216, .inl (upd (fun _ => (-1)) 0 0)))]) (wr := [((p3 49), .inl (cI, 22, .inl (fun _ => 0))), ((p3 50), .inl (cI, 22, .inl (fun _ => 0))), ((p3 18), .inl (cI, 2, .inl (fun _ => 0))), ((p3 14), .inl (cI, 2, .inl (fun _ => 0)))]) (fun hPc hDc hFc => va_runV (As := []) (rest := []) ⟨hx, hb, hml, hown, hts⟩ (c_X7_foundSea_v0 l dC dI cI cJ cZ cM p0 p3 H.size) (cwV 0 hts gX7_most_X7_foundSea rfl rfl rfl (by decide +kernel) ⟨(Nat.le_of_ble_eq_true rfl), (Nat.le_of_ble_eq_true rfl)⟩) (k_pV hPc hDc hK hN hC hS hFc hP (q0 := 4) (ci := 7) rfl rfl) rfl rfl hl.1 rfl (lv_room (Nat.le_of_ble_eq_true rfl)) dX7_most_193 ⟨(Nat.le_of_ble_eq_true rfl), (Nat.le_of_ble_eq_true rfl)⟩) hP hD hS hA [4, 2] [0, 1, 3, 5] rfl rfl rfl rfl (by decide) (fun _ => rfl) 0 0 rfl rfl (fun r_40 u_41 H locs hw hP hD hS => ?_)
            obtain rfl : r_40 = 0 := hw
            have hP : va_P (dC, dI) vwCl [((p3 49), .inl (cI, 22, .inl (fun _ => 0))), ((p3 50), .inl (cI, 22, .inl (fun _ => 0))), ((p3 18), .inl (cI, 2, .inl (fun _ => 0))), ((p3 14), .inl (cI, 2, .inl (fun _ => 0))), (p0, .inr (7, oM p3 (upd (upd i7 75 0) 76 0) j7)), ((p3 72), .inl (cI, 9216, .inl (upd (fun _ => (-1)) 0 0)))] H := hP
            have hD : va_D A [((p3 49), .inl (cI, 22, .inl (fun _ => 0))), ((p3 50), .inl (cI, 22, .inl (fun _ => 0))), ((p3 18), .inl (cI, 2, .inl (fun _ => 0))), ((p3 14), .inl (cI, 2, .inl (fun _ => 0))), (p0, .inr (7, oM p3 (upd (upd i7 75 0) 76 0) j7)), ((p3 72), .inl (cI, 9216, .inl (upd (fun _ => (-1)) 0 0)))] := hD
            refine lv_goto (tgt := 203) hx hb dX7_most_196 (by decide) ?_
            exact k_ri B hP hD hS dX7_most_203 (9, (fun _ => 0)) [4, 0, 1, 5, 3, 2] rfl rfl rfl (Nat.le_of_ble_eq_true rfl) (Nat.le_of_ble_eq_true rfl) ⟨c_1, c_29, c_30, c_37, c_38, c_39, rfl⟩
        · have c_38 : p2.toInt = 1 := k_eqT rfl (by decide +kernel) c_38
          refine lv_aload_n hx hb dX7_most_180 rfl (lv_at hl 6 rfl) ?_
          refine k_get (D := (dC, dI)) (ci := 7) (v := .int 0) (C := RX7) (T := TX7) (N := 92) hx hb hts hinX7 hown hK hP 4 rfl rfl 75 (by decide) w_0 rfl rfl dX7_most_181 ?_
          refine lv_goto (tgt := 203) hx hb dX7_most_184 (by decide) ?_
          exact k_ri B hP hD hS dX7_most_203 (10, (fun _ => 0)) [4, 0, 1, 2, 5, 3] rfl rfl rfl (Nat.le_of_ble_eq_true rfl) (Nat.le_of_ble_eq_true rfl) ⟨c_1, c_29, c_30, c_37, c_38, rfl⟩
      · have c_37 : p2.toInt = 0 := k_eqT rfl (by decide +kernel) c_37
        refine lv_iload hx hb dX7_most_170 (lv_at hl 3 rfl) ?_
        refine lv_goto (tgt := 203) hx hb dX7_most_172 (by decide) ?_
        exact k_ri B hP hD hS dX7_most_203 (11, (fun _ => 0)) [4, 0, 1, 2, 5, 3] rfl rfl rfl (Nat.le_of_ble_eq_true rfl) (Nat.le_of_ble_eq_true rfl) ⟨c_1, c_29, c_30, c_37, rfl⟩
    · exact False.elim hw
  · obtain rfl : p1 = 2 := k_eqL (by decide +kernel) c_1
    refine lv_iload_n hx hb dX7_most_0 rfl (lv_at hl 1 rfl) ?_
    refine lv_iconst (v := 0) hx hb dX7_most_1 (by decide +kernel) ?_
    refine lv_bipush (v := 8) hx hb dX7_most_2 (by decide +kernel) ?_
    refine k_ci (wc := []) (wr := [(p0, .inr (7, oM p3 i7 j7)), ((p3 49), .inl (cI, 22, .inl (fun _ => 0))), ((p3 50), .inl (cI, 22, .inl (fun _ => 0))), ((p3 72), .inl (cI, 9216, .inl (fun _ => 0))), ((p3 14), .inl (cI, 2, .inl (fun _ => 0))), ((p3 18), .inl (cI, 2, .inl (fun _ => 0)))]) (fun hPc hDc hFc => va_runS (As := [.int 2, .int 0, .int 8]) (rest := []) ⟨hx, hb, hml, hown, hts⟩ (c_X7_is_v8 l dC dI cI cJ cZ cM H.size) (va_cwS 3 hts gX7_most_X7_is rfl rfl rfl (by decide +kernel) ⟨(Nat.le_of_ble_eq_true rfl), (Nat.le_of_ble_eq_true rfl)⟩) (k_pS hPc hDc hK hN hC hS hFc) rfl rfl hl.1 rfl (lv_room (Nat.le_of_ble_eq_true rfl)) dX7_most_4 ⟨(Nat.le_of_ble_eq_true rfl), (Nat.le_of_ble_eq_true rfl)⟩) hP hD hS hA [] [0, 1, 2, 3, 4, 5] rfl rfl rfl rfl (by decide) (fun _ => rfl) 0 0 rfl rfl (fun r_42 u_43 H locs hw hP hD hS => ?_)
    obtain rfl : r_42 = 1 := hw
    have hP : va_P (dC, dI) vwCl [(p0, .inr (7, oM p3 i7 j7)), ((p3 49), .inl (cI, 22, .inl (fun _ => 0))), ((p3 50), .inl (cI, 22, .inl (fun _ => 0))), ((p3 72), .inl (cI, 9216, .inl (fun _ => 0))), ((p3 14), .inl (cI, 2, .inl (fun _ => 0))), ((p3 18), .inl (cI, 2, .inl (fun _ => 0)))] H := hP
    have hD : va_D A [(p0, .inr (7, oM p3 i7 j7)), ((p3 49), .inl (cI, 22, .inl (fun _ => 0))), ((p3 50), .inl (cI, 22, .inl (fun _ => 0))), ((p3 72), .inl (cI, 9216, .inl (fun _ => 0))), ((p3 14), .inl (cI, 2, .inl (fun _ => 0))), ((p3 18), .inl (cI, 2, .inl (fun _ => 0)))] := hD
    refine lv_if_eq (tgt := 19) hx hb dX7_most_7 (by decide) (fun q9 => absurd q9 (by decide +kernel)) (fun _ => ?_)
    refine lv_iload_n hx hb dX7_most_10 rfl (lv_at hl 2 rfl) ?_
    refine lv_iconst (v := 0) hx hb dX7_most_11 (by decide +kernel) ?_
    refine lv_iconst (v := 3) hx hb dX7_most_12 (by decide +kernel) ?_
    refine k_ci (wc := []) (wr := [(p0, .inr (7, oM p3 i7 j7)), ((p3 49), .inl (cI, 22, .inl (fun _ => 0))), ((p3 50), .inl (cI, 22, .inl (fun _ => 0))), ((p3 72), .inl (cI, 9216, .inl (fun _ => 0))), ((p3 14), .inl (cI, 2, .inl (fun _ => 0))), ((p3 18), .inl (cI, 2, .inl (fun _ => 0)))]) (fun hPc hDc hFc => va_runS (As := [.int p2, .int 0, .int 3]) (rest := []) ⟨hx, hb, hml, hown, hts⟩ (c_X7_is_v24 l dC dI cI cJ cZ cM p2 H.size) (va_cwS 3 hts gX7_most_X7_is rfl rfl rfl (by decide +kernel) ⟨(Nat.le_of_ble_eq_true rfl), (Nat.le_of_ble_eq_true rfl)⟩) (k_pS hPc hDc hK hN hC hS hFc) rfl rfl hl.1 rfl (lv_room (Nat.le_of_ble_eq_true rfl)) dX7_most_13 ⟨(Nat.le_of_ble_eq_true rfl), (Nat.le_of_ble_eq_true rfl)⟩) hP hD hS hA [] [0, 1, 2, 3, 4, 5] rfl rfl rfl rfl (by decide) (fun _ => rfl) 0 0 rfl rfl (fun r_44 u_45 H locs hw hP hD hS => ?_)
    obtain ⟨k_u_45, u_u_45⟩ := u_45
    rcases k_u_45 with _ | _ | _ | k_u_45
    · obtain ⟨c_46, rfl⟩ : (p2.toInt < 0) ∧ r_44 = 0 := hw
      have hP : va_P (dC, dI) vwCl [(p0, .inr (7, oM p3 i7 j7)), ((p3 49), .inl (cI, 22, .inl (fun _ => 0))), ((p3 50), .inl (cI, 22, .inl (fun _ => 0))), ((p3 72), .inl (cI, 9216, .inl (fun _ => 0))), ((p3 14), .inl (cI, 2, .inl (fun _ => 0))), ((p3 18), .inl (cI, 2, .inl (fun _ => 0)))] H := hP
      have hD : va_D A [(p0, .inr (7, oM p3 i7 j7)), ((p3 49), .inl (cI, 22, .inl (fun _ => 0))), ((p3 50), .inl (cI, 22, .inl (fun _ => 0))), ((p3 72), .inl (cI, 9216, .inl (fun _ => 0))), ((p3 14), .inl (cI, 2, .inl (fun _ => 0))), ((p3 18), .inl (cI, 2, .inl (fun _ => 0)))] := hD
      refine lv_if_ne (tgt := 21) hx hb dX7_most_16 (by decide) (fun q9 => absurd q9 (by decide +kernel)) (fun _ => ?_)
      refine lv_iconst (v := (-1)) hx hb dX7_most_19 (by decide +kernel) ?_
      exact k_ri B hP hD hS dX7_most_20 (12, (fun _ => 0)) [0, 1, 2, 3, 4, 5] rfl rfl rfl (Nat.le_of_ble_eq_true rfl) (Nat.le_of_ble_eq_true rfl) ⟨c_1, c_46, rfl⟩
    · obtain ⟨c_47, c_48, rfl⟩ : (0 ≤ p2.toInt) ∧ (3 < p2.toInt) ∧ r_44 = 0 := hw
      have hP : va_P (dC, dI) vwCl [(p0, .inr (7, oM p3 i7 j7)), ((p3 49), .inl (cI, 22, .inl (fun _ => 0))), ((p3 50), .inl (cI, 22, .inl (fun _ => 0))), ((p3 72), .inl (cI, 9216, .inl (fun _ => 0))), ((p3 14), .inl (cI, 2, .inl (fun _ => 0))), ((p3 18), .inl (cI, 2, .inl (fun _ => 0)))] H := hP
      have hD : va_D A [(p0, .inr (7, oM p3 i7 j7)), ((p3 49), .inl (cI, 22, .inl (fun _ => 0))), ((p3 50), .inl (cI, 22, .inl (fun _ => 0))), ((p3 72), .inl (cI, 9216, .inl (fun _ => 0))), ((p3 14), .inl (cI, 2, .inl (fun _ => 0))), ((p3 18), .inl (cI, 2, .inl (fun _ => 0)))] := hD
      refine lv_if_ne (tgt := 21) hx hb dX7_most_16 (by decide) (fun q9 => absurd q9 (by decide +kernel)) (fun _ => ?_)
      refine lv_iconst (v := (-1)) hx hb dX7_most_19 (by decide +kernel) ?_
      exact k_ri B hP hD hS dX7_most_20 (13, (fun _ => 0)) [0, 1, 2, 3, 4, 5] rfl rfl rfl (Nat.le_of_ble_eq_true rfl) (Nat.le_of_ble_eq_true rfl) ⟨c_1, c_47, c_48, rfl⟩
    · obtain ⟨c_49, c_50, rfl⟩ : (0 ≤ p2.toInt) ∧ (p2.toInt ≤ 3) ∧ r_44 = 1 := hw
      have hP : va_P (dC, dI) vwCl [(p0, .inr (7, oM p3 i7 j7)), ((p3 49), .inl (cI, 22, .inl (fun _ => 0))), ((p3 50), .inl (cI, 22, .inl (fun _ => 0))), ((p3 72), .inl (cI, 9216, .inl (fun _ => 0))), ((p3 14), .inl (cI, 2, .inl (fun _ => 0))), ((p3 18), .inl (cI, 2, .inl (fun _ => 0)))] H := hP
      have hD : va_D A [(p0, .inr (7, oM p3 i7 j7)), ((p3 49), .inl (cI, 22, .inl (fun _ => 0))), ((p3 50), .inl (cI, 22, .inl (fun _ => 0))), ((p3 72), .inl (cI, 9216, .inl (fun _ => 0))), ((p3 14), .inl (cI, 2, .inl (fun _ => 0))), ((p3 18), .inl (cI, 2, .inl (fun _ => 0)))] := hD
      refine lv_if_ne (tgt := 21) hx hb dX7_most_16 (by decide) (fun _ => ?_) (fun q9 => absurd q9 (by decide +kernel))
      refine lv_aload_n hx hb dX7_most_21 rfl (lv_at hl 0 rfl) ?_
      refine k_cv (wc := [(p0, .inr (7, oM p3 i7 j7)), ((p3 49), .inl (cI, 22, .inl (fun _ => 0))), ((p3 50), .inl (cI, 22, .inl (fun _ => 0))), ((p3 72), .inl (cI, 9216, .inl (fun _ => 0))), ((p3 14), .inl (cI, 2, .inl (fun _ => 0))), ((p3 18), .inl (cI, 2, .inl (fun _ => 0)))]) (wr := []) (fun hPc hDc hFc => va_runV (As := []) (rest := []) ⟨hx, hb, hml, hown, hts⟩ (c_X7_climbs_v0 l dC dI cI cJ cZ cM p0 p3 H.size) (cwV 0 hts gX7_most_X7_climbs rfl rfl rfl (by decide +kernel) ⟨(Nat.le_of_ble_eq_true rfl), (Nat.le_of_ble_eq_true rfl)⟩) (k_pV hPc hDc hK hN hC hS hFc hP (q0 := 0) (ci := 7) rfl rfl) rfl rfl hl.1 rfl (lv_room (Nat.le_of_ble_eq_true rfl)) dX7_most_22 ⟨(Nat.le_of_ble_eq_true rfl), (Nat.le_of_ble_eq_true rfl)⟩) hP hD hS hA [0, 1, 2, 3, 4, 5] [] rfl rfl rfl rfl (by decide) (fun _ => rfl) 0 0 rfl rfl (fun u_52 H locs hw hP hD hS => ?_)
      have hP : va_P (dC, dI) vwCl [(p0, .inr (7, oM p3 i7 j7)), ((p3 49), .inl (cI, 22, .inl (fun _ => 0))), ((p3 50), .inl (cI, 22, .inl (fun _ => 0))), ((p3 72), .inl (cI, 9216, .inl (upd (fun _ => (-1)) 0 0))), ((p3 14), .inl (cI, 2, .inl (fun _ => 0))), ((p3 18), .inl (cI, 2, .inl (fun _ => 0)))] H := hP
      have hD : va_D A [(p0, .inr (7, oM p3 i7 j7)), ((p3 49), .inl (cI, 22, .inl (fun _ => 0))), ((p3 50), .inl (cI, 22, .inl (fun _ => 0))), ((p3 72), .inl (cI, 9216, .inl (upd (fun _ => (-1)) 0 0))), ((p3 14), .inl (cI, 2, .inl (fun _ => 0))), ((p3 18), .inl (cI, 2, .inl (fun _ => 0)))] := hD
      refine lv_aload_n hx hb dX7_most_25 rfl (lv_at hl 0 rfl) ?_
      refine k_ci (wc := [(p0, .inr (7, oM p3 i7 j7)), ((p3 14), .inl (cI, 2, .inl (fun _ => 0)))]) (wr := [((p3 49), .inl (cI, 22, .inl (fun _ => 0))), ((p3 50), .inl (cI, 22, .inl (fun _ => 0))), ((p3 72), .inl (cI, 9216, .inl (upd (fun _ => (-1)) 0 0))), ((p3 18), .inl (cI, 2, .inl (fun _ => 0)))]) (fun hPc hDc hFc => va_runV (As := []) (rest := []) ⟨hx, hb, hml, hown, hts⟩ (c_X7_briefOnes_v2 l dC dI cI cJ cZ cM p0 p3 H.size) (cwV 0 hts gX7_most_X7_briefOnes rfl rfl rfl (by decide +kernel) ⟨(Nat.le_of_ble_eq_true rfl), (Nat.le_of_ble_eq_true rfl)⟩) (k_pV hPc hDc hK hN hC hS hFc hP (q0 := 0) (ci := 7) rfl rfl) rfl rfl hl.1 rfl (lv_room (Nat.le_of_ble_eq_true rfl)) dX7_most_26 ⟨(Nat.le_of_ble_eq_true rfl), (Nat.le_of_ble_eq_true rfl)⟩) hP hD hS hA [0, 4] [1, 2, 3, 5] rfl rfl rfl rfl (by decide) (fun _ => rfl) 0 0 rfl rfl (fun r_53 u_54 H locs hw hP hD hS => ?_)
      obtain rfl : r_53 = 0 := hw
      have hP : va_P (dC, dI) vwCl [((p3 49), .inl (cI, 22, .inl (fun _ => 0))), ((p3 50), .inl (cI, 22, .inl (fun _ => 0))), ((p3 72), .inl (cI, 9216, .inl (upd (fun _ => (-1)) 0 0))), ((p3 18), .inl (cI, 2, .inl (fun _ => 0))), (p0, .inr (7, oM p3 i7 j7)), ((p3 14), .inl (cI, 2, .inl (fun _ => 0)))] H := hP
      have hD : va_D A [((p3 49), .inl (cI, 22, .inl (fun _ => 0))), ((p3 50), .inl (cI, 22, .inl (fun _ => 0))), ((p3 72), .inl (cI, 9216, .inl (upd (fun _ => (-1)) 0 0))), ((p3 18), .inl (cI, 2, .inl (fun _ => 0))), (p0, .inr (7, oM p3 i7 j7)), ((p3 14), .inl (cI, 2, .inl (fun _ => 0)))] := hD
      refine lv_iconst (v := (-1)) hx hb dX7_most_29 (by decide +kernel) ?_
      refine lv_ixor hx hb dX7_most_30 ?_
      refine k_int (v := (-1)) (by decide +kernel) ?_
      refine lv_istore_n (lv' := [(3, .int (-1)), (0, .ref p0), (1, .int 2), (2, .int p2)]) hx hb dX7_most_31 rfl hl (by decide) rfl (fun ls hl => ?_)
      refine lv_aload_n hx hb dX7_most_32 rfl (lv_at hl 1 rfl) ?_
      refine lv_iconst (v := (-1)) hx hb dX7_most_33 (by decide +kernel) ?_
      refine k_put (D := (dC, dI)) (ci := 7) (v := .int (-1)) (C := RX7) (T := TX7) (N := 92) (ws' := [((p3 49), .inl (cI, 22, .inl (fun _ => 0))), ((p3 50), .inl (cI, 22, .inl (fun _ => 0))), ((p3 72), .inl (cI, 9216, .inl (upd (fun _ => (-1)) 0 0))), ((p3 18), .inl (cI, 2, .inl (fun _ => 0))), (p0, .inr (7, oM p3 (upd i7 75 (-1)) j7)), ((p3 14), .inl (cI, 2, .inl (fun _ => 0)))]) hx hb hts hinX7 tyX7 tyX7_ok nmX7 hown hK hP hD hS 4 rfl rfl 75 (by decide) w_0 rfl rfl rfl rfl (Nat.le_of_ble_eq_true rfl) rfl dX7_most_34 (fun H locs hP hD hS => ?_)
      refine lv_iconst (v := (-1)) hx hb dX7_most_37 (by decide +kernel) ?_
      refine lv_istore (lv' := [(4, .int (-1)), (3, .int (-1)), (0, .ref p0), (1, .int 2), (2, .int p2)]) hx hb dX7_most_38 hl (by decide) rfl (fun ls hl => ?_)
      refine lv_iconst (v := 0) hx hb dX7_most_40 (by decide +kernel) ?_
      refine lv_istore (lv' := [(5, .int 0), (4, .int (-1)), (3, .int (-1)), (0, .ref p0), (1, .int 2), (2, .int p2)]) hx hb dX7_most_41 hl (by decide) rfl (fun ls hl => ?_)
      refine lv_iload hx hb dX7_most_43 (lv_at hl 0 rfl) ?_
      refine lv_iload_n hx hb dX7_most_45 rfl (lv_at hl 4 rfl) ?_
      refine lv_icmp_gt (tgt := 166) hx hb dX7_most_46 (by decide) (fun q9 => absurd q9 (by decide +kernel)) (fun _ => ?_)
      refine lv_iconst (v := 0) hx hb dX7_most_49 (by decide +kernel) ?_
      refine lv_istore (lv' := [(6, .int 0), (5, .int 0), (4, .int (-1)), (3, .int (-1)), (0, .ref p0), (1, .int 2), (2, .int p2)]) hx hb dX7_most_50 hl (by decide) rfl (fun ls hl => ?_)
      refine lv_iload hx hb dX7_most_52 (lv_at hl 0 rfl) ?_
      refine lv_iconst (v := 1) hx hb dX7_most_54 (by decide +kernel) ?_
      refine lv_aload_n hx hb dX7_most_55 rfl (lv_at hl 4 rfl) ?_
      refine k_get (D := (dC, dI)) (ci := 7) (v := .ref (p3 14)) (C := RX7) (T := TX7) (N := 92) hx hb hts hinX7 hown hK hP 4 rfl rfl 14 (by decide) w_1 rfl rfl dX7_most_56 ?_
      refine lv_aload_n hx hb dX7_most_59 rfl (lv_at hl 4 rfl) ?_
      refine k_get (D := (dC, dI)) (ci := 7) (v := .int 0) (C := RX7) (T := TX7) (N := 92) hx hb hts hinX7 hown hK hP 4 rfl rfl 13 (by decide) w_2 rfl rfl dX7_most_60 ?_
      refine k_iald (v := 0) hx hb hK hP 5 0 0 rfl rfl rfl (Nat.le_of_ble_eq_true rfl) (Nat.le_of_ble_eq_true rfl) rfl dX7_most_63 ?_
      refine lv_ishl hx hb dX7_most_64 ?_
      refine k_int (v := 1) (by decide +kernel) ?_
      refine lv_icmp_ge (tgt := 160) hx hb dX7_most_65 (by decide) (fun q9 => absurd q9 (by decide +kernel)) (fun _ => ?_)
      refine lv_aload_n hx hb dX7_most_68 rfl (lv_at hl 4 rfl) ?_
      refine k_get (D := (dC, dI)) (ci := 7) (v := .ref (p3 72)) (C := RX7) (T := TX7) (N := 92) hx hb hts hinX7 hown hK hP 4 rfl rfl 72 (by decide) w_3 rfl rfl dX7_most_69 ?_
      refine lv_sipush (v := 1024) hx hb dX7_most_72 (by decide +kernel) ?_
      refine lv_iload hx hb dX7_most_75 (lv_at hl 1 rfl) ?_
      refine lv_imul hx hb dX7_most_77 ?_
      refine k_int (v := 0) (by decide +kernel) ?_
      refine lv_iload hx hb dX7_most_78 (lv_at hl 0 rfl) ?_
      refine lv_iadd hx hb dX7_most_80 ?_
      refine k_int (v := 0) (by decide +kernel) ?_
      refine k_iald (v := 0) hx hb hK hP 2 0 0 rfl rfl rfl (Nat.le_of_ble_eq_true rfl) (Nat.le_of_ble_eq_true rfl) rfl dX7_most_81 ?_
      refine lv_istore (lv' := [(7, .int 0), (6, .int 0), (5, .int 0), (4, .int (-1)), (3, .int (-1)), (0, .ref p0), (1, .int 2), (2, .int p2)]) hx hb dX7_most_82 hl (by decide) rfl (fun ls hl => ?_)
      refine lv_iload hx hb dX7_most_84 (lv_at hl 0 rfl) ?_
      refine lv_iconst (v := (-1)) hx hb dX7_most_86 (by decide +kernel) ?_
      refine lv_icmp_ne (tgt := 93) hx hb dX7_most_87 (by decide) (fun _ => ?_) (fun q9 => absurd q9 (by decide +kernel))
      refine lv_aload_n hx hb dX7_most_93 rfl (lv_at hl 5 rfl) ?_
      refine lv_iload hx hb dX7_most_94 (lv_at hl 1 rfl) ?_
      refine lv_iload_n hx hb dX7_most_96 rfl (lv_at hl 4 rfl) ?_
      refine lv_iand hx hb dX7_most_97 ?_
      refine k_int (v := 0) (by decide +kernel) ?_
      refine k_ci (wc := [(p0, .inr (7, oM p3 (upd i7 75 (-1)) j7)), ((p3 14), .inl (cI, 2, .inl (fun _ => 0)))]) (wr := [((p3 49), .inl (cI, 22, .inl (fun _ => 0))), ((p3 50), .inl (cI, 22, .inl (fun _ => 0))), ((p3 72), .inl (cI, 9216, .inl (upd (fun _ => (-1)) 0 0))), ((p3 18), .inl (cI, 2, .inl (fun _ => 0)))]) (fun hPc hDc hFc => va_runV (As := [.int 0]) (rest := []) ⟨hx, hb, hml, hown, hts⟩ (c_X7_worthOf_v1 l dC dI cI cJ cZ cM p0 p3 H.size) (cwV 1 hts gX7_most_X7_worthOf rfl rfl rfl (by decide +kernel) ⟨(Nat.le_of_ble_eq_true rfl), (Nat.le_of_ble_eq_true rfl)⟩) (k_pV hPc hDc hK hN hC hS hFc hP (q0 := 4) (ci := 7) rfl rfl) rfl rfl hl.1 rfl (lv_room (Nat.le_of_ble_eq_true rfl)) dX7_most_98 ⟨(Nat.le_of_ble_eq_true rfl), (Nat.le_of_ble_eq_true rfl)⟩) hP hD hS hA [4, 5] [0, 1, 2, 3] rfl rfl rfl rfl (by decide) (fun _ => rfl) 0 0 rfl rfl (fun r_55 u_56 H locs hw hP hD hS => ?_)
      obtain rfl : r_55 = 0 := hw
      have hP : va_P (dC, dI) vwCl [((p3 49), .inl (cI, 22, .inl (fun _ => 0))), ((p3 50), .inl (cI, 22, .inl (fun _ => 0))), ((p3 72), .inl (cI, 9216, .inl (upd (fun _ => (-1)) 0 0))), ((p3 18), .inl (cI, 2, .inl (fun _ => 0))), (p0, .inr (7, oM p3 (upd i7 75 (-1)) j7)), ((p3 14), .inl (cI, 2, .inl (fun _ => 0)))] H := hP
      have hD : va_D A [((p3 49), .inl (cI, 22, .inl (fun _ => 0))), ((p3 50), .inl (cI, 22, .inl (fun _ => 0))), ((p3 72), .inl (cI, 9216, .inl (upd (fun _ => (-1)) 0 0))), ((p3 18), .inl (cI, 2, .inl (fun _ => 0))), (p0, .inr (7, oM p3 (upd i7 75 (-1)) j7)), ((p3 14), .inl (cI, 2, .inl (fun _ => 0)))] := hD
      refine lv_istore (lv' := [(8, .int 0), (7, .int 0), (6, .int 0), (5, .int 0), (4, .int (-1)), (3, .int (-1)), (0, .ref p0), (1, .int 2), (2, .int p2)]) hx hb dX7_most_101 hl (by decide) rfl (fun ls hl => ?_)
      refine lv_iload hx hb dX7_most_103 (lv_at hl 0 rfl) ?_
      refine lv_iload hx hb dX7_most_105 (lv_at hl 4 rfl) ?_
      refine lv_icmp_lt (tgt := 154) hx hb dX7_most_107 (by decide) (fun q9 => absurd q9 (by decide +kernel)) (fun _ => ?_)
      refine lv_iload hx hb dX7_most_110 (lv_at hl 0 rfl) ?_
      refine lv_iload hx hb dX7_most_112 (lv_at hl 4 rfl) ?_
      refine lv_icmp_ne (tgt := 138) hx hb dX7_most_114 (by decide) (fun _ => ?_) (fun q9 => absurd q9 (by decide +kernel))
      refine lv_iload hx hb dX7_most_138 (lv_at hl 0 rfl) ?_
      refine lv_istore (lv' := [(4, .int 0), (8, .int 0), (7, .int 0), (6, .int 0), (5, .int 0), (3, .int (-1)), (0, .ref p0), (1, .int 2), (2, .int p2)]) hx hb dX7_most_140 hl (by decide) rfl (fun ls hl => ?_)
      refine lv_aload_n hx hb dX7_most_142 rfl (lv_at hl 6 rfl) ?_
      refine lv_iload hx hb dX7_most_143 (lv_at hl 4 rfl) ?_
      refine k_put (D := (dC, dI)) (ci := 7) (v := .int 0) (C := RX7) (T := TX7) (N := 92) (ws' := [((p3 49), .inl (cI, 22, .inl (fun _ => 0))), ((p3 50), .inl (cI, 22, .inl (fun _ => 0))), ((p3 72), .inl (cI, 9216, .inl (upd (fun _ => (-1)) 0 0))), ((p3 18), .inl (cI, 2, .inl (fun _ => 0))), (p0, .inr (7, oM p3 (upd i7 75 0) j7)), ((p3 14), .inl (cI, 2, .inl (fun _ => 0)))]) hx hb hts hinX7 tyX7 tyX7_ok nmX7 hown hK hP hD hS 4 rfl rfl 75 (by decide) w_0 rfl rfl rfl rfl (Nat.le_of_ble_eq_true rfl) rfl dX7_most_145 (fun H locs hP hD hS => ?_)
      refine lv_aload_n hx hb dX7_most_148 rfl (lv_at hl 6 rfl) ?_
      refine lv_iload hx hb dX7_most_149 (lv_at hl 3 rfl) ?_
      refine k_put (D := (dC, dI)) (ci := 7) (v := .int 0) (C := RX7) (T := TX7) (N := 92) (ws' := [((p3 49), .inl (cI, 22, .inl (fun _ => 0))), ((p3 50), .inl (cI, 22, .inl (fun _ => 0))), ((p3 72), .inl (cI, 9216, .inl (upd (fun _ => (-1)) 0 0))), ((p3 18), .inl (cI, 2, .inl (fun _ => 0))), (p0, .inr (7, oM p3 (upd (upd i7 75 0) 76 0) j7)), ((p3 14), .inl (cI, 2, .inl (fun _ => 0)))]) hx hb hts hinX7 tyX7 tyX7_ok nmX7 hown hK hP hD hS 4 rfl rfl 76 (by decide) w_4 rfl rfl rfl rfl (Nat.le_of_ble_eq_true rfl) rfl dX7_most_151 (fun H locs hP hD hS => ?_)
      refine lv_iinc (v := 1) (lv' := [(6, .int 1), (4, .int 0), (8, .int 0), (7, .int 0), (5, .int 0), (3, .int (-1)), (0, .ref p0), (1, .int 2), (2, .int p2)]) hx hb dX7_most_154 hl (k := 3) rfl (by decide +kernel) (by decide) rfl (fun ls hl => ?_)
      refine lv_goto (tgt := 52) hx hb dX7_most_157 (by decide) ?_
      refine lv_iload hx hb dX7_most_52 (lv_at hl 0 rfl) ?_
      refine lv_iconst (v := 1) hx hb dX7_most_54 (by decide +kernel) ?_
      refine lv_aload_n hx hb dX7_most_55 rfl (lv_at hl 6 rfl) ?_
      refine k_get (D := (dC, dI)) (ci := 7) (v := .ref (p3 14)) (C := RX7) (T := TX7) (N := 92) hx hb hts hinX7 hown hK hP 4 rfl rfl 14 (by decide) w_1 rfl rfl dX7_most_56 ?_
      refine lv_aload_n hx hb dX7_most_59 rfl (lv_at hl 6 rfl) ?_
      refine k_get (D := (dC, dI)) (ci := 7) (v := .int 0) (C := RX7) (T := TX7) (N := 92) hx hb hts hinX7 hown hK hP 4 rfl rfl 13 (by decide) w_2 rfl rfl dX7_most_60 ?_
      refine k_iald (v := 0) hx hb hK hP 5 0 0 rfl rfl rfl (Nat.le_of_ble_eq_true rfl) (Nat.le_of_ble_eq_true rfl) rfl dX7_most_63 ?_
      refine lv_ishl hx hb dX7_most_64 ?_
      refine k_int (v := 1) (by decide +kernel) ?_
      refine lv_icmp_ge (tgt := 160) hx hb dX7_most_65 (by decide) (fun _ => ?_) (fun q9 => absurd q9 (by decide +kernel))
      refine lv_iinc (v := 1) (lv' := [(5, .int 1), (6, .int 1), (4, .int 0), (8, .int 0), (7, .int 0), (3, .int (-1)), (0, .ref p0), (1, .int 2), (2, .int p2)]) hx hb dX7_most_160 hl (k := 4) rfl (by decide +kernel) (by decide) rfl (fun ls hl => ?_)
      refine lv_goto (tgt := 43) hx hb dX7_most_163 (by decide) ?_
      refine lv_iload hx hb dX7_most_43 (lv_at hl 0 rfl) ?_
      refine lv_iload_n hx hb dX7_most_45 rfl (lv_at hl 7 rfl) ?_
      refine lv_icmp_gt (tgt := 166) hx hb dX7_most_46 (by decide) (fun q9 => absurd q9 (by decide +kernel)) (fun _ => ?_)
      refine lv_iconst (v := 0) hx hb dX7_most_49 (by decide +kernel) ?_
      refine lv_istore (lv' := [(6, .int 0), (5, .int 1), (4, .int 0), (8, .int 0), (7, .int 0), (3, .int (-1)), (0, .ref p0), (1, .int 2), (2, .int p2)]) hx hb dX7_most_50 hl (by decide) rfl (fun ls hl => ?_)
      refine lv_iload hx hb dX7_most_52 (lv_at hl 0 rfl) ?_
      refine lv_iconst (v := 1) hx hb dX7_most_54 (by decide +kernel) ?_
      refine lv_aload_n hx hb dX7_most_55 rfl (lv_at hl 6 rfl) ?_
      refine k_get (D := (dC, dI)) (ci := 7) (v := .ref (p3 14)) (C := RX7) (T := TX7) (N := 92) hx hb hts hinX7 hown hK hP 4 rfl rfl 14 (by decide) w_1 rfl rfl dX7_most_56 ?_
      refine lv_aload_n hx hb dX7_most_59 rfl (lv_at hl 6 rfl) ?_
      refine k_get (D := (dC, dI)) (ci := 7) (v := .int 0) (C := RX7) (T := TX7) (N := 92) hx hb hts hinX7 hown hK hP 4 rfl rfl 13 (by decide) w_2 rfl rfl dX7_most_60 ?_
      refine k_iald (v := 0) hx hb hK hP 5 0 0 rfl rfl rfl (Nat.le_of_ble_eq_true rfl) (Nat.le_of_ble_eq_true rfl) rfl dX7_most_63 ?_
      refine lv_ishl hx hb dX7_most_64 ?_
      refine k_int (v := 1) (by decide +kernel) ?_
      refine lv_icmp_ge (tgt := 160) hx hb dX7_most_65 (by decide) (fun q9 => absurd q9 (by decide +kernel)) (fun _ => ?_)
      refine lv_aload_n hx hb dX7_most_68 rfl (lv_at hl 6 rfl) ?_
      refine k_get (D := (dC, dI)) (ci := 7) (v := .ref (p3 72)) (C := RX7) (T := TX7) (N := 92) hx hb hts hinX7 hown hK hP 4 rfl rfl 72 (by decide) w_3 rfl rfl dX7_most_69 ?_
      refine lv_sipush (v := 1024) hx hb dX7_most_72 (by decide +kernel) ?_
      refine lv_iload hx hb dX7_most_75 (lv_at hl 1 rfl) ?_
      refine lv_imul hx hb dX7_most_77 ?_
      refine k_int (v := 1024) (by decide +kernel) ?_
      refine lv_iload hx hb dX7_most_78 (lv_at hl 0 rfl) ?_
      refine lv_iadd hx hb dX7_most_80 ?_
      refine k_int (v := 1024) (by decide +kernel) ?_
      refine k_iald (v := (-1)) hx hb hK hP 2 0 1024 rfl rfl rfl (Nat.le_of_ble_eq_true rfl) (Nat.le_of_ble_eq_true rfl) rfl dX7_most_81 ?_
      refine lv_istore (lv' := [(7, .int (-1)), (6, .int 0), (5, .int 1), (4, .int 0), (8, .int 0), (3, .int (-1)), (0, .ref p0), (1, .int 2), (2, .int p2)]) hx hb dX7_most_82 hl (by decide) rfl (fun ls hl => ?_)
      refine lv_iload hx hb dX7_most_84 (lv_at hl 0 rfl) ?_
      refine lv_iconst (v := (-1)) hx hb dX7_most_86 (by decide +kernel) ?_
      refine lv_icmp_ne (tgt := 93) hx hb dX7_most_87 (by decide) (fun q9 => absurd q9 (by decide +kernel)) (fun _ => ?_)
      refine lv_goto (tgt := 154) hx hb dX7_most_90 (by decide) ?_
      refine lv_iinc (v := 1) (lv' := [(6, .int 1), (7, .int (-1)), (5, .int 1), (4, .int 0), (8, .int 0), (3, .int (-1)), (0, .ref p0), (1, .int 2), (2, .int p2)]) hx hb dX7_most_154 hl (k := 1) rfl (by decide +kernel) (by decide) rfl (fun ls hl => ?_)
      refine lv_goto (tgt := 52) hx hb dX7_most_157 (by decide) ?_
      refine lv_iload hx hb dX7_most_52 (lv_at hl 0 rfl) ?_
      refine lv_iconst (v := 1) hx hb dX7_most_54 (by decide +kernel) ?_
      refine lv_aload_n hx hb dX7_most_55 rfl (lv_at hl 6 rfl) ?_
      refine k_get (D := (dC, dI)) (ci := 7) (v := .ref (p3 14)) (C := RX7) (T := TX7) (N := 92) hx hb hts hinX7 hown hK hP 4 rfl rfl 14 (by decide) w_1 rfl rfl dX7_most_56 ?_
      refine lv_aload_n hx hb dX7_most_59 rfl (lv_at hl 6 rfl) ?_
      refine k_get (D := (dC, dI)) (ci := 7) (v := .int 0) (C := RX7) (T := TX7) (N := 92) hx hb hts hinX7 hown hK hP 4 rfl rfl 13 (by decide) w_2 rfl rfl dX7_most_60 ?_
      refine k_iald (v := 0) hx hb hK hP 5 0 0 rfl rfl rfl (Nat.le_of_ble_eq_true rfl) (Nat.le_of_ble_eq_true rfl) rfl dX7_most_63 ?_
      refine lv_ishl hx hb dX7_most_64 ?_
      refine k_int (v := 1) (by decide +kernel) ?_
      refine lv_icmp_ge (tgt := 160) hx hb dX7_most_65 (by decide) (fun _ => ?_) (fun q9 => absurd q9 (by decide +kernel))
      refine lv_iinc (v := 2) (lv' := [(5, .int 2), (6, .int 1), (7, .int (-1)), (4, .int 0), (8, .int 0), (3, .int (-1)), (0, .ref p0), (1, .int 2), (2, .int p2)]) hx hb dX7_most_160 hl (k := 2) rfl (by decide +kernel) (by decide) rfl (fun ls hl => ?_)
      refine lv_goto (tgt := 43) hx hb dX7_most_163 (by decide) ?_
      refine lv_iload hx hb dX7_most_43 (lv_at hl 0 rfl) ?_
      refine lv_iload_n hx hb dX7_most_45 rfl (lv_at hl 7 rfl) ?_
      refine lv_icmp_gt (tgt := 166) hx hb dX7_most_46 (by decide) (fun q9 => absurd q9 (by decide +kernel)) (fun _ => ?_)
      refine lv_iconst (v := 0) hx hb dX7_most_49 (by decide +kernel) ?_
      refine lv_istore (lv' := [(6, .int 0), (5, .int 2), (7, .int (-1)), (4, .int 0), (8, .int 0), (3, .int (-1)), (0, .ref p0), (1, .int 2), (2, .int p2)]) hx hb dX7_most_50 hl (by decide) rfl (fun ls hl => ?_)
      refine lv_iload hx hb dX7_most_52 (lv_at hl 0 rfl) ?_
      refine lv_iconst (v := 1) hx hb dX7_most_54 (by decide +kernel) ?_
      refine lv_aload_n hx hb dX7_most_55 rfl (lv_at hl 6 rfl) ?_
      refine k_get (D := (dC, dI)) (ci := 7) (v := .ref (p3 14)) (C := RX7) (T := TX7) (N := 92) hx hb hts hinX7 hown hK hP 4 rfl rfl 14 (by decide) w_1 rfl rfl dX7_most_56 ?_
      refine lv_aload_n hx hb dX7_most_59 rfl (lv_at hl 6 rfl) ?_
      refine k_get (D := (dC, dI)) (ci := 7) (v := .int 0) (C := RX7) (T := TX7) (N := 92) hx hb hts hinX7 hown hK hP 4 rfl rfl 13 (by decide) w_2 rfl rfl dX7_most_60 ?_
      refine k_iald (v := 0) hx hb hK hP 5 0 0 rfl rfl rfl (Nat.le_of_ble_eq_true rfl) (Nat.le_of_ble_eq_true rfl) rfl dX7_most_63 ?_
      refine lv_ishl hx hb dX7_most_64 ?_
      refine k_int (v := 1) (by decide +kernel) ?_
      refine lv_icmp_ge (tgt := 160) hx hb dX7_most_65 (by decide) (fun q9 => absurd q9 (by decide +kernel)) (fun _ => ?_)
      refine lv_aload_n hx hb dX7_most_68 rfl (lv_at hl 6 rfl) ?_
      refine k_get (D := (dC, dI)) (ci := 7) (v := .ref (p3 72)) (C := RX7) (T := TX7) (N := 92) hx hb hts hinX7 hown hK hP 4 rfl rfl 72 (by decide) w_3 rfl rfl dX7_most_69 ?_
      refine lv_sipush (v := 1024) hx hb dX7_most_72 (by decide +kernel) ?_
      refine lv_iload hx hb dX7_most_75 (lv_at hl 1 rfl) ?_
      refine lv_imul hx hb dX7_most_77 ?_
      refine k_int (v := 2048) (by decide +kernel) ?_
      refine lv_iload hx hb dX7_most_78 (lv_at hl 0 rfl) ?_
      refine lv_iadd hx hb dX7_most_80 ?_
      refine k_int (v := 2048) (by decide +kernel) ?_
      refine k_iald (v := (-1)) hx hb hK hP 2 0 2048 rfl rfl rfl (Nat.le_of_ble_eq_true rfl) (Nat.le_of_ble_eq_true rfl) rfl dX7_most_81 ?_
      refine lv_istore (lv' := [(7, .int (-1)), (6, .int 0), (5, .int 2), (4, .int 0), (8, .int 0), (3, .int (-1)), (0, .ref p0), (1, .int 2), (2, .int p2)]) hx hb dX7_most_82 hl (by decide) rfl (fun ls hl => ?_)
      refine lv_iload hx hb dX7_most_84 (lv_at hl 0 rfl) ?_
      refine lv_iconst (v := (-1)) hx hb dX7_most_86 (by decide +kernel) ?_
      refine lv_icmp_ne (tgt := 93) hx hb dX7_most_87 (by decide) (fun q9 => absurd q9 (by decide +kernel)) (fun _ => ?_)
      refine lv_goto (tgt := 154) hx hb dX7_most_90 (by decide) ?_
      refine lv_iinc (v := 1) (lv' := [(6, .int 1), (7, .int (-1)), (5, .int 2), (4, .int 0), (8, .int 0), (3, .int (-1)), (0, .ref p0), (1, .int 2), (2, .int p2)]) hx hb dX7_most_154 hl (k := 1) rfl (by decide +kernel) (by decide) rfl (fun ls hl => ?_)
      refine lv_goto (tgt := 52) hx hb dX7_most_157 (by decide) ?_
      refine lv_iload hx hb dX7_most_52 (lv_at hl 0 rfl) ?_
      refine lv_iconst (v := 1) hx hb dX7_most_54 (by decide +kernel) ?_
      refine lv_aload_n hx hb dX7_most_55 rfl (lv_at hl 6 rfl) ?_
      refine k_get (D := (dC, dI)) (ci := 7) (v := .ref (p3 14)) (C := RX7) (T := TX7) (N := 92) hx hb hts hinX7 hown hK hP 4 rfl rfl 14 (by decide) w_1 rfl rfl dX7_most_56 ?_
      refine lv_aload_n hx hb dX7_most_59 rfl (lv_at hl 6 rfl) ?_
      refine k_get (D := (dC, dI)) (ci := 7) (v := .int 0) (C := RX7) (T := TX7) (N := 92) hx hb hts hinX7 hown hK hP 4 rfl rfl 13 (by decide) w_2 rfl rfl dX7_most_60 ?_
      refine k_iald (v := 0) hx hb hK hP 5 0 0 rfl rfl rfl (Nat.le_of_ble_eq_true rfl) (Nat.le_of_ble_eq_true rfl) rfl dX7_most_63 ?_
      refine lv_ishl hx hb dX7_most_64 ?_
      refine k_int (v := 1) (by decide +kernel) ?_
      refine lv_icmp_ge (tgt := 160) hx hb dX7_most_65 (by decide) (fun _ => ?_) (fun q9 => absurd q9 (by decide +kernel))
      refine lv_iinc (v := 3) (lv' := [(5, .int 3), (6, .int 1), (7, .int (-1)), (4, .int 0), (8, .int 0), (3, .int (-1)), (0, .ref p0), (1, .int 2), (2, .int p2)]) hx hb dX7_most_160 hl (k := 2) rfl (by decide +kernel) (by decide) rfl (fun ls hl => ?_)
      refine lv_goto (tgt := 43) hx hb dX7_most_163 (by decide) ?_
      refine lv_iload hx hb dX7_most_43 (lv_at hl 0 rfl) ?_
      refine lv_iload_n hx hb dX7_most_45 rfl (lv_at hl 7 rfl) ?_
      refine lv_icmp_gt (tgt := 166) hx hb dX7_most_46 (by decide) (fun _ => ?_) (fun q9 => absurd q9 (by decide +kernel))
      refine lv_iload_n hx hb dX7_most_166 rfl (lv_at hl 8 rfl) ?_
      refine lv_if_ne (tgt := 175) hx hb dX7_most_167 (by decide) (fun c_57 => ?_) (fun c_57 => ?_)
      · have c_57 : ¬ p2.toInt = 0 := k_eqF rfl (by decide +kernel) c_57
        refine lv_iload_n hx hb dX7_most_175 rfl (lv_at hl 8 rfl) ?_
        refine lv_iconst (v := 1) hx hb dX7_most_176 (by decide +kernel) ?_
        refine lv_icmp_ne (tgt := 187) hx hb dX7_most_177 (by decide) (fun c_58 => ?_) (fun c_58 => ?_)
        · have c_58 : ¬ p2.toInt = 1 := k_eqF rfl (by decide +kernel) c_58
          refine lv_iload_n hx hb dX7_most_187 rfl (lv_at hl 8 rfl) ?_
          refine lv_iconst (v := 2) hx hb dX7_most_188 (by decide +kernel) ?_
          refine lv_icmp_ne (tgt := 199) hx hb dX7_most_189 (by decide) (fun c_59 => ?_) (fun c_59 => ?_)
          · have c_59 : ¬ p2.toInt = 2 := k_eqF rfl (by decide +kernel) c_59
            refine lv_aload_n hx hb dX7_most_199 rfl (lv_at hl 6 rfl) ?_
            refine k_get (D := (dC, dI)) (ci := 7) (v := .int 0) (C := RX7) (T := TX7) (N := 92) hx hb hts hinX7 hown hK hP 4 rfl rfl 76 (by decide) w_4 rfl rfl dX7_most_200 ?_
            exact k_ri B hP hD hS dX7_most_203 (14, (fun _ => 0)) [4, 0, 1, 2, 5, 3] rfl rfl rfl (Nat.le_of_ble_eq_true rfl) (Nat.le_of_ble_eq_true rfl) ⟨c_1, c_49, c_50, c_57, c_58, c_59, rfl⟩
          · have c_59 : p2.toInt = 2 := k_eqT rfl (by decide +kernel) c_59
            refine lv_aload_n hx hb dX7_most_192 rfl (lv_at hl 6 rfl) ?_
            refine k_ci (wc := [(p0, .inr (7, oM p3 (upd (upd i7 75 0) 76 0) j7)), ((p3 72), .inl (cI, 9216, .inl (upd (fun _ => (-1)) 0 0)))]) (wr := [((p3 49), .inl (cI, 22, .inl (fun _ => 0))), ((p3 50), .inl (cI, 22, .inl (fun _ => 0))), ((p3 18), .inl (cI, 2, .inl (fun _ => 0))), ((p3 14), .inl (cI, 2, .inl (fun _ => 0)))]) (fun hPc hDc hFc => va_runV (As := []) (rest := []) ⟨hx, hb, hml, hown, hts⟩ (c_X7_foundSea_v0 l dC dI cI cJ cZ cM p0 p3 H.size) (cwV 0 hts gX7_most_X7_foundSea rfl rfl rfl (by decide +kernel) ⟨(Nat.le_of_ble_eq_true rfl), (Nat.le_of_ble_eq_true rfl)⟩) (k_pV hPc hDc hK hN hC hS hFc hP (q0 := 4) (ci := 7) rfl rfl) rfl rfl hl.1 rfl (lv_room (Nat.le_of_ble_eq_true rfl)) dX7_most_193 ⟨(Nat.le_of_ble_eq_true rfl), (Nat.le_of_ble_eq_true rfl)⟩) hP hD hS hA [4, 2] [0, 1, 3, 5] rfl rfl rfl rfl (by decide) (fun _ => rfl) 0 0 rfl rfl (fun r_60 u_61 H locs hw hP hD hS => ?_)
            obtain rfl : r_60 = 0 := hw
            have hP : va_P (dC, dI) vwCl [((p3 49), .inl (cI, 22, .inl (fun _ => 0))), ((p3 50), .inl (cI, 22, .inl (fun _ => 0))), ((p3 18), .inl (cI, 2, .inl (fun _ => 0))), ((p3 14), .inl (cI, 2, .inl (fun _ => 0))), (p0, .inr (7, oM p3 (upd (upd i7 75 0) 76 0) j7)), ((p3 72), .inl (cI, 9216, .inl (upd (fun _ => (-1)) 0 0)))] H := hP
            have hD : va_D A [((p3 49), .inl (cI, 22, .inl (fun _ => 0))), ((p3 50), .inl (cI, 22, .inl (fun _ => 0))), ((p3 18), .inl (cI, 2, .inl (fun _ => 0))), ((p3 14), .inl (cI, 2, .inl (fun _ => 0))), (p0, .inr (7, oM p3 (upd (upd i7 75 0) 76 0) j7)), ((p3 72), .inl (cI, 9216, .inl (upd (fun _ => (-1)) 0 0)))] := hD
            refine lv_goto (tgt := 203) hx hb dX7_most_196 (by decide) ?_
            exact k_ri B hP hD hS dX7_most_203 (15, (fun _ => 0)) [4, 0, 1, 5, 3, 2] rfl rfl rfl (Nat.le_of_ble_eq_true rfl) (Nat.le_of_ble_eq_true rfl) ⟨c_1, c_49, c_50, c_57, c_58, c_59, rfl⟩
        · have c_58 : p2.toInt = 1 := k_eqT rfl (by decide +kernel) c_58
          refine lv_aload_n hx hb dX7_most_180 rfl (lv_at hl 6 rfl) ?_
          refine k_get (D := (dC, dI)) (ci := 7) (v := .int 0) (C := RX7) (T := TX7) (N := 92) hx hb hts hinX7 hown hK hP 4 rfl rfl 75 (by decide) w_0 rfl rfl dX7_most_181 ?_
          refine lv_goto (tgt := 203) hx hb dX7_most_184 (by decide) ?_
          exact k_ri B hP hD hS dX7_most_203 (16, (fun _ => 0)) [4, 0, 1, 2, 5, 3] rfl rfl rfl (Nat.le_of_ble_eq_true rfl) (Nat.le_of_ble_eq_true rfl) ⟨c_1, c_49, c_50, c_57, c_58, rfl⟩
      · have c_57 : p2.toInt = 0 := k_eqT rfl (by decide +kernel) c_57
        refine lv_iload hx hb dX7_most_170 (lv_at hl 3 rfl) ?_
        refine lv_goto (tgt := 203) hx hb dX7_most_172 (by decide) ?_
        exact k_ri B hP hD hS dX7_most_203 (17, (fun _ => 0)) [4, 0, 1, 2, 5, 3] rfl rfl rfl (Nat.le_of_ble_eq_true rfl) (Nat.le_of_ble_eq_true rfl) ⟨c_1, c_49, c_50, c_57, rfl⟩
    · exact False.elim hw
  · obtain rfl : p1 = 3 := k_eqL (by decide +kernel) c_1
    refine lv_iload_n hx hb dX7_most_0 rfl (lv_at hl 1 rfl) ?_
    refine lv_iconst (v := 0) hx hb dX7_most_1 (by decide +kernel) ?_
    refine lv_bipush (v := 8) hx hb dX7_most_2 (by decide +kernel) ?_
    refine k_ci (wc := []) (wr := [(p0, .inr (7, oM p3 i7 j7)), ((p3 49), .inl (cI, 22, .inl (fun _ => 0))), ((p3 50), .inl (cI, 22, .inl (fun _ => 0))), ((p3 72), .inl (cI, 9216, .inl (fun _ => 0))), ((p3 14), .inl (cI, 2, .inl (fun _ => 0))), ((p3 18), .inl (cI, 2, .inl (fun _ => 0)))]) (fun hPc hDc hFc => va_runS (As := [.int 3, .int 0, .int 8]) (rest := []) ⟨hx, hb, hml, hown, hts⟩ (c_X7_is_v9 l dC dI cI cJ cZ cM H.size) (va_cwS 3 hts gX7_most_X7_is rfl rfl rfl (by decide +kernel) ⟨(Nat.le_of_ble_eq_true rfl), (Nat.le_of_ble_eq_true rfl)⟩) (k_pS hPc hDc hK hN hC hS hFc) rfl rfl hl.1 rfl (lv_room (Nat.le_of_ble_eq_true rfl)) dX7_most_4 ⟨(Nat.le_of_ble_eq_true rfl), (Nat.le_of_ble_eq_true rfl)⟩) hP hD hS hA [] [0, 1, 2, 3, 4, 5] rfl rfl rfl rfl (by decide) (fun _ => rfl) 0 0 rfl rfl (fun r_62 u_63 H locs hw hP hD hS => ?_)
    obtain rfl : r_62 = 1 := hw
    have hP : va_P (dC, dI) vwCl [(p0, .inr (7, oM p3 i7 j7)), ((p3 49), .inl (cI, 22, .inl (fun _ => 0))), ((p3 50), .inl (cI, 22, .inl (fun _ => 0))), ((p3 72), .inl (cI, 9216, .inl (fun _ => 0))), ((p3 14), .inl (cI, 2, .inl (fun _ => 0))), ((p3 18), .inl (cI, 2, .inl (fun _ => 0)))] H := hP
    have hD : va_D A [(p0, .inr (7, oM p3 i7 j7)), ((p3 49), .inl (cI, 22, .inl (fun _ => 0))), ((p3 50), .inl (cI, 22, .inl (fun _ => 0))), ((p3 72), .inl (cI, 9216, .inl (fun _ => 0))), ((p3 14), .inl (cI, 2, .inl (fun _ => 0))), ((p3 18), .inl (cI, 2, .inl (fun _ => 0)))] := hD
    refine lv_if_eq (tgt := 19) hx hb dX7_most_7 (by decide) (fun q9 => absurd q9 (by decide +kernel)) (fun _ => ?_)
    refine lv_iload_n hx hb dX7_most_10 rfl (lv_at hl 2 rfl) ?_
    refine lv_iconst (v := 0) hx hb dX7_most_11 (by decide +kernel) ?_
    refine lv_iconst (v := 3) hx hb dX7_most_12 (by decide +kernel) ?_
    refine k_ci (wc := []) (wr := [(p0, .inr (7, oM p3 i7 j7)), ((p3 49), .inl (cI, 22, .inl (fun _ => 0))), ((p3 50), .inl (cI, 22, .inl (fun _ => 0))), ((p3 72), .inl (cI, 9216, .inl (fun _ => 0))), ((p3 14), .inl (cI, 2, .inl (fun _ => 0))), ((p3 18), .inl (cI, 2, .inl (fun _ => 0)))]) (fun hPc hDc hFc => va_runS (As := [.int p2, .int 0, .int 3]) (rest := []) ⟨hx, hb, hml, hown, hts⟩ (c_X7_is_v24 l dC dI cI cJ cZ cM p2 H.size) (va_cwS 3 hts gX7_most_X7_is rfl rfl rfl (by decide +kernel) ⟨(Nat.le_of_ble_eq_true rfl), (Nat.le_of_ble_eq_true rfl)⟩) (k_pS hPc hDc hK hN hC hS hFc) rfl rfl hl.1 rfl (lv_room (Nat.le_of_ble_eq_true rfl)) dX7_most_13 ⟨(Nat.le_of_ble_eq_true rfl), (Nat.le_of_ble_eq_true rfl)⟩) hP hD hS hA [] [0, 1, 2, 3, 4, 5] rfl rfl rfl rfl (by decide) (fun _ => rfl) 0 0 rfl rfl (fun r_64 u_65 H locs hw hP hD hS => ?_)
    obtain ⟨k_u_65, u_u_65⟩ := u_65
    rcases k_u_65 with _ | _ | _ | k_u_65
    · obtain ⟨c_66, rfl⟩ : (p2.toInt < 0) ∧ r_64 = 0 := hw
      have hP : va_P (dC, dI) vwCl [(p0, .inr (7, oM p3 i7 j7)), ((p3 49), .inl (cI, 22, .inl (fun _ => 0))), ((p3 50), .inl (cI, 22, .inl (fun _ => 0))), ((p3 72), .inl (cI, 9216, .inl (fun _ => 0))), ((p3 14), .inl (cI, 2, .inl (fun _ => 0))), ((p3 18), .inl (cI, 2, .inl (fun _ => 0)))] H := hP
      have hD : va_D A [(p0, .inr (7, oM p3 i7 j7)), ((p3 49), .inl (cI, 22, .inl (fun _ => 0))), ((p3 50), .inl (cI, 22, .inl (fun _ => 0))), ((p3 72), .inl (cI, 9216, .inl (fun _ => 0))), ((p3 14), .inl (cI, 2, .inl (fun _ => 0))), ((p3 18), .inl (cI, 2, .inl (fun _ => 0)))] := hD
      refine lv_if_ne (tgt := 21) hx hb dX7_most_16 (by decide) (fun q9 => absurd q9 (by decide +kernel)) (fun _ => ?_)
      refine lv_iconst (v := (-1)) hx hb dX7_most_19 (by decide +kernel) ?_
      exact k_ri B hP hD hS dX7_most_20 (18, (fun _ => 0)) [0, 1, 2, 3, 4, 5] rfl rfl rfl (Nat.le_of_ble_eq_true rfl) (Nat.le_of_ble_eq_true rfl) ⟨c_1, c_66, rfl⟩
    · obtain ⟨c_67, c_68, rfl⟩ : (0 ≤ p2.toInt) ∧ (3 < p2.toInt) ∧ r_64 = 0 := hw
      have hP : va_P (dC, dI) vwCl [(p0, .inr (7, oM p3 i7 j7)), ((p3 49), .inl (cI, 22, .inl (fun _ => 0))), ((p3 50), .inl (cI, 22, .inl (fun _ => 0))), ((p3 72), .inl (cI, 9216, .inl (fun _ => 0))), ((p3 14), .inl (cI, 2, .inl (fun _ => 0))), ((p3 18), .inl (cI, 2, .inl (fun _ => 0)))] H := hP
      have hD : va_D A [(p0, .inr (7, oM p3 i7 j7)), ((p3 49), .inl (cI, 22, .inl (fun _ => 0))), ((p3 50), .inl (cI, 22, .inl (fun _ => 0))), ((p3 72), .inl (cI, 9216, .inl (fun _ => 0))), ((p3 14), .inl (cI, 2, .inl (fun _ => 0))), ((p3 18), .inl (cI, 2, .inl (fun _ => 0)))] := hD
      refine lv_if_ne (tgt := 21) hx hb dX7_most_16 (by decide) (fun q9 => absurd q9 (by decide +kernel)) (fun _ => ?_)
      refine lv_iconst (v := (-1)) hx hb dX7_most_19 (by decide +kernel) ?_
      exact k_ri B hP hD hS dX7_most_20 (19, (fun _ => 0)) [0, 1, 2, 3, 4, 5] rfl rfl rfl (Nat.le_of_ble_eq_true rfl) (Nat.le_of_ble_eq_true rfl) ⟨c_1, c_67, c_68, rfl⟩
    · obtain ⟨c_69, c_70, rfl⟩ : (0 ≤ p2.toInt) ∧ (p2.toInt ≤ 3) ∧ r_64 = 1 := hw
      have hP : va_P (dC, dI) vwCl [(p0, .inr (7, oM p3 i7 j7)), ((p3 49), .inl (cI, 22, .inl (fun _ => 0))), ((p3 50), .inl (cI, 22, .inl (fun _ => 0))), ((p3 72), .inl (cI, 9216, .inl (fun _ => 0))), ((p3 14), .inl (cI, 2, .inl (fun _ => 0))), ((p3 18), .inl (cI, 2, .inl (fun _ => 0)))] H := hP
      have hD : va_D A [(p0, .inr (7, oM p3 i7 j7)), ((p3 49), .inl (cI, 22, .inl (fun _ => 0))), ((p3 50), .inl (cI, 22, .inl (fun _ => 0))), ((p3 72), .inl (cI, 9216, .inl (fun _ => 0))), ((p3 14), .inl (cI, 2, .inl (fun _ => 0))), ((p3 18), .inl (cI, 2, .inl (fun _ => 0)))] := hD
      refine lv_if_ne (tgt := 21) hx hb dX7_most_16 (by decide) (fun _ => ?_) (fun q9 => absurd q9 (by decide +kernel))
      refine lv_aload_n hx hb dX7_most_21 rfl (lv_at hl 0 rfl) ?_
      refine k_cv (wc := [(p0, .inr (7, oM p3 i7 j7)), ((p3 49), .inl (cI, 22, .inl (fun _ => 0))), ((p3 50), .inl (cI, 22, .inl (fun _ => 0))), ((p3 72), .inl (cI, 9216, .inl (fun _ => 0))), ((p3 14), .inl (cI, 2, .inl (fun _ => 0))), ((p3 18), .inl (cI, 2, .inl (fun _ => 0)))]) (wr := []) (fun hPc hDc hFc => va_runV (As := []) (rest := []) ⟨hx, hb, hml, hown, hts⟩ (c_X7_climbs_v0 l dC dI cI cJ cZ cM p0 p3 H.size) (cwV 0 hts gX7_most_X7_climbs rfl rfl rfl (by decide +kernel) ⟨(Nat.le_of_ble_eq_true rfl), (Nat.le_of_ble_eq_true rfl)⟩) (k_pV hPc hDc hK hN hC hS hFc hP (q0 := 0) (ci := 7) rfl rfl) rfl rfl hl.1 rfl (lv_room (Nat.le_of_ble_eq_true rfl)) dX7_most_22 ⟨(Nat.le_of_ble_eq_true rfl), (Nat.le_of_ble_eq_true rfl)⟩) hP hD hS hA [0, 1, 2, 3, 4, 5] [] rfl rfl rfl rfl (by decide) (fun _ => rfl) 0 0 rfl rfl (fun u_72 H locs hw hP hD hS => ?_)
      have hP : va_P (dC, dI) vwCl [(p0, .inr (7, oM p3 i7 j7)), ((p3 49), .inl (cI, 22, .inl (fun _ => 0))), ((p3 50), .inl (cI, 22, .inl (fun _ => 0))), ((p3 72), .inl (cI, 9216, .inl (upd (fun _ => (-1)) 0 0))), ((p3 14), .inl (cI, 2, .inl (fun _ => 0))), ((p3 18), .inl (cI, 2, .inl (fun _ => 0)))] H := hP
      have hD : va_D A [(p0, .inr (7, oM p3 i7 j7)), ((p3 49), .inl (cI, 22, .inl (fun _ => 0))), ((p3 50), .inl (cI, 22, .inl (fun _ => 0))), ((p3 72), .inl (cI, 9216, .inl (upd (fun _ => (-1)) 0 0))), ((p3 14), .inl (cI, 2, .inl (fun _ => 0))), ((p3 18), .inl (cI, 2, .inl (fun _ => 0)))] := hD
      refine lv_aload_n hx hb dX7_most_25 rfl (lv_at hl 0 rfl) ?_
      refine k_ci (wc := [(p0, .inr (7, oM p3 i7 j7)), ((p3 14), .inl (cI, 2, .inl (fun _ => 0)))]) (wr := [((p3 49), .inl (cI, 22, .inl (fun _ => 0))), ((p3 50), .inl (cI, 22, .inl (fun _ => 0))), ((p3 72), .inl (cI, 9216, .inl (upd (fun _ => (-1)) 0 0))), ((p3 18), .inl (cI, 2, .inl (fun _ => 0)))]) (fun hPc hDc hFc => va_runV (As := []) (rest := []) ⟨hx, hb, hml, hown, hts⟩ (c_X7_briefOnes_v2 l dC dI cI cJ cZ cM p0 p3 H.size) (cwV 0 hts gX7_most_X7_briefOnes rfl rfl rfl (by decide +kernel) ⟨(Nat.le_of_ble_eq_true rfl), (Nat.le_of_ble_eq_true rfl)⟩) (k_pV hPc hDc hK hN hC hS hFc hP (q0 := 0) (ci := 7) rfl rfl) rfl rfl hl.1 rfl (lv_room (Nat.le_of_ble_eq_true rfl)) dX7_most_26 ⟨(Nat.le_of_ble_eq_true rfl), (Nat.le_of_ble_eq_true rfl)⟩) hP hD hS hA [0, 4] [1, 2, 3, 5] rfl rfl rfl rfl (by decide) (fun _ => rfl) 0 0 rfl rfl (fun r_73 u_74 H locs hw hP hD hS => ?_)
      obtain rfl : r_73 = 0 := hw
      have hP : va_P (dC, dI) vwCl [((p3 49), .inl (cI, 22, .inl (fun _ => 0))), ((p3 50), .inl (cI, 22, .inl (fun _ => 0))), ((p3 72), .inl (cI, 9216, .inl (upd (fun _ => (-1)) 0 0))), ((p3 18), .inl (cI, 2, .inl (fun _ => 0))), (p0, .inr (7, oM p3 i7 j7)), ((p3 14), .inl (cI, 2, .inl (fun _ => 0)))] H := hP
      have hD : va_D A [((p3 49), .inl (cI, 22, .inl (fun _ => 0))), ((p3 50), .inl (cI, 22, .inl (fun _ => 0))), ((p3 72), .inl (cI, 9216, .inl (upd (fun _ => (-1)) 0 0))), ((p3 18), .inl (cI, 2, .inl (fun _ => 0))), (p0, .inr (7, oM p3 i7 j7)), ((p3 14), .inl (cI, 2, .inl (fun _ => 0)))] := hD
      refine lv_iconst (v := (-1)) hx hb dX7_most_29 (by decide +kernel) ?_
      refine lv_ixor hx hb dX7_most_30 ?_
      refine k_int (v := (-1)) (by decide +kernel) ?_
      refine lv_istore_n (lv' := [(3, .int (-1)), (0, .ref p0), (1, .int 3), (2, .int p2)]) hx hb dX7_most_31 rfl hl (by decide) rfl (fun ls hl => ?_)
      refine lv_aload_n hx hb dX7_most_32 rfl (lv_at hl 1 rfl) ?_
      refine lv_iconst (v := (-1)) hx hb dX7_most_33 (by decide +kernel) ?_
      refine k_put (D := (dC, dI)) (ci := 7) (v := .int (-1)) (C := RX7) (T := TX7) (N := 92) (ws' := [((p3 49), .inl (cI, 22, .inl (fun _ => 0))), ((p3 50), .inl (cI, 22, .inl (fun _ => 0))), ((p3 72), .inl (cI, 9216, .inl (upd (fun _ => (-1)) 0 0))), ((p3 18), .inl (cI, 2, .inl (fun _ => 0))), (p0, .inr (7, oM p3 (upd i7 75 (-1)) j7)), ((p3 14), .inl (cI, 2, .inl (fun _ => 0)))]) hx hb hts hinX7 tyX7 tyX7_ok nmX7 hown hK hP hD hS 4 rfl rfl 75 (by decide) w_0 rfl rfl rfl rfl (Nat.le_of_ble_eq_true rfl) rfl dX7_most_34 (fun H locs hP hD hS => ?_)
      refine lv_iconst (v := (-1)) hx hb dX7_most_37 (by decide +kernel) ?_
      refine lv_istore (lv' := [(4, .int (-1)), (3, .int (-1)), (0, .ref p0), (1, .int 3), (2, .int p2)]) hx hb dX7_most_38 hl (by decide) rfl (fun ls hl => ?_)
      refine lv_iconst (v := 0) hx hb dX7_most_40 (by decide +kernel) ?_
      refine lv_istore (lv' := [(5, .int 0), (4, .int (-1)), (3, .int (-1)), (0, .ref p0), (1, .int 3), (2, .int p2)]) hx hb dX7_most_41 hl (by decide) rfl (fun ls hl => ?_)
      refine lv_iload hx hb dX7_most_43 (lv_at hl 0 rfl) ?_
      refine lv_iload_n hx hb dX7_most_45 rfl (lv_at hl 4 rfl) ?_
      refine lv_icmp_gt (tgt := 166) hx hb dX7_most_46 (by decide) (fun q9 => absurd q9 (by decide +kernel)) (fun _ => ?_)
      refine lv_iconst (v := 0) hx hb dX7_most_49 (by decide +kernel) ?_
      refine lv_istore (lv' := [(6, .int 0), (5, .int 0), (4, .int (-1)), (3, .int (-1)), (0, .ref p0), (1, .int 3), (2, .int p2)]) hx hb dX7_most_50 hl (by decide) rfl (fun ls hl => ?_)
      refine lv_iload hx hb dX7_most_52 (lv_at hl 0 rfl) ?_
      refine lv_iconst (v := 1) hx hb dX7_most_54 (by decide +kernel) ?_
      refine lv_aload_n hx hb dX7_most_55 rfl (lv_at hl 4 rfl) ?_
      refine k_get (D := (dC, dI)) (ci := 7) (v := .ref (p3 14)) (C := RX7) (T := TX7) (N := 92) hx hb hts hinX7 hown hK hP 4 rfl rfl 14 (by decide) w_1 rfl rfl dX7_most_56 ?_
      refine lv_aload_n hx hb dX7_most_59 rfl (lv_at hl 4 rfl) ?_
      refine k_get (D := (dC, dI)) (ci := 7) (v := .int 0) (C := RX7) (T := TX7) (N := 92) hx hb hts hinX7 hown hK hP 4 rfl rfl 13 (by decide) w_2 rfl rfl dX7_most_60 ?_
      refine k_iald (v := 0) hx hb hK hP 5 0 0 rfl rfl rfl (Nat.le_of_ble_eq_true rfl) (Nat.le_of_ble_eq_true rfl) rfl dX7_most_63 ?_
      refine lv_ishl hx hb dX7_most_64 ?_
      refine k_int (v := 1) (by decide +kernel) ?_
      refine lv_icmp_ge (tgt := 160) hx hb dX7_most_65 (by decide) (fun q9 => absurd q9 (by decide +kernel)) (fun _ => ?_)
      refine lv_aload_n hx hb dX7_most_68 rfl (lv_at hl 4 rfl) ?_
      refine k_get (D := (dC, dI)) (ci := 7) (v := .ref (p3 72)) (C := RX7) (T := TX7) (N := 92) hx hb hts hinX7 hown hK hP 4 rfl rfl 72 (by decide) w_3 rfl rfl dX7_most_69 ?_
      refine lv_sipush (v := 1024) hx hb dX7_most_72 (by decide +kernel) ?_
      refine lv_iload hx hb dX7_most_75 (lv_at hl 1 rfl) ?_
      refine lv_imul hx hb dX7_most_77 ?_
      refine k_int (v := 0) (by decide +kernel) ?_
      refine lv_iload hx hb dX7_most_78 (lv_at hl 0 rfl) ?_
      refine lv_iadd hx hb dX7_most_80 ?_
      refine k_int (v := 0) (by decide +kernel) ?_
      refine k_iald (v := 0) hx hb hK hP 2 0 0 rfl rfl rfl (Nat.le_of_ble_eq_true rfl) (Nat.le_of_ble_eq_true rfl) rfl dX7_most_81 ?_
      refine lv_istore (lv' := [(7, .int 0), (6, .int 0), (5, .int 0), (4, .int (-1)), (3, .int (-1)), (0, .ref p0), (1, .int 3), (2, .int p2)]) hx hb dX7_most_82 hl (by decide) rfl (fun ls hl => ?_)
      refine lv_iload hx hb dX7_most_84 (lv_at hl 0 rfl) ?_
      refine lv_iconst (v := (-1)) hx hb dX7_most_86 (by decide +kernel) ?_
      refine lv_icmp_ne (tgt := 93) hx hb dX7_most_87 (by decide) (fun _ => ?_) (fun q9 => absurd q9 (by decide +kernel))
      refine lv_aload_n hx hb dX7_most_93 rfl (lv_at hl 5 rfl) ?_
      refine lv_iload hx hb dX7_most_94 (lv_at hl 1 rfl) ?_
      refine lv_iload_n hx hb dX7_most_96 rfl (lv_at hl 4 rfl) ?_
      refine lv_iand hx hb dX7_most_97 ?_
      refine k_int (v := 0) (by decide +kernel) ?_
      refine k_ci (wc := [(p0, .inr (7, oM p3 (upd i7 75 (-1)) j7)), ((p3 14), .inl (cI, 2, .inl (fun _ => 0)))]) (wr := [((p3 49), .inl (cI, 22, .inl (fun _ => 0))), ((p3 50), .inl (cI, 22, .inl (fun _ => 0))), ((p3 72), .inl (cI, 9216, .inl (upd (fun _ => (-1)) 0 0))), ((p3 18), .inl (cI, 2, .inl (fun _ => 0)))]) (fun hPc hDc hFc => va_runV (As := [.int 0]) (rest := []) ⟨hx, hb, hml, hown, hts⟩ (c_X7_worthOf_v1 l dC dI cI cJ cZ cM p0 p3 H.size) (cwV 1 hts gX7_most_X7_worthOf rfl rfl rfl (by decide +kernel) ⟨(Nat.le_of_ble_eq_true rfl), (Nat.le_of_ble_eq_true rfl)⟩) (k_pV hPc hDc hK hN hC hS hFc hP (q0 := 4) (ci := 7) rfl rfl) rfl rfl hl.1 rfl (lv_room (Nat.le_of_ble_eq_true rfl)) dX7_most_98 ⟨(Nat.le_of_ble_eq_true rfl), (Nat.le_of_ble_eq_true rfl)⟩) hP hD hS hA [4, 5] [0, 1, 2, 3] rfl rfl rfl rfl (by decide) (fun _ => rfl) 0 0 rfl rfl (fun r_75 u_76 H locs hw hP hD hS => ?_)
      obtain rfl : r_75 = 0 := hw
      have hP : va_P (dC, dI) vwCl [((p3 49), .inl (cI, 22, .inl (fun _ => 0))), ((p3 50), .inl (cI, 22, .inl (fun _ => 0))), ((p3 72), .inl (cI, 9216, .inl (upd (fun _ => (-1)) 0 0))), ((p3 18), .inl (cI, 2, .inl (fun _ => 0))), (p0, .inr (7, oM p3 (upd i7 75 (-1)) j7)), ((p3 14), .inl (cI, 2, .inl (fun _ => 0)))] H := hP
      have hD : va_D A [((p3 49), .inl (cI, 22, .inl (fun _ => 0))), ((p3 50), .inl (cI, 22, .inl (fun _ => 0))), ((p3 72), .inl (cI, 9216, .inl (upd (fun _ => (-1)) 0 0))), ((p3 18), .inl (cI, 2, .inl (fun _ => 0))), (p0, .inr (7, oM p3 (upd i7 75 (-1)) j7)), ((p3 14), .inl (cI, 2, .inl (fun _ => 0)))] := hD
      refine lv_istore (lv' := [(8, .int 0), (7, .int 0), (6, .int 0), (5, .int 0), (4, .int (-1)), (3, .int (-1)), (0, .ref p0), (1, .int 3), (2, .int p2)]) hx hb dX7_most_101 hl (by decide) rfl (fun ls hl => ?_)
      refine lv_iload hx hb dX7_most_103 (lv_at hl 0 rfl) ?_
      refine lv_iload hx hb dX7_most_105 (lv_at hl 4 rfl) ?_
      refine lv_icmp_lt (tgt := 154) hx hb dX7_most_107 (by decide) (fun q9 => absurd q9 (by decide +kernel)) (fun _ => ?_)
      refine lv_iload hx hb dX7_most_110 (lv_at hl 0 rfl) ?_
      refine lv_iload hx hb dX7_most_112 (lv_at hl 4 rfl) ?_
      refine lv_icmp_ne (tgt := 138) hx hb dX7_most_114 (by decide) (fun _ => ?_) (fun q9 => absurd q9 (by decide +kernel))
      refine lv_iload hx hb dX7_most_138 (lv_at hl 0 rfl) ?_
      refine lv_istore (lv' := [(4, .int 0), (8, .int 0), (7, .int 0), (6, .int 0), (5, .int 0), (3, .int (-1)), (0, .ref p0), (1, .int 3), (2, .int p2)]) hx hb dX7_most_140 hl (by decide) rfl (fun ls hl => ?_)
      refine lv_aload_n hx hb dX7_most_142 rfl (lv_at hl 6 rfl) ?_
      refine lv_iload hx hb dX7_most_143 (lv_at hl 4 rfl) ?_
      refine k_put (D := (dC, dI)) (ci := 7) (v := .int 0) (C := RX7) (T := TX7) (N := 92) (ws' := [((p3 49), .inl (cI, 22, .inl (fun _ => 0))), ((p3 50), .inl (cI, 22, .inl (fun _ => 0))), ((p3 72), .inl (cI, 9216, .inl (upd (fun _ => (-1)) 0 0))), ((p3 18), .inl (cI, 2, .inl (fun _ => 0))), (p0, .inr (7, oM p3 (upd i7 75 0) j7)), ((p3 14), .inl (cI, 2, .inl (fun _ => 0)))]) hx hb hts hinX7 tyX7 tyX7_ok nmX7 hown hK hP hD hS 4 rfl rfl 75 (by decide) w_0 rfl rfl rfl rfl (Nat.le_of_ble_eq_true rfl) rfl dX7_most_145 (fun H locs hP hD hS => ?_)
      refine lv_aload_n hx hb dX7_most_148 rfl (lv_at hl 6 rfl) ?_
      refine lv_iload hx hb dX7_most_149 (lv_at hl 3 rfl) ?_
      refine k_put (D := (dC, dI)) (ci := 7) (v := .int 0) (C := RX7) (T := TX7) (N := 92) (ws' := [((p3 49), .inl (cI, 22, .inl (fun _ => 0))), ((p3 50), .inl (cI, 22, .inl (fun _ => 0))), ((p3 72), .inl (cI, 9216, .inl (upd (fun _ => (-1)) 0 0))), ((p3 18), .inl (cI, 2, .inl (fun _ => 0))), (p0, .inr (7, oM p3 (upd (upd i7 75 0) 76 0) j7)), ((p3 14), .inl (cI, 2, .inl (fun _ => 0)))]) hx hb hts hinX7 tyX7 tyX7_ok nmX7 hown hK hP hD hS 4 rfl rfl 76 (by decide) w_4 rfl rfl rfl rfl (Nat.le_of_ble_eq_true rfl) rfl dX7_most_151 (fun H locs hP hD hS => ?_)
      refine lv_iinc (v := 1) (lv' := [(6, .int 1), (4, .int 0), (8, .int 0), (7, .int 0), (5, .int 0), (3, .int (-1)), (0, .ref p0), (1, .int 3), (2, .int p2)]) hx hb dX7_most_154 hl (k := 3) rfl (by decide +kernel) (by decide) rfl (fun ls hl => ?_)
      refine lv_goto (tgt := 52) hx hb dX7_most_157 (by decide) ?_
      refine lv_iload hx hb dX7_most_52 (lv_at hl 0 rfl) ?_
      refine lv_iconst (v := 1) hx hb dX7_most_54 (by decide +kernel) ?_
      refine lv_aload_n hx hb dX7_most_55 rfl (lv_at hl 6 rfl) ?_
      refine k_get (D := (dC, dI)) (ci := 7) (v := .ref (p3 14)) (C := RX7) (T := TX7) (N := 92) hx hb hts hinX7 hown hK hP 4 rfl rfl 14 (by decide) w_1 rfl rfl dX7_most_56 ?_
      refine lv_aload_n hx hb dX7_most_59 rfl (lv_at hl 6 rfl) ?_
      refine k_get (D := (dC, dI)) (ci := 7) (v := .int 0) (C := RX7) (T := TX7) (N := 92) hx hb hts hinX7 hown hK hP 4 rfl rfl 13 (by decide) w_2 rfl rfl dX7_most_60 ?_
      refine k_iald (v := 0) hx hb hK hP 5 0 0 rfl rfl rfl (Nat.le_of_ble_eq_true rfl) (Nat.le_of_ble_eq_true rfl) rfl dX7_most_63 ?_
      refine lv_ishl hx hb dX7_most_64 ?_
      refine k_int (v := 1) (by decide +kernel) ?_
      refine lv_icmp_ge (tgt := 160) hx hb dX7_most_65 (by decide) (fun _ => ?_) (fun q9 => absurd q9 (by decide +kernel))
      refine lv_iinc (v := 1) (lv' := [(5, .int 1), (6, .int 1), (4, .int 0), (8, .int 0), (7, .int 0), (3, .int (-1)), (0, .ref p0), (1, .int 3), (2, .int p2)]) hx hb dX7_most_160 hl (k := 4) rfl (by decide +kernel) (by decide) rfl (fun ls hl => ?_)
      refine lv_goto (tgt := 43) hx hb dX7_most_163 (by decide) ?_
      refine lv_iload hx hb dX7_most_43 (lv_at hl 0 rfl) ?_
      refine lv_iload_n hx hb dX7_most_45 rfl (lv_at hl 7 rfl) ?_
      refine lv_icmp_gt (tgt := 166) hx hb dX7_most_46 (by decide) (fun q9 => absurd q9 (by decide +kernel)) (fun _ => ?_)
      refine lv_iconst (v := 0) hx hb dX7_most_49 (by decide +kernel) ?_
      refine lv_istore (lv' := [(6, .int 0), (5, .int 1), (4, .int 0), (8, .int 0), (7, .int 0), (3, .int (-1)), (0, .ref p0), (1, .int 3), (2, .int p2)]) hx hb dX7_most_50 hl (by decide) rfl (fun ls hl => ?_)
      refine lv_iload hx hb dX7_most_52 (lv_at hl 0 rfl) ?_
      refine lv_iconst (v := 1) hx hb dX7_most_54 (by decide +kernel) ?_
      refine lv_aload_n hx hb dX7_most_55 rfl (lv_at hl 6 rfl) ?_
      refine k_get (D := (dC, dI)) (ci := 7) (v := .ref (p3 14)) (C := RX7) (T := TX7) (N := 92) hx hb hts hinX7 hown hK hP 4 rfl rfl 14 (by decide) w_1 rfl rfl dX7_most_56 ?_
      refine lv_aload_n hx hb dX7_most_59 rfl (lv_at hl 6 rfl) ?_
      refine k_get (D := (dC, dI)) (ci := 7) (v := .int 0) (C := RX7) (T := TX7) (N := 92) hx hb hts hinX7 hown hK hP 4 rfl rfl 13 (by decide) w_2 rfl rfl dX7_most_60 ?_
      refine k_iald (v := 0) hx hb hK hP 5 0 0 rfl rfl rfl (Nat.le_of_ble_eq_true rfl) (Nat.le_of_ble_eq_true rfl) rfl dX7_most_63 ?_
      refine lv_ishl hx hb dX7_most_64 ?_
      refine k_int (v := 1) (by decide +kernel) ?_
      refine lv_icmp_ge (tgt := 160) hx hb dX7_most_65 (by decide) (fun q9 => absurd q9 (by decide +kernel)) (fun _ => ?_)
      refine lv_aload_n hx hb dX7_most_68 rfl (lv_at hl 6 rfl) ?_
      refine k_get (D := (dC, dI)) (ci := 7) (v := .ref (p3 72)) (C := RX7) (T := TX7) (N := 92) hx hb hts hinX7 hown hK hP 4 rfl rfl 72 (by decide) w_3 rfl rfl dX7_most_69 ?_
      refine lv_sipush (v := 1024) hx hb dX7_most_72 (by decide +kernel) ?_
      refine lv_iload hx hb dX7_most_75 (lv_at hl 1 rfl) ?_
      refine lv_imul hx hb dX7_most_77 ?_
      refine k_int (v := 1024) (by decide +kernel) ?_
      refine lv_iload hx hb dX7_most_78 (lv_at hl 0 rfl) ?_
      refine lv_iadd hx hb dX7_most_80 ?_
      refine k_int (v := 1024) (by decide +kernel) ?_
      refine k_iald (v := (-1)) hx hb hK hP 2 0 1024 rfl rfl rfl (Nat.le_of_ble_eq_true rfl) (Nat.le_of_ble_eq_true rfl) rfl dX7_most_81 ?_
      refine lv_istore (lv' := [(7, .int (-1)), (6, .int 0), (5, .int 1), (4, .int 0), (8, .int 0), (3, .int (-1)), (0, .ref p0), (1, .int 3), (2, .int p2)]) hx hb dX7_most_82 hl (by decide) rfl (fun ls hl => ?_)
      refine lv_iload hx hb dX7_most_84 (lv_at hl 0 rfl) ?_
      refine lv_iconst (v := (-1)) hx hb dX7_most_86 (by decide +kernel) ?_
      refine lv_icmp_ne (tgt := 93) hx hb dX7_most_87 (by decide) (fun q9 => absurd q9 (by decide +kernel)) (fun _ => ?_)
      refine lv_goto (tgt := 154) hx hb dX7_most_90 (by decide) ?_
      refine lv_iinc (v := 1) (lv' := [(6, .int 1), (7, .int (-1)), (5, .int 1), (4, .int 0), (8, .int 0), (3, .int (-1)), (0, .ref p0), (1, .int 3), (2, .int p2)]) hx hb dX7_most_154 hl (k := 1) rfl (by decide +kernel) (by decide) rfl (fun ls hl => ?_)
      refine lv_goto (tgt := 52) hx hb dX7_most_157 (by decide) ?_
      refine lv_iload hx hb dX7_most_52 (lv_at hl 0 rfl) ?_
      refine lv_iconst (v := 1) hx hb dX7_most_54 (by decide +kernel) ?_
      refine lv_aload_n hx hb dX7_most_55 rfl (lv_at hl 6 rfl) ?_
      refine k_get (D := (dC, dI)) (ci := 7) (v := .ref (p3 14)) (C := RX7) (T := TX7) (N := 92) hx hb hts hinX7 hown hK hP 4 rfl rfl 14 (by decide) w_1 rfl rfl dX7_most_56 ?_
      refine lv_aload_n hx hb dX7_most_59 rfl (lv_at hl 6 rfl) ?_
      refine k_get (D := (dC, dI)) (ci := 7) (v := .int 0) (C := RX7) (T := TX7) (N := 92) hx hb hts hinX7 hown hK hP 4 rfl rfl 13 (by decide) w_2 rfl rfl dX7_most_60 ?_
      refine k_iald (v := 0) hx hb hK hP 5 0 0 rfl rfl rfl (Nat.le_of_ble_eq_true rfl) (Nat.le_of_ble_eq_true rfl) rfl dX7_most_63 ?_
      refine lv_ishl hx hb dX7_most_64 ?_
      refine k_int (v := 1) (by decide +kernel) ?_
      refine lv_icmp_ge (tgt := 160) hx hb dX7_most_65 (by decide) (fun _ => ?_) (fun q9 => absurd q9 (by decide +kernel))
      refine lv_iinc (v := 2) (lv' := [(5, .int 2), (6, .int 1), (7, .int (-1)), (4, .int 0), (8, .int 0), (3, .int (-1)), (0, .ref p0), (1, .int 3), (2, .int p2)]) hx hb dX7_most_160 hl (k := 2) rfl (by decide +kernel) (by decide) rfl (fun ls hl => ?_)
      refine lv_goto (tgt := 43) hx hb dX7_most_163 (by decide) ?_
      refine lv_iload hx hb dX7_most_43 (lv_at hl 0 rfl) ?_
      refine lv_iload_n hx hb dX7_most_45 rfl (lv_at hl 7 rfl) ?_
      refine lv_icmp_gt (tgt := 166) hx hb dX7_most_46 (by decide) (fun q9 => absurd q9 (by decide +kernel)) (fun _ => ?_)
      refine lv_iconst (v := 0) hx hb dX7_most_49 (by decide +kernel) ?_
      refine lv_istore (lv' := [(6, .int 0), (5, .int 2), (7, .int (-1)), (4, .int 0), (8, .int 0), (3, .int (-1)), (0, .ref p0), (1, .int 3), (2, .int p2)]) hx hb dX7_most_50 hl (by decide) rfl (fun ls hl => ?_)
      refine lv_iload hx hb dX7_most_52 (lv_at hl 0 rfl) ?_
      refine lv_iconst (v := 1) hx hb dX7_most_54 (by decide +kernel) ?_
      refine lv_aload_n hx hb dX7_most_55 rfl (lv_at hl 6 rfl) ?_
      refine k_get (D := (dC, dI)) (ci := 7) (v := .ref (p3 14)) (C := RX7) (T := TX7) (N := 92) hx hb hts hinX7 hown hK hP 4 rfl rfl 14 (by decide) w_1 rfl rfl dX7_most_56 ?_
      refine lv_aload_n hx hb dX7_most_59 rfl (lv_at hl 6 rfl) ?_
      refine k_get (D := (dC, dI)) (ci := 7) (v := .int 0) (C := RX7) (T := TX7) (N := 92) hx hb hts hinX7 hown hK hP 4 rfl rfl 13 (by decide) w_2 rfl rfl dX7_most_60 ?_
      refine k_iald (v := 0) hx hb hK hP 5 0 0 rfl rfl rfl (Nat.le_of_ble_eq_true rfl) (Nat.le_of_ble_eq_true rfl) rfl dX7_most_63 ?_
      refine lv_ishl hx hb dX7_most_64 ?_
      refine k_int (v := 1) (by decide +kernel) ?_
      refine lv_icmp_ge (tgt := 160) hx hb dX7_most_65 (by decide) (fun q9 => absurd q9 (by decide +kernel)) (fun _ => ?_)
      refine lv_aload_n hx hb dX7_most_68 rfl (lv_at hl 6 rfl) ?_
      refine k_get (D := (dC, dI)) (ci := 7) (v := .ref (p3 72)) (C := RX7) (T := TX7) (N := 92) hx hb hts hinX7 hown hK hP 4 rfl rfl 72 (by decide) w_3 rfl rfl dX7_most_69 ?_
      refine lv_sipush (v := 1024) hx hb dX7_most_72 (by decide +kernel) ?_
      refine lv_iload hx hb dX7_most_75 (lv_at hl 1 rfl) ?_
      refine lv_imul hx hb dX7_most_77 ?_
      refine k_int (v := 2048) (by decide +kernel) ?_
      refine lv_iload hx hb dX7_most_78 (lv_at hl 0 rfl) ?_
      refine lv_iadd hx hb dX7_most_80 ?_
      refine k_int (v := 2048) (by decide +kernel) ?_
      refine k_iald (v := (-1)) hx hb hK hP 2 0 2048 rfl rfl rfl (Nat.le_of_ble_eq_true rfl) (Nat.le_of_ble_eq_true rfl) rfl dX7_most_81 ?_
      refine lv_istore (lv' := [(7, .int (-1)), (6, .int 0), (5, .int 2), (4, .int 0), (8, .int 0), (3, .int (-1)), (0, .ref p0), (1, .int 3), (2, .int p2)]) hx hb dX7_most_82 hl (by decide) rfl (fun ls hl => ?_)
      refine lv_iload hx hb dX7_most_84 (lv_at hl 0 rfl) ?_
      refine lv_iconst (v := (-1)) hx hb dX7_most_86 (by decide +kernel) ?_
      refine lv_icmp_ne (tgt := 93) hx hb dX7_most_87 (by decide) (fun q9 => absurd q9 (by decide +kernel)) (fun _ => ?_)
      refine lv_goto (tgt := 154) hx hb dX7_most_90 (by decide) ?_
      refine lv_iinc (v := 1) (lv' := [(6, .int 1), (7, .int (-1)), (5, .int 2), (4, .int 0), (8, .int 0), (3, .int (-1)), (0, .ref p0), (1, .int 3), (2, .int p2)]) hx hb dX7_most_154 hl (k := 1) rfl (by decide +kernel) (by decide) rfl (fun ls hl => ?_)
      refine lv_goto (tgt := 52) hx hb dX7_most_157 (by decide) ?_
      refine lv_iload hx hb dX7_most_52 (lv_at hl 0 rfl) ?_
      refine lv_iconst (v := 1) hx hb dX7_most_54 (by decide +kernel) ?_
      refine lv_aload_n hx hb dX7_most_55 rfl (lv_at hl 6 rfl) ?_
      refine k_get (D := (dC, dI)) (ci := 7) (v := .ref (p3 14)) (C := RX7) (T := TX7) (N := 92) hx hb hts hinX7 hown hK hP 4 rfl rfl 14 (by decide) w_1 rfl rfl dX7_most_56 ?_
      refine lv_aload_n hx hb dX7_most_59 rfl (lv_at hl 6 rfl) ?_
      refine k_get (D := (dC, dI)) (ci := 7) (v := .int 0) (C := RX7) (T := TX7) (N := 92) hx hb hts hinX7 hown hK hP 4 rfl rfl 13 (by decide) w_2 rfl rfl dX7_most_60 ?_
      refine k_iald (v := 0) hx hb hK hP 5 0 0 rfl rfl rfl (Nat.le_of_ble_eq_true rfl) (Nat.le_of_ble_eq_true rfl) rfl dX7_most_63 ?_
      refine lv_ishl hx hb dX7_most_64 ?_
      refine k_int (v := 1) (by decide +kernel) ?_
      refine lv_icmp_ge (tgt := 160) hx hb dX7_most_65 (by decide) (fun _ => ?_) (fun q9 => absurd q9 (by decide +kernel))
      refine lv_iinc (v := 3) (lv' := [(5, .int 3), (6, .int 1), (7, .int (-1)), (4, .int 0), (8, .int 0), (3, .int (-1)), (0, .ref p0), (1, .int 3), (2, .int p2)]) hx hb dX7_most_160 hl (k := 2) rfl (by decide +kernel) (by decide) rfl (fun ls hl => ?_)
      refine lv_goto (tgt := 43) hx hb dX7_most_163 (by decide) ?_
      refine lv_iload hx hb dX7_most_43 (lv_at hl 0 rfl) ?_
      refine lv_iload_n hx hb dX7_most_45 rfl (lv_at hl 7 rfl) ?_
      refine lv_icmp_gt (tgt := 166) hx hb dX7_most_46 (by decide) (fun q9 => absurd q9 (by decide +kernel)) (fun _ => ?_)
      refine lv_iconst (v := 0) hx hb dX7_most_49 (by decide +kernel) ?_
      refine lv_istore (lv' := [(6, .int 0), (5, .int 3), (7, .int (-1)), (4, .int 0), (8, .int 0), (3, .int (-1)), (0, .ref p0), (1, .int 3), (2, .int p2)]) hx hb dX7_most_50 hl (by decide) rfl (fun ls hl => ?_)
      refine lv_iload hx hb dX7_most_52 (lv_at hl 0 rfl) ?_
      refine lv_iconst (v := 1) hx hb dX7_most_54 (by decide +kernel) ?_
      refine lv_aload_n hx hb dX7_most_55 rfl (lv_at hl 6 rfl) ?_
      refine k_get (D := (dC, dI)) (ci := 7) (v := .ref (p3 14)) (C := RX7) (T := TX7) (N := 92) hx hb hts hinX7 hown hK hP 4 rfl rfl 14 (by decide) w_1 rfl rfl dX7_most_56 ?_
      refine lv_aload_n hx hb dX7_most_59 rfl (lv_at hl 6 rfl) ?_
      refine k_get (D := (dC, dI)) (ci := 7) (v := .int 0) (C := RX7) (T := TX7) (N := 92) hx hb hts hinX7 hown hK hP 4 rfl rfl 13 (by decide) w_2 rfl rfl dX7_most_60 ?_
      refine k_iald (v := 0) hx hb hK hP 5 0 0 rfl rfl rfl (Nat.le_of_ble_eq_true rfl) (Nat.le_of_ble_eq_true rfl) rfl dX7_most_63 ?_
      refine lv_ishl hx hb dX7_most_64 ?_
      refine k_int (v := 1) (by decide +kernel) ?_
      refine lv_icmp_ge (tgt := 160) hx hb dX7_most_65 (by decide) (fun q9 => absurd q9 (by decide +kernel)) (fun _ => ?_)
      refine lv_aload_n hx hb dX7_most_68 rfl (lv_at hl 6 rfl) ?_
      refine k_get (D := (dC, dI)) (ci := 7) (v := .ref (p3 72)) (C := RX7) (T := TX7) (N := 92) hx hb hts hinX7 hown hK hP 4 rfl rfl 72 (by decide) w_3 rfl rfl dX7_most_69 ?_
      refine lv_sipush (v := 1024) hx hb dX7_most_72 (by decide +kernel) ?_
      refine lv_iload hx hb dX7_most_75 (lv_at hl 1 rfl) ?_
      refine lv_imul hx hb dX7_most_77 ?_
      refine k_int (v := 3072) (by decide +kernel) ?_
      refine lv_iload hx hb dX7_most_78 (lv_at hl 0 rfl) ?_
      refine lv_iadd hx hb dX7_most_80 ?_
      refine k_int (v := 3072) (by decide +kernel) ?_
      refine k_iald (v := (-1)) hx hb hK hP 2 0 3072 rfl rfl rfl (Nat.le_of_ble_eq_true rfl) (Nat.le_of_ble_eq_true rfl) rfl dX7_most_81 ?_
      refine lv_istore (lv' := [(7, .int (-1)), (6, .int 0), (5, .int 3), (4, .int 0), (8, .int 0), (3, .int (-1)), (0, .ref p0), (1, .int 3), (2, .int p2)]) hx hb dX7_most_82 hl (by decide) rfl (fun ls hl => ?_)
      refine lv_iload hx hb dX7_most_84 (lv_at hl 0 rfl) ?_
      refine lv_iconst (v := (-1)) hx hb dX7_most_86 (by decide +kernel) ?_
      refine lv_icmp_ne (tgt := 93) hx hb dX7_most_87 (by decide) (fun q9 => absurd q9 (by decide +kernel)) (fun _ => ?_)
      refine lv_goto (tgt := 154) hx hb dX7_most_90 (by decide) ?_
      refine lv_iinc (v := 1) (lv' := [(6, .int 1), (7, .int (-1)), (5, .int 3), (4, .int 0), (8, .int 0), (3, .int (-1)), (0, .ref p0), (1, .int 3), (2, .int p2)]) hx hb dX7_most_154 hl (k := 1) rfl (by decide +kernel) (by decide) rfl (fun ls hl => ?_)
      refine lv_goto (tgt := 52) hx hb dX7_most_157 (by decide) ?_
      refine lv_iload hx hb dX7_most_52 (lv_at hl 0 rfl) ?_
      refine lv_iconst (v := 1) hx hb dX7_most_54 (by decide +kernel) ?_
      refine lv_aload_n hx hb dX7_most_55 rfl (lv_at hl 6 rfl) ?_
      refine k_get (D := (dC, dI)) (ci := 7) (v := .ref (p3 14)) (C := RX7) (T := TX7) (N := 92) hx hb hts hinX7 hown hK hP 4 rfl rfl 14 (by decide) w_1 rfl rfl dX7_most_56 ?_
      refine lv_aload_n hx hb dX7_most_59 rfl (lv_at hl 6 rfl) ?_
      refine k_get (D := (dC, dI)) (ci := 7) (v := .int 0) (C := RX7) (T := TX7) (N := 92) hx hb hts hinX7 hown hK hP 4 rfl rfl 13 (by decide) w_2 rfl rfl dX7_most_60 ?_
      refine k_iald (v := 0) hx hb hK hP 5 0 0 rfl rfl rfl (Nat.le_of_ble_eq_true rfl) (Nat.le_of_ble_eq_true rfl) rfl dX7_most_63 ?_
      refine lv_ishl hx hb dX7_most_64 ?_
      refine k_int (v := 1) (by decide +kernel) ?_
      refine lv_icmp_ge (tgt := 160) hx hb dX7_most_65 (by decide) (fun _ => ?_) (fun q9 => absurd q9 (by decide +kernel))
      refine lv_iinc (v := 4) (lv' := [(5, .int 4), (6, .int 1), (7, .int (-1)), (4, .int 0), (8, .int 0), (3, .int (-1)), (0, .ref p0), (1, .int 3), (2, .int p2)]) hx hb dX7_most_160 hl (k := 2) rfl (by decide +kernel) (by decide) rfl (fun ls hl => ?_)
      refine lv_goto (tgt := 43) hx hb dX7_most_163 (by decide) ?_
      refine lv_iload hx hb dX7_most_43 (lv_at hl 0 rfl) ?_
      refine lv_iload_n hx hb dX7_most_45 rfl (lv_at hl 7 rfl) ?_
      refine lv_icmp_gt (tgt := 166) hx hb dX7_most_46 (by decide) (fun _ => ?_) (fun q9 => absurd q9 (by decide +kernel))
      refine lv_iload_n hx hb dX7_most_166 rfl (lv_at hl 8 rfl) ?_
      refine lv_if_ne (tgt := 175) hx hb dX7_most_167 (by decide) (fun c_77 => ?_) (fun c_77 => ?_)
      · have c_77 : ¬ p2.toInt = 0 := k_eqF rfl (by decide +kernel) c_77
        refine lv_iload_n hx hb dX7_most_175 rfl (lv_at hl 8 rfl) ?_
        refine lv_iconst (v := 1) hx hb dX7_most_176 (by decide +kernel) ?_
        refine lv_icmp_ne (tgt := 187) hx hb dX7_most_177 (by decide) (fun c_78 => ?_) (fun c_78 => ?_)
        · have c_78 : ¬ p2.toInt = 1 := k_eqF rfl (by decide +kernel) c_78
          refine lv_iload_n hx hb dX7_most_187 rfl (lv_at hl 8 rfl) ?_
          refine lv_iconst (v := 2) hx hb dX7_most_188 (by decide +kernel) ?_
          refine lv_icmp_ne (tgt := 199) hx hb dX7_most_189 (by decide) (fun c_79 => ?_) (fun c_79 => ?_)
          · have c_79 : ¬ p2.toInt = 2 := k_eqF rfl (by decide +kernel) c_79
            refine lv_aload_n hx hb dX7_most_199 rfl (lv_at hl 6 rfl) ?_
            refine k_get (D := (dC, dI)) (ci := 7) (v := .int 0) (C := RX7) (T := TX7) (N := 92) hx hb hts hinX7 hown hK hP 4 rfl rfl 76 (by decide) w_4 rfl rfl dX7_most_200 ?_
            exact k_ri B hP hD hS dX7_most_203 (20, (fun _ => 0)) [4, 0, 1, 2, 5, 3] rfl rfl rfl (Nat.le_of_ble_eq_true rfl) (Nat.le_of_ble_eq_true rfl) ⟨c_1, c_69, c_70, c_77, c_78, c_79, rfl⟩
          · have c_79 : p2.toInt = 2 := k_eqT rfl (by decide +kernel) c_79
            refine lv_aload_n hx hb dX7_most_192 rfl (lv_at hl 6 rfl) ?_
            refine k_ci (wc := [(p0, .inr (7, oM p3 (upd (upd i7 75 0) 76 0) j7)), ((p3 72), .inl (cI, 9216, .inl (upd (fun _ => (-1)) 0 0)))]) (wr := [((p3 49), .inl (cI, 22, .inl (fun _ => 0))), ((p3 50), .inl (cI, 22, .inl (fun _ => 0))), ((p3 18), .inl (cI, 2, .inl (fun _ => 0))), ((p3 14), .inl (cI, 2, .inl (fun _ => 0)))]) (fun hPc hDc hFc => va_runV (As := []) (rest := []) ⟨hx, hb, hml, hown, hts⟩ (c_X7_foundSea_v0 l dC dI cI cJ cZ cM p0 p3 H.size) (cwV 0 hts gX7_most_X7_foundSea rfl rfl rfl (by decide +kernel) ⟨(Nat.le_of_ble_eq_true rfl), (Nat.le_of_ble_eq_true rfl)⟩) (k_pV hPc hDc hK hN hC hS hFc hP (q0 := 4) (ci := 7) rfl rfl) rfl rfl hl.1 rfl (lv_room (Nat.le_of_ble_eq_true rfl)) dX7_most_193 ⟨(Nat.le_of_ble_eq_true rfl), (Nat.le_of_ble_eq_true rfl)⟩) hP hD hS hA [4, 2] [0, 1, 3, 5] rfl rfl rfl rfl (by decide) (fun _ => rfl) 0 0 rfl rfl (fun r_80 u_81 H locs hw hP hD hS => ?_)
            obtain rfl : r_80 = 0 := hw
            have hP : va_P (dC, dI) vwCl [((p3 49), .inl (cI, 22, .inl (fun _ => 0))), ((p3 50), .inl (cI, 22, .inl (fun _ => 0))), ((p3 18), .inl (cI, 2, .inl (fun _ => 0))), ((p3 14), .inl (cI, 2, .inl (fun _ => 0))), (p0, .inr (7, oM p3 (upd (upd i7 75 0) 76 0) j7)), ((p3 72), .inl (cI, 9216, .inl (upd (fun _ => (-1)) 0 0)))] H := hP
            have hD : va_D A [((p3 49), .inl (cI, 22, .inl (fun _ => 0))), ((p3 50), .inl (cI, 22, .inl (fun _ => 0))), ((p3 18), .inl (cI, 2, .inl (fun _ => 0))), ((p3 14), .inl (cI, 2, .inl (fun _ => 0))), (p0, .inr (7, oM p3 (upd (upd i7 75 0) 76 0) j7)), ((p3 72), .inl (cI, 9216, .inl (upd (fun _ => (-1)) 0 0)))] := hD
            refine lv_goto (tgt := 203) hx hb dX7_most_196 (by decide) ?_
            exact k_ri B hP hD hS dX7_most_203 (21, (fun _ => 0)) [4, 0, 1, 5, 3, 2] rfl rfl rfl (Nat.le_of_ble_eq_true rfl) (Nat.le_of_ble_eq_true rfl) ⟨c_1, c_69, c_70, c_77, c_78, c_79, rfl⟩
        · have c_78 : p2.toInt = 1 := k_eqT rfl (by decide +kernel) c_78
          refine lv_aload_n hx hb dX7_most_180 rfl (lv_at hl 6 rfl) ?_
          refine k_get (D := (dC, dI)) (ci := 7) (v := .int 0) (C := RX7) (T := TX7) (N := 92) hx hb hts hinX7 hown hK hP 4 rfl rfl 75 (by decide) w_0 rfl rfl dX7_most_181 ?_
          refine lv_goto (tgt := 203) hx hb dX7_most_184 (by decide) ?_
          exact k_ri B hP hD hS dX7_most_203 (22, (fun _ => 0)) [4, 0, 1, 2, 5, 3] rfl rfl rfl (Nat.le_of_ble_eq_true rfl) (Nat.le_of_ble_eq_true rfl) ⟨c_1, c_69, c_70, c_77, c_78, rfl⟩
      · have c_77 : p2.toInt = 0 := k_eqT rfl (by decide +kernel) c_77
        refine lv_iload hx hb dX7_most_170 (lv_at hl 3 rfl) ?_
        refine lv_goto (tgt := 203) hx hb dX7_most_172 (by decide) ?_
        exact k_ri B hP hD hS dX7_most_203 (23, (fun _ => 0)) [4, 0, 1, 2, 5, 3] rfl rfl rfl (Nat.le_of_ble_eq_true rfl) (Nat.le_of_ble_eq_true rfl) ⟨c_1, c_69, c_70, c_77, rfl⟩
    · exact False.elim hw
  · obtain rfl : p1 = 4 := k_eqL (by decide +kernel) c_1
    refine lv_iload_n hx hb dX7_most_0 rfl (lv_at hl 1 rfl) ?_
    refine lv_iconst (v := 0) hx hb dX7_most_1 (by decide +kernel) ?_
    refine lv_bipush (v := 8) hx hb dX7_most_2 (by decide +kernel) ?_
    refine k_ci (wc := []) (wr := [(p0, .inr (7, oM p3 i7 j7)), ((p3 49), .inl (cI, 22, .inl (fun _ => 0))), ((p3 50), .inl (cI, 22, .inl (fun _ => 0))), ((p3 72), .inl (cI, 9216, .inl (fun _ => 0))), ((p3 14), .inl (cI, 2, .inl (fun _ => 0))), ((p3 18), .inl (cI, 2, .inl (fun _ => 0)))]) (fun hPc hDc hFc => va_runS (As := [.int 4, .int 0, .int 8]) (rest := []) ⟨hx, hb, hml, hown, hts⟩ (c_X7_is_v10 l dC dI cI cJ cZ cM H.size) (va_cwS 3 hts gX7_most_X7_is rfl rfl rfl (by decide +kernel) ⟨(Nat.le_of_ble_eq_true rfl), (Nat.le_of_ble_eq_true rfl)⟩) (k_pS hPc hDc hK hN hC hS hFc) rfl rfl hl.1 rfl (lv_room (Nat.le_of_ble_eq_true rfl)) dX7_most_4 ⟨(Nat.le_of_ble_eq_true rfl), (Nat.le_of_ble_eq_true rfl)⟩) hP hD hS hA [] [0, 1, 2, 3, 4, 5] rfl rfl rfl rfl (by decide) (fun _ => rfl) 0 0 rfl rfl (fun r_82 u_83 H locs hw hP hD hS => ?_)
    obtain rfl : r_82 = 1 := hw
    have hP : va_P (dC, dI) vwCl [(p0, .inr (7, oM p3 i7 j7)), ((p3 49), .inl (cI, 22, .inl (fun _ => 0))), ((p3 50), .inl (cI, 22, .inl (fun _ => 0))), ((p3 72), .inl (cI, 9216, .inl (fun _ => 0))), ((p3 14), .inl (cI, 2, .inl (fun _ => 0))), ((p3 18), .inl (cI, 2, .inl (fun _ => 0)))] H := hP
    have hD : va_D A [(p0, .inr (7, oM p3 i7 j7)), ((p3 49), .inl (cI, 22, .inl (fun _ => 0))), ((p3 50), .inl (cI, 22, .inl (fun _ => 0))), ((p3 72), .inl (cI, 9216, .inl (fun _ => 0))), ((p3 14), .inl (cI, 2, .inl (fun _ => 0))), ((p3 18), .inl (cI, 2, .inl (fun _ => 0)))] := hD
    refine lv_if_eq (tgt := 19) hx hb dX7_most_7 (by decide) (fun q9 => absurd q9 (by decide +kernel)) (fun _ => ?_)
    refine lv_iload_n hx hb dX7_most_10 rfl (lv_at hl 2 rfl) ?_
    refine lv_iconst (v := 0) hx hb dX7_most_11 (by decide +kernel) ?_
    refine lv_iconst (v := 3) hx hb dX7_most_12 (by decide +kernel) ?_
    refine k_ci (wc := []) (wr := [(p0, .inr (7, oM p3 i7 j7)), ((p3 49), .inl (cI, 22, .inl (fun _ => 0))), ((p3 50), .inl (cI, 22, .inl (fun _ => 0))), ((p3 72), .inl (cI, 9216, .inl (fun _ => 0))), ((p3 14), .inl (cI, 2, .inl (fun _ => 0))), ((p3 18), .inl (cI, 2, .inl (fun _ => 0)))]) (fun hPc hDc hFc => va_runS (As := [.int p2, .int 0, .int 3]) (rest := []) ⟨hx, hb, hml, hown, hts⟩ (c_X7_is_v24 l dC dI cI cJ cZ cM p2 H.size) (va_cwS 3 hts gX7_most_X7_is rfl rfl rfl (by decide +kernel) ⟨(Nat.le_of_ble_eq_true rfl), (Nat.le_of_ble_eq_true rfl)⟩) (k_pS hPc hDc hK hN hC hS hFc) rfl rfl hl.1 rfl (lv_room (Nat.le_of_ble_eq_true rfl)) dX7_most_13 ⟨(Nat.le_of_ble_eq_true rfl), (Nat.le_of_ble_eq_true rfl)⟩) hP hD hS hA [] [0, 1, 2, 3, 4, 5] rfl rfl rfl rfl (by decide) (fun _ => rfl) 0 0 rfl rfl (fun r_84 u_85 H locs hw hP hD hS => ?_)
    obtain ⟨k_u_85, u_u_85⟩ := u_85
    rcases k_u_85 with _ | _ | _ | k_u_85
    · obtain ⟨c_86, rfl⟩ : (p2.toInt < 0) ∧ r_84 = 0 := hw
      have hP : va_P (dC, dI) vwCl [(p0, .inr (7, oM p3 i7 j7)), ((p3 49), .inl (cI, 22, .inl (fun _ => 0))), ((p3 50), .inl (cI, 22, .inl (fun _ => 0))), ((p3 72), .inl (cI, 9216, .inl (fun _ => 0))), ((p3 14), .inl (cI, 2, .inl (fun _ => 0))), ((p3 18), .inl (cI, 2, .inl (fun _ => 0)))] H := hP
      have hD : va_D A [(p0, .inr (7, oM p3 i7 j7)), ((p3 49), .inl (cI, 22, .inl (fun _ => 0))), ((p3 50), .inl (cI, 22, .inl (fun _ => 0))), ((p3 72), .inl (cI, 9216, .inl (fun _ => 0))), ((p3 14), .inl (cI, 2, .inl (fun _ => 0))), ((p3 18), .inl (cI, 2, .inl (fun _ => 0)))] := hD
      refine lv_if_ne (tgt := 21) hx hb dX7_most_16 (by decide) (fun q9 => absurd q9 (by decide +kernel)) (fun _ => ?_)
      refine lv_iconst (v := (-1)) hx hb dX7_most_19 (by decide +kernel) ?_
      exact k_ri B hP hD hS dX7_most_20 (24, (fun _ => 0)) [0, 1, 2, 3, 4, 5] rfl rfl rfl (Nat.le_of_ble_eq_true rfl) (Nat.le_of_ble_eq_true rfl) ⟨c_1, c_86, rfl⟩
    · obtain ⟨c_87, c_88, rfl⟩ : (0 ≤ p2.toInt) ∧ (3 < p2.toInt) ∧ r_84 = 0 := hw
      have hP : va_P (dC, dI) vwCl [(p0, .inr (7, oM p3 i7 j7)), ((p3 49), .inl (cI, 22, .inl (fun _ => 0))), ((p3 50), .inl (cI, 22, .inl (fun _ => 0))), ((p3 72), .inl (cI, 9216, .inl (fun _ => 0))), ((p3 14), .inl (cI, 2, .inl (fun _ => 0))), ((p3 18), .inl (cI, 2, .inl (fun _ => 0)))] H := hP
      have hD : va_D A [(p0, .inr (7, oM p3 i7 j7)), ((p3 49), .inl (cI, 22, .inl (fun _ => 0))), ((p3 50), .inl (cI, 22, .inl (fun _ => 0))), ((p3 72), .inl (cI, 9216, .inl (fun _ => 0))), ((p3 14), .inl (cI, 2, .inl (fun _ => 0))), ((p3 18), .inl (cI, 2, .inl (fun _ => 0)))] := hD
      refine lv_if_ne (tgt := 21) hx hb dX7_most_16 (by decide) (fun q9 => absurd q9 (by decide +kernel)) (fun _ => ?_)
      refine lv_iconst (v := (-1)) hx hb dX7_most_19 (by decide +kernel) ?_
      exact k_ri B hP hD hS dX7_most_20 (25, (fun _ => 0)) [0, 1, 2, 3, 4, 5] rfl rfl rfl (Nat.le_of_ble_eq_true rfl) (Nat.le_of_ble_eq_true rfl) ⟨c_1, c_87, c_88, rfl⟩
    · obtain ⟨c_89, c_90, rfl⟩ : (0 ≤ p2.toInt) ∧ (p2.toInt ≤ 3) ∧ r_84 = 1 := hw
      have hP : va_P (dC, dI) vwCl [(p0, .inr (7, oM p3 i7 j7)), ((p3 49), .inl (cI, 22, .inl (fun _ => 0))), ((p3 50), .inl (cI, 22, .inl (fun _ => 0))), ((p3 72), .inl (cI, 9216, .inl (fun _ => 0))), ((p3 14), .inl (cI, 2, .inl (fun _ => 0))), ((p3 18), .inl (cI, 2, .inl (fun _ => 0)))] H := hP
      have hD : va_D A [(p0, .inr (7, oM p3 i7 j7)), ((p3 49), .inl (cI, 22, .inl (fun _ => 0))), ((p3 50), .inl (cI, 22, .inl (fun _ => 0))), ((p3 72), .inl (cI, 9216, .inl (fun _ => 0))), ((p3 14), .inl (cI, 2, .inl (fun _ => 0))), ((p3 18), .inl (cI, 2, .inl (fun _ => 0)))] := hD
      refine lv_if_ne (tgt := 21) hx hb dX7_most_16 (by decide) (fun _ => ?_) (fun q9 => absurd q9 (by decide +kernel))
      refine lv_aload_n hx hb dX7_most_21 rfl (lv_at hl 0 rfl) ?_
      refine k_cv (wc := [(p0, .inr (7, oM p3 i7 j7)), ((p3 49), .inl (cI, 22, .inl (fun _ => 0))), ((p3 50), .inl (cI, 22, .inl (fun _ => 0))), ((p3 72), .inl (cI, 9216, .inl (fun _ => 0))), ((p3 14), .inl (cI, 2, .inl (fun _ => 0))), ((p3 18), .inl (cI, 2, .inl (fun _ => 0)))]) (wr := []) (fun hPc hDc hFc => va_runV (As := []) (rest := []) ⟨hx, hb, hml, hown, hts⟩ (c_X7_climbs_v0 l dC dI cI cJ cZ cM p0 p3 H.size) (cwV 0 hts gX7_most_X7_climbs rfl rfl rfl (by decide +kernel) ⟨(Nat.le_of_ble_eq_true rfl), (Nat.le_of_ble_eq_true rfl)⟩) (k_pV hPc hDc hK hN hC hS hFc hP (q0 := 0) (ci := 7) rfl rfl) rfl rfl hl.1 rfl (lv_room (Nat.le_of_ble_eq_true rfl)) dX7_most_22 ⟨(Nat.le_of_ble_eq_true rfl), (Nat.le_of_ble_eq_true rfl)⟩) hP hD hS hA [0, 1, 2, 3, 4, 5] [] rfl rfl rfl rfl (by decide) (fun _ => rfl) 0 0 rfl rfl (fun u_92 H locs hw hP hD hS => ?_)
      have hP : va_P (dC, dI) vwCl [(p0, .inr (7, oM p3 i7 j7)), ((p3 49), .inl (cI, 22, .inl (fun _ => 0))), ((p3 50), .inl (cI, 22, .inl (fun _ => 0))), ((p3 72), .inl (cI, 9216, .inl (upd (fun _ => (-1)) 0 0))), ((p3 14), .inl (cI, 2, .inl (fun _ => 0))), ((p3 18), .inl (cI, 2, .inl (fun _ => 0)))] H := hP
      have hD : va_D A [(p0, .inr (7, oM p3 i7 j7)), ((p3 49), .inl (cI, 22, .inl (fun _ => 0))), ((p3 50), .inl (cI, 22, .inl (fun _ => 0))), ((p3 72), .inl (cI, 9216, .inl (upd (fun _ => (-1)) 0 0))), ((p3 14), .inl (cI, 2, .inl (fun _ => 0))), ((p3 18), .inl (cI, 2, .inl (fun _ => 0)))] := hD
      refine lv_aload_n hx hb dX7_most_25 rfl (lv_at hl 0 rfl) ?_
      refine k_ci (wc := [(p0, .inr (7, oM p3 i7 j7)), ((p3 14), .inl (cI, 2, .inl (fun _ => 0)))]) (wr := [((p3 49), .inl (cI, 22, .inl (fun _ => 0))), ((p3 50), .inl (cI, 22, .inl (fun _ => 0))), ((p3 72), .inl (cI, 9216, .inl (upd (fun _ => (-1)) 0 0))), ((p3 18), .inl (cI, 2, .inl (fun _ => 0)))]) (fun hPc hDc hFc => va_runV (As := []) (rest := []) ⟨hx, hb, hml, hown, hts⟩ (c_X7_briefOnes_v2 l dC dI cI cJ cZ cM p0 p3 H.size) (cwV 0 hts gX7_most_X7_briefOnes rfl rfl rfl (by decide +kernel) ⟨(Nat.le_of_ble_eq_true rfl), (Nat.le_of_ble_eq_true rfl)⟩) (k_pV hPc hDc hK hN hC hS hFc hP (q0 := 0) (ci := 7) rfl rfl) rfl rfl hl.1 rfl (lv_room (Nat.le_of_ble_eq_true rfl)) dX7_most_26 ⟨(Nat.le_of_ble_eq_true rfl), (Nat.le_of_ble_eq_true rfl)⟩) hP hD hS hA [0, 4] [1, 2, 3, 5] rfl rfl rfl rfl (by decide) (fun _ => rfl) 0 0 rfl rfl (fun r_93 u_94 H locs hw hP hD hS => ?_)
      obtain rfl : r_93 = 0 := hw
      have hP : va_P (dC, dI) vwCl [((p3 49), .inl (cI, 22, .inl (fun _ => 0))), ((p3 50), .inl (cI, 22, .inl (fun _ => 0))), ((p3 72), .inl (cI, 9216, .inl (upd (fun _ => (-1)) 0 0))), ((p3 18), .inl (cI, 2, .inl (fun _ => 0))), (p0, .inr (7, oM p3 i7 j7)), ((p3 14), .inl (cI, 2, .inl (fun _ => 0)))] H := hP
      have hD : va_D A [((p3 49), .inl (cI, 22, .inl (fun _ => 0))), ((p3 50), .inl (cI, 22, .inl (fun _ => 0))), ((p3 72), .inl (cI, 9216, .inl (upd (fun _ => (-1)) 0 0))), ((p3 18), .inl (cI, 2, .inl (fun _ => 0))), (p0, .inr (7, oM p3 i7 j7)), ((p3 14), .inl (cI, 2, .inl (fun _ => 0)))] := hD
      refine lv_iconst (v := (-1)) hx hb dX7_most_29 (by decide +kernel) ?_
      refine lv_ixor hx hb dX7_most_30 ?_
      refine k_int (v := (-1)) (by decide +kernel) ?_
      refine lv_istore_n (lv' := [(3, .int (-1)), (0, .ref p0), (1, .int 4), (2, .int p2)]) hx hb dX7_most_31 rfl hl (by decide) rfl (fun ls hl => ?_)
      refine lv_aload_n hx hb dX7_most_32 rfl (lv_at hl 1 rfl) ?_
      refine lv_iconst (v := (-1)) hx hb dX7_most_33 (by decide +kernel) ?_
      refine k_put (D := (dC, dI)) (ci := 7) (v := .int (-1)) (C := RX7) (T := TX7) (N := 92) (ws' := [((p3 49), .inl (cI, 22, .inl (fun _ => 0))), ((p3 50), .inl (cI, 22, .inl (fun _ => 0))), ((p3 72), .inl (cI, 9216, .inl (upd (fun _ => (-1)) 0 0))), ((p3 18), .inl (cI, 2, .inl (fun _ => 0))), (p0, .inr (7, oM p3 (upd i7 75 (-1)) j7)), ((p3 14), .inl (cI, 2, .inl (fun _ => 0)))]) hx hb hts hinX7 tyX7 tyX7_ok nmX7 hown hK hP hD hS 4 rfl rfl 75 (by decide) w_0 rfl rfl rfl rfl (Nat.le_of_ble_eq_true rfl) rfl dX7_most_34 (fun H locs hP hD hS => ?_)
      refine lv_iconst (v := (-1)) hx hb dX7_most_37 (by decide +kernel) ?_
      refine lv_istore (lv' := [(4, .int (-1)), (3, .int (-1)), (0, .ref p0), (1, .int 4), (2, .int p2)]) hx hb dX7_most_38 hl (by decide) rfl (fun ls hl => ?_)
      refine lv_iconst (v := 0) hx hb dX7_most_40 (by decide +kernel) ?_
      refine lv_istore (lv' := [(5, .int 0), (4, .int (-1)), (3, .int (-1)), (0, .ref p0), (1, .int 4), (2, .int p2)]) hx hb dX7_most_41 hl (by decide) rfl (fun ls hl => ?_)
      refine lv_iload hx hb dX7_most_43 (lv_at hl 0 rfl) ?_
      refine lv_iload_n hx hb dX7_most_45 rfl (lv_at hl 4 rfl) ?_
      refine lv_icmp_gt (tgt := 166) hx hb dX7_most_46 (by decide) (fun q9 => absurd q9 (by decide +kernel)) (fun _ => ?_)
      refine lv_iconst (v := 0) hx hb dX7_most_49 (by decide +kernel) ?_
      refine lv_istore (lv' := [(6, .int 0), (5, .int 0), (4, .int (-1)), (3, .int (-1)), (0, .ref p0), (1, .int 4), (2, .int p2)]) hx hb dX7_most_50 hl (by decide) rfl (fun ls hl => ?_)
      refine lv_iload hx hb dX7_most_52 (lv_at hl 0 rfl) ?_
      refine lv_iconst (v := 1) hx hb dX7_most_54 (by decide +kernel) ?_
      refine lv_aload_n hx hb dX7_most_55 rfl (lv_at hl 4 rfl) ?_
      refine k_get (D := (dC, dI)) (ci := 7) (v := .ref (p3 14)) (C := RX7) (T := TX7) (N := 92) hx hb hts hinX7 hown hK hP 4 rfl rfl 14 (by decide) w_1 rfl rfl dX7_most_56 ?_
      refine lv_aload_n hx hb dX7_most_59 rfl (lv_at hl 4 rfl) ?_
      refine k_get (D := (dC, dI)) (ci := 7) (v := .int 0) (C := RX7) (T := TX7) (N := 92) hx hb hts hinX7 hown hK hP 4 rfl rfl 13 (by decide) w_2 rfl rfl dX7_most_60 ?_
      refine k_iald (v := 0) hx hb hK hP 5 0 0 rfl rfl rfl (Nat.le_of_ble_eq_true rfl) (Nat.le_of_ble_eq_true rfl) rfl dX7_most_63 ?_
      refine lv_ishl hx hb dX7_most_64 ?_
      refine k_int (v := 1) (by decide +kernel) ?_
      refine lv_icmp_ge (tgt := 160) hx hb dX7_most_65 (by decide) (fun q9 => absurd q9 (by decide +kernel)) (fun _ => ?_)
      refine lv_aload_n hx hb dX7_most_68 rfl (lv_at hl 4 rfl) ?_
      refine k_get (D := (dC, dI)) (ci := 7) (v := .ref (p3 72)) (C := RX7) (T := TX7) (N := 92) hx hb hts hinX7 hown hK hP 4 rfl rfl 72 (by decide) w_3 rfl rfl dX7_most_69 ?_
      refine lv_sipush (v := 1024) hx hb dX7_most_72 (by decide +kernel) ?_
      refine lv_iload hx hb dX7_most_75 (lv_at hl 1 rfl) ?_
      refine lv_imul hx hb dX7_most_77 ?_
      refine k_int (v := 0) (by decide +kernel) ?_
      refine lv_iload hx hb dX7_most_78 (lv_at hl 0 rfl) ?_
      refine lv_iadd hx hb dX7_most_80 ?_
      refine k_int (v := 0) (by decide +kernel) ?_
      refine k_iald (v := 0) hx hb hK hP 2 0 0 rfl rfl rfl (Nat.le_of_ble_eq_true rfl) (Nat.le_of_ble_eq_true rfl) rfl dX7_most_81 ?_
      refine lv_istore (lv' := [(7, .int 0), (6, .int 0), (5, .int 0), (4, .int (-1)), (3, .int (-1)), (0, .ref p0), (1, .int 4), (2, .int p2)]) hx hb dX7_most_82 hl (by decide) rfl (fun ls hl => ?_)
      refine lv_iload hx hb dX7_most_84 (lv_at hl 0 rfl) ?_
      refine lv_iconst (v := (-1)) hx hb dX7_most_86 (by decide +kernel) ?_
      refine lv_icmp_ne (tgt := 93) hx hb dX7_most_87 (by decide) (fun _ => ?_) (fun q9 => absurd q9 (by decide +kernel))
      refine lv_aload_n hx hb dX7_most_93 rfl (lv_at hl 5 rfl) ?_
      refine lv_iload hx hb dX7_most_94 (lv_at hl 1 rfl) ?_
      refine lv_iload_n hx hb dX7_most_96 rfl (lv_at hl 4 rfl) ?_
      refine lv_iand hx hb dX7_most_97 ?_
      refine k_int (v := 0) (by decide +kernel) ?_
      refine k_ci (wc := [(p0, .inr (7, oM p3 (upd i7 75 (-1)) j7)), ((p3 14), .inl (cI, 2, .inl (fun _ => 0)))]) (wr := [((p3 49), .inl (cI, 22, .inl (fun _ => 0))), ((p3 50), .inl (cI, 22, .inl (fun _ => 0))), ((p3 72), .inl (cI, 9216, .inl (upd (fun _ => (-1)) 0 0))), ((p3 18), .inl (cI, 2, .inl (fun _ => 0)))]) (fun hPc hDc hFc => va_runV (As := [.int 0]) (rest := []) ⟨hx, hb, hml, hown, hts⟩ (c_X7_worthOf_v1 l dC dI cI cJ cZ cM p0 p3 H.size) (cwV 1 hts gX7_most_X7_worthOf rfl rfl rfl (by decide +kernel) ⟨(Nat.le_of_ble_eq_true rfl), (Nat.le_of_ble_eq_true rfl)⟩) (k_pV hPc hDc hK hN hC hS hFc hP (q0 := 4) (ci := 7) rfl rfl) rfl rfl hl.1 rfl (lv_room (Nat.le_of_ble_eq_true rfl)) dX7_most_98 ⟨(Nat.le_of_ble_eq_true rfl), (Nat.le_of_ble_eq_true rfl)⟩) hP hD hS hA [4, 5] [0, 1, 2, 3] rfl rfl rfl rfl (by decide) (fun _ => rfl) 0 0 rfl rfl (fun r_95 u_96 H locs hw hP hD hS => ?_)
      obtain rfl : r_95 = 0 := hw
      have hP : va_P (dC, dI) vwCl [((p3 49), .inl (cI, 22, .inl (fun _ => 0))), ((p3 50), .inl (cI, 22, .inl (fun _ => 0))), ((p3 72), .inl (cI, 9216, .inl (upd (fun _ => (-1)) 0 0))), ((p3 18), .inl (cI, 2, .inl (fun _ => 0))), (p0, .inr (7, oM p3 (upd i7 75 (-1)) j7)), ((p3 14), .inl (cI, 2, .inl (fun _ => 0)))] H := hP
      have hD : va_D A [((p3 49), .inl (cI, 22, .inl (fun _ => 0))), ((p3 50), .inl (cI, 22, .inl (fun _ => 0))), ((p3 72), .inl (cI, 9216, .inl (upd (fun _ => (-1)) 0 0))), ((p3 18), .inl (cI, 2, .inl (fun _ => 0))), (p0, .inr (7, oM p3 (upd i7 75 (-1)) j7)), ((p3 14), .inl (cI, 2, .inl (fun _ => 0)))] := hD
      refine lv_istore (lv' := [(8, .int 0), (7, .int 0), (6, .int 0), (5, .int 0), (4, .int (-1)), (3, .int (-1)), (0, .ref p0), (1, .int 4), (2, .int p2)]) hx hb dX7_most_101 hl (by decide) rfl (fun ls hl => ?_)
      refine lv_iload hx hb dX7_most_103 (lv_at hl 0 rfl) ?_
      refine lv_iload hx hb dX7_most_105 (lv_at hl 4 rfl) ?_
      refine lv_icmp_lt (tgt := 154) hx hb dX7_most_107 (by decide) (fun q9 => absurd q9 (by decide +kernel)) (fun _ => ?_)
      refine lv_iload hx hb dX7_most_110 (lv_at hl 0 rfl) ?_
      refine lv_iload hx hb dX7_most_112 (lv_at hl 4 rfl) ?_
      refine lv_icmp_ne (tgt := 138) hx hb dX7_most_114 (by decide) (fun _ => ?_) (fun q9 => absurd q9 (by decide +kernel))
      refine lv_iload hx hb dX7_most_138 (lv_at hl 0 rfl) ?_
      refine lv_istore (lv' := [(4, .int 0), (8, .int 0), (7, .int 0), (6, .int 0), (5, .int 0), (3, .int (-1)), (0, .ref p0), (1, .int 4), (2, .int p2)]) hx hb dX7_most_140 hl (by decide) rfl (fun ls hl => ?_)
      refine lv_aload_n hx hb dX7_most_142 rfl (lv_at hl 6 rfl) ?_
      refine lv_iload hx hb dX7_most_143 (lv_at hl 4 rfl) ?_
      refine k_put (D := (dC, dI)) (ci := 7) (v := .int 0) (C := RX7) (T := TX7) (N := 92) (ws' := [((p3 49), .inl (cI, 22, .inl (fun _ => 0))), ((p3 50), .inl (cI, 22, .inl (fun _ => 0))), ((p3 72), .inl (cI, 9216, .inl (upd (fun _ => (-1)) 0 0))), ((p3 18), .inl (cI, 2, .inl (fun _ => 0))), (p0, .inr (7, oM p3 (upd i7 75 0) j7)), ((p3 14), .inl (cI, 2, .inl (fun _ => 0)))]) hx hb hts hinX7 tyX7 tyX7_ok nmX7 hown hK hP hD hS 4 rfl rfl 75 (by decide) w_0 rfl rfl rfl rfl (Nat.le_of_ble_eq_true rfl) rfl dX7_most_145 (fun H locs hP hD hS => ?_)
      refine lv_aload_n hx hb dX7_most_148 rfl (lv_at hl 6 rfl) ?_
      refine lv_iload hx hb dX7_most_149 (lv_at hl 3 rfl) ?_
      refine k_put (D := (dC, dI)) (ci := 7) (v := .int 0) (C := RX7) (T := TX7) (N := 92) (ws' := [((p3 49), .inl (cI, 22, .inl (fun _ => 0))), ((p3 50), .inl (cI, 22, .inl (fun _ => 0))), ((p3 72), .inl (cI, 9216, .inl (upd (fun _ => (-1)) 0 0))), ((p3 18), .inl (cI, 2, .inl (fun _ => 0))), (p0, .inr (7, oM p3 (upd (upd i7 75 0) 76 0) j7)), ((p3 14), .inl (cI, 2, .inl (fun _ => 0)))]) hx hb hts hinX7 tyX7 tyX7_ok nmX7 hown hK hP hD hS 4 rfl rfl 76 (by decide) w_4 rfl rfl rfl rfl (Nat.le_of_ble_eq_true rfl) rfl dX7_most_151 (fun H locs hP hD hS => ?_)
      refine lv_iinc (v := 1) (lv' := [(6, .int 1), (4, .int 0), (8, .int 0), (7, .int 0), (5, .int 0), (3, .int (-1)), (0, .ref p0), (1, .int 4), (2, .int p2)]) hx hb dX7_most_154 hl (k := 3) rfl (by decide +kernel) (by decide) rfl (fun ls hl => ?_)
      refine lv_goto (tgt := 52) hx hb dX7_most_157 (by decide) ?_
      refine lv_iload hx hb dX7_most_52 (lv_at hl 0 rfl) ?_
      refine lv_iconst (v := 1) hx hb dX7_most_54 (by decide +kernel) ?_
      refine lv_aload_n hx hb dX7_most_55 rfl (lv_at hl 6 rfl) ?_
      refine k_get (D := (dC, dI)) (ci := 7) (v := .ref (p3 14)) (C := RX7) (T := TX7) (N := 92) hx hb hts hinX7 hown hK hP 4 rfl rfl 14 (by decide) w_1 rfl rfl dX7_most_56 ?_
      refine lv_aload_n hx hb dX7_most_59 rfl (lv_at hl 6 rfl) ?_
      refine k_get (D := (dC, dI)) (ci := 7) (v := .int 0) (C := RX7) (T := TX7) (N := 92) hx hb hts hinX7 hown hK hP 4 rfl rfl 13 (by decide) w_2 rfl rfl dX7_most_60 ?_
      refine k_iald (v := 0) hx hb hK hP 5 0 0 rfl rfl rfl (Nat.le_of_ble_eq_true rfl) (Nat.le_of_ble_eq_true rfl) rfl dX7_most_63 ?_
      refine lv_ishl hx hb dX7_most_64 ?_
      refine k_int (v := 1) (by decide +kernel) ?_
      refine lv_icmp_ge (tgt := 160) hx hb dX7_most_65 (by decide) (fun _ => ?_) (fun q9 => absurd q9 (by decide +kernel))
      refine lv_iinc (v := 1) (lv' := [(5, .int 1), (6, .int 1), (4, .int 0), (8, .int 0), (7, .int 0), (3, .int (-1)), (0, .ref p0), (1, .int 4), (2, .int p2)]) hx hb dX7_most_160 hl (k := 4) rfl (by decide +kernel) (by decide) rfl (fun ls hl => ?_)
      refine lv_goto (tgt := 43) hx hb dX7_most_163 (by decide) ?_
      refine lv_iload hx hb dX7_most_43 (lv_at hl 0 rfl) ?_
      refine lv_iload_n hx hb dX7_most_45 rfl (lv_at hl 7 rfl) ?_
      refine lv_icmp_gt (tgt := 166) hx hb dX7_most_46 (by decide) (fun q9 => absurd q9 (by decide +kernel)) (fun _ => ?_)
      refine lv_iconst (v := 0) hx hb dX7_most_49 (by decide +kernel) ?_
      refine lv_istore (lv' := [(6, .int 0), (5, .int 1), (4, .int 0), (8, .int 0), (7, .int 0), (3, .int (-1)), (0, .ref p0), (1, .int 4), (2, .int p2)]) hx hb dX7_most_50 hl (by decide) rfl (fun ls hl => ?_)
      refine lv_iload hx hb dX7_most_52 (lv_at hl 0 rfl) ?_
      refine lv_iconst (v := 1) hx hb dX7_most_54 (by decide +kernel) ?_
      refine lv_aload_n hx hb dX7_most_55 rfl (lv_at hl 6 rfl) ?_
      refine k_get (D := (dC, dI)) (ci := 7) (v := .ref (p3 14)) (C := RX7) (T := TX7) (N := 92) hx hb hts hinX7 hown hK hP 4 rfl rfl 14 (by decide) w_1 rfl rfl dX7_most_56 ?_
      refine lv_aload_n hx hb dX7_most_59 rfl (lv_at hl 6 rfl) ?_
      refine k_get (D := (dC, dI)) (ci := 7) (v := .int 0) (C := RX7) (T := TX7) (N := 92) hx hb hts hinX7 hown hK hP 4 rfl rfl 13 (by decide) w_2 rfl rfl dX7_most_60 ?_
      refine k_iald (v := 0) hx hb hK hP 5 0 0 rfl rfl rfl (Nat.le_of_ble_eq_true rfl) (Nat.le_of_ble_eq_true rfl) rfl dX7_most_63 ?_
      refine lv_ishl hx hb dX7_most_64 ?_
      refine k_int (v := 1) (by decide +kernel) ?_
      refine lv_icmp_ge (tgt := 160) hx hb dX7_most_65 (by decide) (fun q9 => absurd q9 (by decide +kernel)) (fun _ => ?_)
      refine lv_aload_n hx hb dX7_most_68 rfl (lv_at hl 6 rfl) ?_
      refine k_get (D := (dC, dI)) (ci := 7) (v := .ref (p3 72)) (C := RX7) (T := TX7) (N := 92) hx hb hts hinX7 hown hK hP 4 rfl rfl 72 (by decide) w_3 rfl rfl dX7_most_69 ?_
      refine lv_sipush (v := 1024) hx hb dX7_most_72 (by decide +kernel) ?_
      refine lv_iload hx hb dX7_most_75 (lv_at hl 1 rfl) ?_
      refine lv_imul hx hb dX7_most_77 ?_
      refine k_int (v := 1024) (by decide +kernel) ?_
      refine lv_iload hx hb dX7_most_78 (lv_at hl 0 rfl) ?_
      refine lv_iadd hx hb dX7_most_80 ?_
      refine k_int (v := 1024) (by decide +kernel) ?_
      refine k_iald (v := (-1)) hx hb hK hP 2 0 1024 rfl rfl rfl (Nat.le_of_ble_eq_true rfl) (Nat.le_of_ble_eq_true rfl) rfl dX7_most_81 ?_
      refine lv_istore (lv' := [(7, .int (-1)), (6, .int 0), (5, .int 1), (4, .int 0), (8, .int 0), (3, .int (-1)), (0, .ref p0), (1, .int 4), (2, .int p2)]) hx hb dX7_most_82 hl (by decide) rfl (fun ls hl => ?_)
      refine lv_iload hx hb dX7_most_84 (lv_at hl 0 rfl) ?_
      refine lv_iconst (v := (-1)) hx hb dX7_most_86 (by decide +kernel) ?_
      refine lv_icmp_ne (tgt := 93) hx hb dX7_most_87 (by decide) (fun q9 => absurd q9 (by decide +kernel)) (fun _ => ?_)
      refine lv_goto (tgt := 154) hx hb dX7_most_90 (by decide) ?_
      refine lv_iinc (v := 1) (lv' := [(6, .int 1), (7, .int (-1)), (5, .int 1), (4, .int 0), (8, .int 0), (3, .int (-1)), (0, .ref p0), (1, .int 4), (2, .int p2)]) hx hb dX7_most_154 hl (k := 1) rfl (by decide +kernel) (by decide) rfl (fun ls hl => ?_)
      refine lv_goto (tgt := 52) hx hb dX7_most_157 (by decide) ?_
      refine lv_iload hx hb dX7_most_52 (lv_at hl 0 rfl) ?_
      refine lv_iconst (v := 1) hx hb dX7_most_54 (by decide +kernel) ?_
      refine lv_aload_n hx hb dX7_most_55 rfl (lv_at hl 6 rfl) ?_
      refine k_get (D := (dC, dI)) (ci := 7) (v := .ref (p3 14)) (C := RX7) (T := TX7) (N := 92) hx hb hts hinX7 hown hK hP 4 rfl rfl 14 (by decide) w_1 rfl rfl dX7_most_56 ?_
      refine lv_aload_n hx hb dX7_most_59 rfl (lv_at hl 6 rfl) ?_
      refine k_get (D := (dC, dI)) (ci := 7) (v := .int 0) (C := RX7) (T := TX7) (N := 92) hx hb hts hinX7 hown hK hP 4 rfl rfl 13 (by decide) w_2 rfl rfl dX7_most_60 ?_
      refine k_iald (v := 0) hx hb hK hP 5 0 0 rfl rfl rfl (Nat.le_of_ble_eq_true rfl) (Nat.le_of_ble_eq_true rfl) rfl dX7_most_63 ?_
      refine lv_ishl hx hb dX7_most_64 ?_
      refine k_int (v := 1) (by decide +kernel) ?_
      refine lv_icmp_ge (tgt := 160) hx hb dX7_most_65 (by decide) (fun _ => ?_) (fun q9 => absurd q9 (by decide +kernel))
      refine lv_iinc (v := 2) (lv' := [(5, .int 2), (6, .int 1), (7, .int (-1)), (4, .int 0), (8, .int 0), (3, .int (-1)), (0, .ref p0), (1, .int 4), (2, .int p2)]) hx hb dX7_most_160 hl (k := 2) rfl (by decide +kernel) (by decide) rfl (fun ls hl => ?_)
      refine lv_goto (tgt := 43) hx hb dX7_most_163 (by decide) ?_
      refine lv_iload hx hb dX7_most_43 (lv_at hl 0 rfl) ?_
      refine lv_iload_n hx hb dX7_most_45 rfl (lv_at hl 7 rfl) ?_
      refine lv_icmp_gt (tgt := 166) hx hb dX7_most_46 (by decide) (fun q9 => absurd q9 (by decide +kernel)) (fun _ => ?_)
      refine lv_iconst (v := 0) hx hb dX7_most_49 (by decide +kernel) ?_
      refine lv_istore (lv' := [(6, .int 0), (5, .int 2), (7, .int (-1)), (4, .int 0), (8, .int 0), (3, .int (-1)), (0, .ref p0), (1, .int 4), (2, .int p2)]) hx hb dX7_most_50 hl (by decide) rfl (fun ls hl => ?_)
      refine lv_iload hx hb dX7_most_52 (lv_at hl 0 rfl) ?_
      refine lv_iconst (v := 1) hx hb dX7_most_54 (by decide +kernel) ?_
      refine lv_aload_n hx hb dX7_most_55 rfl (lv_at hl 6 rfl) ?_
      refine k_get (D := (dC, dI)) (ci := 7) (v := .ref (p3 14)) (C := RX7) (T := TX7) (N := 92) hx hb hts hinX7 hown hK hP 4 rfl rfl 14 (by decide) w_1 rfl rfl dX7_most_56 ?_
      refine lv_aload_n hx hb dX7_most_59 rfl (lv_at hl 6 rfl) ?_
      refine k_get (D := (dC, dI)) (ci := 7) (v := .int 0) (C := RX7) (T := TX7) (N := 92) hx hb hts hinX7 hown hK hP 4 rfl rfl 13 (by decide) w_2 rfl rfl dX7_most_60 ?_
      refine k_iald (v := 0) hx hb hK hP 5 0 0 rfl rfl rfl (Nat.le_of_ble_eq_true rfl) (Nat.le_of_ble_eq_true rfl) rfl dX7_most_63 ?_
      refine lv_ishl hx hb dX7_most_64 ?_
      refine k_int (v := 1) (by decide +kernel) ?_
      refine lv_icmp_ge (tgt := 160) hx hb dX7_most_65 (by decide) (fun q9 => absurd q9 (by decide +kernel)) (fun _ => ?_)
      refine lv_aload_n hx hb dX7_most_68 rfl (lv_at hl 6 rfl) ?_
      refine k_get (D := (dC, dI)) (ci := 7) (v := .ref (p3 72)) (C := RX7) (T := TX7) (N := 92) hx hb hts hinX7 hown hK hP 4 rfl rfl 72 (by decide) w_3 rfl rfl dX7_most_69 ?_
      refine lv_sipush (v := 1024) hx hb dX7_most_72 (by decide +kernel) ?_
      refine lv_iload hx hb dX7_most_75 (lv_at hl 1 rfl) ?_
      refine lv_imul hx hb dX7_most_77 ?_
      refine k_int (v := 2048) (by decide +kernel) ?_
      refine lv_iload hx hb dX7_most_78 (lv_at hl 0 rfl) ?_
      refine lv_iadd hx hb dX7_most_80 ?_
      refine k_int (v := 2048) (by decide +kernel) ?_
      refine k_iald (v := (-1)) hx hb hK hP 2 0 2048 rfl rfl rfl (Nat.le_of_ble_eq_true rfl) (Nat.le_of_ble_eq_true rfl) rfl dX7_most_81 ?_
      refine lv_istore (lv' := [(7, .int (-1)), (6, .int 0), (5, .int 2), (4, .int 0), (8, .int 0), (3, .int (-1)), (0, .ref p0), (1, .int 4), (2, .int p2)]) hx hb dX7_most_82 hl (by decide) rfl (fun ls hl => ?_)
      refine lv_iload hx hb dX7_most_84 (lv_at hl 0 rfl) ?_
      refine lv_iconst (v := (-1)) hx hb dX7_most_86 (by decide +kernel) ?_
      refine lv_icmp_ne (tgt := 93) hx hb dX7_most_87 (by decide) (fun q9 => absurd q9 (by decide +kernel)) (fun _ => ?_)
      refine lv_goto (tgt := 154) hx hb dX7_most_90 (by decide) ?_
      refine lv_iinc (v := 1) (lv' := [(6, .int 1), (7, .int (-1)), (5, .int 2), (4, .int 0), (8, .int 0), (3, .int (-1)), (0, .ref p0), (1, .int 4), (2, .int p2)]) hx hb dX7_most_154 hl (k := 1) rfl (by decide +kernel) (by decide) rfl (fun ls hl => ?_)
      refine lv_goto (tgt := 52) hx hb dX7_most_157 (by decide) ?_
      refine lv_iload hx hb dX7_most_52 (lv_at hl 0 rfl) ?_
      refine lv_iconst (v := 1) hx hb dX7_most_54 (by decide +kernel) ?_
      refine lv_aload_n hx hb dX7_most_55 rfl (lv_at hl 6 rfl) ?_
      refine k_get (D := (dC, dI)) (ci := 7) (v := .ref (p3 14)) (C := RX7) (T := TX7) (N := 92) hx hb hts hinX7 hown hK hP 4 rfl rfl 14 (by decide) w_1 rfl rfl dX7_most_56 ?_
      refine lv_aload_n hx hb dX7_most_59 rfl (lv_at hl 6 rfl) ?_
      refine k_get (D := (dC, dI)) (ci := 7) (v := .int 0) (C := RX7) (T := TX7) (N := 92) hx hb hts hinX7 hown hK hP 4 rfl rfl 13 (by decide) w_2 rfl rfl dX7_most_60 ?_
      refine k_iald (v := 0) hx hb hK hP 5 0 0 rfl rfl rfl (Nat.le_of_ble_eq_true rfl) (Nat.le_of_ble_eq_true rfl) rfl dX7_most_63 ?_
      refine lv_ishl hx hb dX7_most_64 ?_
      refine k_int (v := 1) (by decide +kernel) ?_
      refine lv_icmp_ge (tgt := 160) hx hb dX7_most_65 (by decide) (fun _ => ?_) (fun q9 => absurd q9 (by decide +kernel))
      refine lv_iinc (v := 3) (lv' := [(5, .int 3), (6, .int 1), (7, .int (-1)), (4, .int 0), (8, .int 0), (3, .int (-1)), (0, .ref p0), (1, .int 4), (2, .int p2)]) hx hb dX7_most_160 hl (k := 2) rfl (by decide +kernel) (by decide) rfl (fun ls hl => ?_)
      refine lv_goto (tgt := 43) hx hb dX7_most_163 (by decide) ?_
      refine lv_iload hx hb dX7_most_43 (lv_at hl 0 rfl) ?_
      refine lv_iload_n hx hb dX7_most_45 rfl (lv_at hl 7 rfl) ?_
      refine lv_icmp_gt (tgt := 166) hx hb dX7_most_46 (by decide) (fun q9 => absurd q9 (by decide +kernel)) (fun _ => ?_)
      refine lv_iconst (v := 0) hx hb dX7_most_49 (by decide +kernel) ?_
      refine lv_istore (lv' := [(6, .int 0), (5, .int 3), (7, .int (-1)), (4, .int 0), (8, .int 0), (3, .int (-1)), (0, .ref p0), (1, .int 4), (2, .int p2)]) hx hb dX7_most_50 hl (by decide) rfl (fun ls hl => ?_)
      refine lv_iload hx hb dX7_most_52 (lv_at hl 0 rfl) ?_
      refine lv_iconst (v := 1) hx hb dX7_most_54 (by decide +kernel) ?_
      refine lv_aload_n hx hb dX7_most_55 rfl (lv_at hl 6 rfl) ?_
      refine k_get (D := (dC, dI)) (ci := 7) (v := .ref (p3 14)) (C := RX7) (T := TX7) (N := 92) hx hb hts hinX7 hown hK hP 4 rfl rfl 14 (by decide) w_1 rfl rfl dX7_most_56 ?_
      refine lv_aload_n hx hb dX7_most_59 rfl (lv_at hl 6 rfl) ?_
      refine k_get (D := (dC, dI)) (ci := 7) (v := .int 0) (C := RX7) (T := TX7) (N := 92) hx hb hts hinX7 hown hK hP 4 rfl rfl 13 (by decide) w_2 rfl rfl dX7_most_60 ?_
      refine k_iald (v := 0) hx hb hK hP 5 0 0 rfl rfl rfl (Nat.le_of_ble_eq_true rfl) (Nat.le_of_ble_eq_true rfl) rfl dX7_most_63 ?_
      refine lv_ishl hx hb dX7_most_64 ?_
      refine k_int (v := 1) (by decide +kernel) ?_
      refine lv_icmp_ge (tgt := 160) hx hb dX7_most_65 (by decide) (fun q9 => absurd q9 (by decide +kernel)) (fun _ => ?_)
      refine lv_aload_n hx hb dX7_most_68 rfl (lv_at hl 6 rfl) ?_
      refine k_get (D := (dC, dI)) (ci := 7) (v := .ref (p3 72)) (C := RX7) (T := TX7) (N := 92) hx hb hts hinX7 hown hK hP 4 rfl rfl 72 (by decide) w_3 rfl rfl dX7_most_69 ?_
      refine lv_sipush (v := 1024) hx hb dX7_most_72 (by decide +kernel) ?_
      refine lv_iload hx hb dX7_most_75 (lv_at hl 1 rfl) ?_
      refine lv_imul hx hb dX7_most_77 ?_
      refine k_int (v := 3072) (by decide +kernel) ?_
      refine lv_iload hx hb dX7_most_78 (lv_at hl 0 rfl) ?_
      refine lv_iadd hx hb dX7_most_80 ?_
      refine k_int (v := 3072) (by decide +kernel) ?_
      refine k_iald (v := (-1)) hx hb hK hP 2 0 3072 rfl rfl rfl (Nat.le_of_ble_eq_true rfl) (Nat.le_of_ble_eq_true rfl) rfl dX7_most_81 ?_
      refine lv_istore (lv' := [(7, .int (-1)), (6, .int 0), (5, .int 3), (4, .int 0), (8, .int 0), (3, .int (-1)), (0, .ref p0), (1, .int 4), (2, .int p2)]) hx hb dX7_most_82 hl (by decide) rfl (fun ls hl => ?_)
      refine lv_iload hx hb dX7_most_84 (lv_at hl 0 rfl) ?_
      refine lv_iconst (v := (-1)) hx hb dX7_most_86 (by decide +kernel) ?_
      refine lv_icmp_ne (tgt := 93) hx hb dX7_most_87 (by decide) (fun q9 => absurd q9 (by decide +kernel)) (fun _ => ?_)
      refine lv_goto (tgt := 154) hx hb dX7_most_90 (by decide) ?_
      refine lv_iinc (v := 1) (lv' := [(6, .int 1), (7, .int (-1)), (5, .int 3), (4, .int 0), (8, .int 0), (3, .int (-1)), (0, .ref p0), (1, .int 4), (2, .int p2)]) hx hb dX7_most_154 hl (k := 1) rfl (by decide +kernel) (by decide) rfl (fun ls hl => ?_)
      refine lv_goto (tgt := 52) hx hb dX7_most_157 (by decide) ?_
      refine lv_iload hx hb dX7_most_52 (lv_at hl 0 rfl) ?_
      refine lv_iconst (v := 1) hx hb dX7_most_54 (by decide +kernel) ?_
      refine lv_aload_n hx hb dX7_most_55 rfl (lv_at hl 6 rfl) ?_
      refine k_get (D := (dC, dI)) (ci := 7) (v := .ref (p3 14)) (C := RX7) (T := TX7) (N := 92) hx hb hts hinX7 hown hK hP 4 rfl rfl 14 (by decide) w_1 rfl rfl dX7_most_56 ?_
      refine lv_aload_n hx hb dX7_most_59 rfl (lv_at hl 6 rfl) ?_
      refine k_get (D := (dC, dI)) (ci := 7) (v := .int 0) (C := RX7) (T := TX7) (N := 92) hx hb hts hinX7 hown hK hP 4 rfl rfl 13 (by decide) w_2 rfl rfl dX7_most_60 ?_
      refine k_iald (v := 0) hx hb hK hP 5 0 0 rfl rfl rfl (Nat.le_of_ble_eq_true rfl) (Nat.le_of_ble_eq_true rfl) rfl dX7_most_63 ?_
      refine lv_ishl hx hb dX7_most_64 ?_
      refine k_int (v := 1) (by decide +kernel) ?_
      refine lv_icmp_ge (tgt := 160) hx hb dX7_most_65 (by decide) (fun _ => ?_) (fun q9 => absurd q9 (by decide +kernel))
      refine lv_iinc (v := 4) (lv' := [(5, .int 4), (6, .int 1), (7, .int (-1)), (4, .int 0), (8, .int 0), (3, .int (-1)), (0, .ref p0), (1, .int 4), (2, .int p2)]) hx hb dX7_most_160 hl (k := 2) rfl (by decide +kernel) (by decide) rfl (fun ls hl => ?_)
      refine lv_goto (tgt := 43) hx hb dX7_most_163 (by decide) ?_
      refine lv_iload hx hb dX7_most_43 (lv_at hl 0 rfl) ?_
      refine lv_iload_n hx hb dX7_most_45 rfl (lv_at hl 7 rfl) ?_
      refine lv_icmp_gt (tgt := 166) hx hb dX7_most_46 (by decide) (fun q9 => absurd q9 (by decide +kernel)) (fun _ => ?_)
      refine lv_iconst (v := 0) hx hb dX7_most_49 (by decide +kernel) ?_
      refine lv_istore (lv' := [(6, .int 0), (5, .int 4), (7, .int (-1)), (4, .int 0), (8, .int 0), (3, .int (-1)), (0, .ref p0), (1, .int 4), (2, .int p2)]) hx hb dX7_most_50 hl (by decide) rfl (fun ls hl => ?_)
      refine lv_iload hx hb dX7_most_52 (lv_at hl 0 rfl) ?_
      refine lv_iconst (v := 1) hx hb dX7_most_54 (by decide +kernel) ?_
      refine lv_aload_n hx hb dX7_most_55 rfl (lv_at hl 6 rfl) ?_
      refine k_get (D := (dC, dI)) (ci := 7) (v := .ref (p3 14)) (C := RX7) (T := TX7) (N := 92) hx hb hts hinX7 hown hK hP 4 rfl rfl 14 (by decide) w_1 rfl rfl dX7_most_56 ?_
      refine lv_aload_n hx hb dX7_most_59 rfl (lv_at hl 6 rfl) ?_
      refine k_get (D := (dC, dI)) (ci := 7) (v := .int 0) (C := RX7) (T := TX7) (N := 92) hx hb hts hinX7 hown hK hP 4 rfl rfl 13 (by decide) w_2 rfl rfl dX7_most_60 ?_
      refine k_iald (v := 0) hx hb hK hP 5 0 0 rfl rfl rfl (Nat.le_of_ble_eq_true rfl) (Nat.le_of_ble_eq_true rfl) rfl dX7_most_63 ?_
      refine lv_ishl hx hb dX7_most_64 ?_
      refine k_int (v := 1) (by decide +kernel) ?_
      refine lv_icmp_ge (tgt := 160) hx hb dX7_most_65 (by decide) (fun q9 => absurd q9 (by decide +kernel)) (fun _ => ?_)
      refine lv_aload_n hx hb dX7_most_68 rfl (lv_at hl 6 rfl) ?_
      refine k_get (D := (dC, dI)) (ci := 7) (v := .ref (p3 72)) (C := RX7) (T := TX7) (N := 92) hx hb hts hinX7 hown hK hP 4 rfl rfl 72 (by decide) w_3 rfl rfl dX7_most_69 ?_
      refine lv_sipush (v := 1024) hx hb dX7_most_72 (by decide +kernel) ?_
      refine lv_iload hx hb dX7_most_75 (lv_at hl 1 rfl) ?_
      refine lv_imul hx hb dX7_most_77 ?_
      refine k_int (v := 4096) (by decide +kernel) ?_
      refine lv_iload hx hb dX7_most_78 (lv_at hl 0 rfl) ?_
      refine lv_iadd hx hb dX7_most_80 ?_
      refine k_int (v := 4096) (by decide +kernel) ?_
      refine k_iald (v := (-1)) hx hb hK hP 2 0 4096 rfl rfl rfl (Nat.le_of_ble_eq_true rfl) (Nat.le_of_ble_eq_true rfl) rfl dX7_most_81 ?_
      refine lv_istore (lv' := [(7, .int (-1)), (6, .int 0), (5, .int 4), (4, .int 0), (8, .int 0), (3, .int (-1)), (0, .ref p0), (1, .int 4), (2, .int p2)]) hx hb dX7_most_82 hl (by decide) rfl (fun ls hl => ?_)
      refine lv_iload hx hb dX7_most_84 (lv_at hl 0 rfl) ?_
      refine lv_iconst (v := (-1)) hx hb dX7_most_86 (by decide +kernel) ?_
      refine lv_icmp_ne (tgt := 93) hx hb dX7_most_87 (by decide) (fun q9 => absurd q9 (by decide +kernel)) (fun _ => ?_)
      refine lv_goto (tgt := 154) hx hb dX7_most_90 (by decide) ?_
      refine lv_iinc (v := 1) (lv' := [(6, .int 1), (7, .int (-1)), (5, .int 4), (4, .int 0), (8, .int 0), (3, .int (-1)), (0, .ref p0), (1, .int 4), (2, .int p2)]) hx hb dX7_most_154 hl (k := 1) rfl (by decide +kernel) (by decide) rfl (fun ls hl => ?_)
      refine lv_goto (tgt := 52) hx hb dX7_most_157 (by decide) ?_
      refine lv_iload hx hb dX7_most_52 (lv_at hl 0 rfl) ?_
      refine lv_iconst (v := 1) hx hb dX7_most_54 (by decide +kernel) ?_
      refine lv_aload_n hx hb dX7_most_55 rfl (lv_at hl 6 rfl) ?_
      refine k_get (D := (dC, dI)) (ci := 7) (v := .ref (p3 14)) (C := RX7) (T := TX7) (N := 92) hx hb hts hinX7 hown hK hP 4 rfl rfl 14 (by decide) w_1 rfl rfl dX7_most_56 ?_
      refine lv_aload_n hx hb dX7_most_59 rfl (lv_at hl 6 rfl) ?_
      refine k_get (D := (dC, dI)) (ci := 7) (v := .int 0) (C := RX7) (T := TX7) (N := 92) hx hb hts hinX7 hown hK hP 4 rfl rfl 13 (by decide) w_2 rfl rfl dX7_most_60 ?_
      refine k_iald (v := 0) hx hb hK hP 5 0 0 rfl rfl rfl (Nat.le_of_ble_eq_true rfl) (Nat.le_of_ble_eq_true rfl) rfl dX7_most_63 ?_
      refine lv_ishl hx hb dX7_most_64 ?_
      refine k_int (v := 1) (by decide +kernel) ?_
      refine lv_icmp_ge (tgt := 160) hx hb dX7_most_65 (by decide) (fun _ => ?_) (fun q9 => absurd q9 (by decide +kernel))
      refine lv_iinc (v := 5) (lv' := [(5, .int 5), (6, .int 1), (7, .int (-1)), (4, .int 0), (8, .int 0), (3, .int (-1)), (0, .ref p0), (1, .int 4), (2, .int p2)]) hx hb dX7_most_160 hl (k := 2) rfl (by decide +kernel) (by decide) rfl (fun ls hl => ?_)
      refine lv_goto (tgt := 43) hx hb dX7_most_163 (by decide) ?_
      refine lv_iload hx hb dX7_most_43 (lv_at hl 0 rfl) ?_
      refine lv_iload_n hx hb dX7_most_45 rfl (lv_at hl 7 rfl) ?_
      refine lv_icmp_gt (tgt := 166) hx hb dX7_most_46 (by decide) (fun _ => ?_) (fun q9 => absurd q9 (by decide +kernel))
      refine lv_iload_n hx hb dX7_most_166 rfl (lv_at hl 8 rfl) ?_
      refine lv_if_ne (tgt := 175) hx hb dX7_most_167 (by decide) (fun c_97 => ?_) (fun c_97 => ?_)
      · have c_97 : ¬ p2.toInt = 0 := k_eqF rfl (by decide +kernel) c_97
        refine lv_iload_n hx hb dX7_most_175 rfl (lv_at hl 8 rfl) ?_
        refine lv_iconst (v := 1) hx hb dX7_most_176 (by decide +kernel) ?_
        refine lv_icmp_ne (tgt := 187) hx hb dX7_most_177 (by decide) (fun c_98 => ?_) (fun c_98 => ?_)
        · have c_98 : ¬ p2.toInt = 1 := k_eqF rfl (by decide +kernel) c_98
          refine lv_iload_n hx hb dX7_most_187 rfl (lv_at hl 8 rfl) ?_
          refine lv_iconst (v := 2) hx hb dX7_most_188 (by decide +kernel) ?_
          refine lv_icmp_ne (tgt := 199) hx hb dX7_most_189 (by decide) (fun c_99 => ?_) (fun c_99 => ?_)
          · have c_99 : ¬ p2.toInt = 2 := k_eqF rfl (by decide +kernel) c_99
            refine lv_aload_n hx hb dX7_most_199 rfl (lv_at hl 6 rfl) ?_
            refine k_get (D := (dC, dI)) (ci := 7) (v := .int 0) (C := RX7) (T := TX7) (N := 92) hx hb hts hinX7 hown hK hP 4 rfl rfl 76 (by decide) w_4 rfl rfl dX7_most_200 ?_
            exact k_ri B hP hD hS dX7_most_203 (26, (fun _ => 0)) [4, 0, 1, 2, 5, 3] rfl rfl rfl (Nat.le_of_ble_eq_true rfl) (Nat.le_of_ble_eq_true rfl) ⟨c_1, c_89, c_90, c_97, c_98, c_99, rfl⟩
          · have c_99 : p2.toInt = 2 := k_eqT rfl (by decide +kernel) c_99
            refine lv_aload_n hx hb dX7_most_192 rfl (lv_at hl 6 rfl) ?_
            refine k_ci (wc := [(p0, .inr (7, oM p3 (upd (upd i7 75 0) 76 0) j7)), ((p3 72), .inl (cI, 9216, .inl (upd (fun _ => (-1)) 0 0)))]) (wr := [((p3 49), .inl (cI, 22, .inl (fun _ => 0))), ((p3 50), .inl (cI, 22, .inl (fun _ => 0))), ((p3 18), .inl (cI, 2, .inl (fun _ => 0))), ((p3 14), .inl (cI, 2, .inl (fun _ => 0)))]) (fun hPc hDc hFc => va_runV (As := []) (rest := []) ⟨hx, hb, hml, hown, hts⟩ (c_X7_foundSea_v0 l dC dI cI cJ cZ cM p0 p3 H.size) (cwV 0 hts gX7_most_X7_foundSea rfl rfl rfl (by decide +kernel) ⟨(Nat.le_of_ble_eq_true rfl), (Nat.le_of_ble_eq_true rfl)⟩) (k_pV hPc hDc hK hN hC hS hFc hP (q0 := 4) (ci := 7) rfl rfl) rfl rfl hl.1 rfl (lv_room (Nat.le_of_ble_eq_true rfl)) dX7_most_193 ⟨(Nat.le_of_ble_eq_true rfl), (Nat.le_of_ble_eq_true rfl)⟩) hP hD hS hA [4, 2] [0, 1, 3, 5] rfl rfl rfl rfl (by decide) (fun _ => rfl) 0 0 rfl rfl (fun r_100 u_101 H locs hw hP hD hS => ?_)
            obtain rfl : r_100 = 0 := hw
            have hP : va_P (dC, dI) vwCl [((p3 49), .inl (cI, 22, .inl (fun _ => 0))), ((p3 50), .inl (cI, 22, .inl (fun _ => 0))), ((p3 18), .inl (cI, 2, .inl (fun _ => 0))), ((p3 14), .inl (cI, 2, .inl (fun _ => 0))), (p0, .inr (7, oM p3 (upd (upd i7 75 0) 76 0) j7)), ((p3 72), .inl (cI, 9216, .inl (upd (fun _ => (-1)) 0 0)))] H := hP
            have hD : va_D A [((p3 49), .inl (cI, 22, .inl (fun _ => 0))), ((p3 50), .inl (cI, 22, .inl (fun _ => 0))), ((p3 18), .inl (cI, 2, .inl (fun _ => 0))), ((p3 14), .inl (cI, 2, .inl (fun _ => 0))), (p0, .inr (7, oM p3 (upd (upd i7 75 0) 76 0) j7)), ((p3 72), .inl (cI, 9216, .inl (upd (fun _ => (-1)) 0 0)))] := hD
            refine lv_goto (tgt := 203) hx hb dX7_most_196 (by decide) ?_
            exact k_ri B hP hD hS dX7_most_203 (27, (fun _ => 0)) [4, 0, 1, 5, 3, 2] rfl rfl rfl (Nat.le_of_ble_eq_true rfl) (Nat.le_of_ble_eq_true rfl) ⟨c_1, c_89, c_90, c_97, c_98, c_99, rfl⟩
        · have c_98 : p2.toInt = 1 := k_eqT rfl (by decide +kernel) c_98
          refine lv_aload_n hx hb dX7_most_180 rfl (lv_at hl 6 rfl) ?_
          refine k_get (D := (dC, dI)) (ci := 7) (v := .int 0) (C := RX7) (T := TX7) (N := 92) hx hb hts hinX7 hown hK hP 4 rfl rfl 75 (by decide) w_0 rfl rfl dX7_most_181 ?_
          refine lv_goto (tgt := 203) hx hb dX7_most_184 (by decide) ?_
          exact k_ri B hP hD hS dX7_most_203 (28, (fun _ => 0)) [4, 0, 1, 2, 5, 3] rfl rfl rfl (Nat.le_of_ble_eq_true rfl) (Nat.le_of_ble_eq_true rfl) ⟨c_1, c_89, c_90, c_97, c_98, rfl⟩
      · have c_97 : p2.toInt = 0 := k_eqT rfl (by decide +kernel) c_97
        refine lv_iload hx hb dX7_most_170 (lv_at hl 3 rfl) ?_
        refine lv_goto (tgt := 203) hx hb dX7_most_172 (by decide) ?_
        exact k_ri B hP hD hS dX7_most_203 (29, (fun _ => 0)) [4, 0, 1, 2, 5, 3] rfl rfl rfl (Nat.le_of_ble_eq_true rfl) (Nat.le_of_ble_eq_true rfl) ⟨c_1, c_89, c_90, c_97, rfl⟩
    · exact False.elim hw
  · obtain rfl : p1 = 5 := k_eqL (by decide +kernel) c_1
    refine lv_iload_n hx hb dX7_most_0 rfl (lv_at hl 1 rfl) ?_
    refine lv_iconst (v := 0) hx hb dX7_most_1 (by decide +kernel) ?_
    refine lv_bipush (v := 8) hx hb dX7_most_2 (by decide +kernel) ?_
    refine k_ci (wc := []) (wr := [(p0, .inr (7, oM p3 i7 j7)), ((p3 49), .inl (cI, 22, .inl (fun _ => 0))), ((p3 50), .inl (cI, 22, .inl (fun _ => 0))), ((p3 72), .inl (cI, 9216, .inl (fun _ => 0))), ((p3 14), .inl (cI, 2, .inl (fun _ => 0))), ((p3 18), .inl (cI, 2, .inl (fun _ => 0)))]) (fun hPc hDc hFc => va_runS (As := [.int 5, .int 0, .int 8]) (rest := []) ⟨hx, hb, hml, hown, hts⟩ (c_X7_is_v11 l dC dI cI cJ cZ cM H.size) (va_cwS 3 hts gX7_most_X7_is rfl rfl rfl (by decide +kernel) ⟨(Nat.le_of_ble_eq_true rfl), (Nat.le_of_ble_eq_true rfl)⟩) (k_pS hPc hDc hK hN hC hS hFc) rfl rfl hl.1 rfl (lv_room (Nat.le_of_ble_eq_true rfl)) dX7_most_4 ⟨(Nat.le_of_ble_eq_true rfl), (Nat.le_of_ble_eq_true rfl)⟩) hP hD hS hA [] [0, 1, 2, 3, 4, 5] rfl rfl rfl rfl (by decide) (fun _ => rfl) 0 0 rfl rfl (fun r_102 u_103 H locs hw hP hD hS => ?_)
    obtain rfl : r_102 = 1 := hw
    have hP : va_P (dC, dI) vwCl [(p0, .inr (7, oM p3 i7 j7)), ((p3 49), .inl (cI, 22, .inl (fun _ => 0))), ((p3 50), .inl (cI, 22, .inl (fun _ => 0))), ((p3 72), .inl (cI, 9216, .inl (fun _ => 0))), ((p3 14), .inl (cI, 2, .inl (fun _ => 0))), ((p3 18), .inl (cI, 2, .inl (fun _ => 0)))] H := hP
    have hD : va_D A [(p0, .inr (7, oM p3 i7 j7)), ((p3 49), .inl (cI, 22, .inl (fun _ => 0))), ((p3 50), .inl (cI, 22, .inl (fun _ => 0))), ((p3 72), .inl (cI, 9216, .inl (fun _ => 0))), ((p3 14), .inl (cI, 2, .inl (fun _ => 0))), ((p3 18), .inl (cI, 2, .inl (fun _ => 0)))] := hD
    refine lv_if_eq (tgt := 19) hx hb dX7_most_7 (by decide) (fun q9 => absurd q9 (by decide +kernel)) (fun _ => ?_)
    refine lv_iload_n hx hb dX7_most_10 rfl (lv_at hl 2 rfl) ?_
    refine lv_iconst (v := 0) hx hb dX7_most_11 (by decide +kernel) ?_
    refine lv_iconst (v := 3) hx hb dX7_most_12 (by decide +kernel) ?_
    refine k_ci (wc := []) (wr := [(p0, .inr (7, oM p3 i7 j7)), ((p3 49), .inl (cI, 22, .inl (fun _ => 0))), ((p3 50), .inl (cI, 22, .inl (fun _ => 0))), ((p3 72), .inl (cI, 9216, .inl (fun _ => 0))), ((p3 14), .inl (cI, 2, .inl (fun _ => 0))), ((p3 18), .inl (cI, 2, .inl (fun _ => 0)))]) (fun hPc hDc hFc => va_runS (As := [.int p2, .int 0, .int 3]) (rest := []) ⟨hx, hb, hml, hown, hts⟩ (c_X7_is_v24 l dC dI cI cJ cZ cM p2 H.size) (va_cwS 3 hts gX7_most_X7_is rfl rfl rfl (by decide +kernel) ⟨(Nat.le_of_ble_eq_true rfl), (Nat.le_of_ble_eq_true rfl)⟩) (k_pS hPc hDc hK hN hC hS hFc) rfl rfl hl.1 rfl (lv_room (Nat.le_of_ble_eq_true rfl)) dX7_most_13 ⟨(Nat.le_of_ble_eq_true rfl), (Nat.le_of_ble_eq_true rfl)⟩) hP hD hS hA [] [0, 1, 2, 3, 4, 5] rfl rfl rfl rfl (by decide) (fun _ => rfl) 0 0 rfl rfl (fun r_104 u_105 H locs hw hP hD hS => ?_)
    obtain ⟨k_u_105, u_u_105⟩ := u_105
    rcases k_u_105 with _ | _ | _ | k_u_105
    · obtain ⟨c_106, rfl⟩ : (p2.toInt < 0) ∧ r_104 = 0 := hw
      have hP : va_P (dC, dI) vwCl [(p0, .inr (7, oM p3 i7 j7)), ((p3 49), .inl (cI, 22, .inl (fun _ => 0))), ((p3 50), .inl (cI, 22, .inl (fun _ => 0))), ((p3 72), .inl (cI, 9216, .inl (fun _ => 0))), ((p3 14), .inl (cI, 2, .inl (fun _ => 0))), ((p3 18), .inl (cI, 2, .inl (fun _ => 0)))] H := hP
      have hD : va_D A [(p0, .inr (7, oM p3 i7 j7)), ((p3 49), .inl (cI, 22, .inl (fun _ => 0))), ((p3 50), .inl (cI, 22, .inl (fun _ => 0))), ((p3 72), .inl (cI, 9216, .inl (fun _ => 0))), ((p3 14), .inl (cI, 2, .inl (fun _ => 0))), ((p3 18), .inl (cI, 2, .inl (fun _ => 0)))] := hD
      refine lv_if_ne (tgt := 21) hx hb dX7_most_16 (by decide) (fun q9 => absurd q9 (by decide +kernel)) (fun _ => ?_)
      refine lv_iconst (v := (-1)) hx hb dX7_most_19 (by decide +kernel) ?_
      exact k_ri B hP hD hS dX7_most_20 (30, (fun _ => 0)) [0, 1, 2, 3, 4, 5] rfl rfl rfl (Nat.le_of_ble_eq_true rfl) (Nat.le_of_ble_eq_true rfl) ⟨c_1, c_106, rfl⟩
    · obtain ⟨c_107, c_108, rfl⟩ : (0 ≤ p2.toInt) ∧ (3 < p2.toInt) ∧ r_104 = 0 := hw
      have hP : va_P (dC, dI) vwCl [(p0, .inr (7, oM p3 i7 j7)), ((p3 49), .inl (cI, 22, .inl (fun _ => 0))), ((p3 50), .inl (cI, 22, .inl (fun _ => 0))), ((p3 72), .inl (cI, 9216, .inl (fun _ => 0))), ((p3 14), .inl (cI, 2, .inl (fun _ => 0))), ((p3 18), .inl (cI, 2, .inl (fun _ => 0)))] H := hP
      have hD : va_D A [(p0, .inr (7, oM p3 i7 j7)), ((p3 49), .inl (cI, 22, .inl (fun _ => 0))), ((p3 50), .inl (cI, 22, .inl (fun _ => 0))), ((p3 72), .inl (cI, 9216, .inl (fun _ => 0))), ((p3 14), .inl (cI, 2, .inl (fun _ => 0))), ((p3 18), .inl (cI, 2, .inl (fun _ => 0)))] := hD
      refine lv_if_ne (tgt := 21) hx hb dX7_most_16 (by decide) (fun q9 => absurd q9 (by decide +kernel)) (fun _ => ?_)
      refine lv_iconst (v := (-1)) hx hb dX7_most_19 (by decide +kernel) ?_
      exact k_ri B hP hD hS dX7_most_20 (31, (fun _ => 0)) [0, 1, 2, 3, 4, 5] rfl rfl rfl (Nat.le_of_ble_eq_true rfl) (Nat.le_of_ble_eq_true rfl) ⟨c_1, c_107, c_108, rfl⟩
    · obtain ⟨c_109, c_110, rfl⟩ : (0 ≤ p2.toInt) ∧ (p2.toInt ≤ 3) ∧ r_104 = 1 := hw
      have hP : va_P (dC, dI) vwCl [(p0, .inr (7, oM p3 i7 j7)), ((p3 49), .inl (cI, 22, .inl (fun _ => 0))), ((p3 50), .inl (cI, 22, .inl (fun _ => 0))), ((p3 72), .inl (cI, 9216, .inl (fun _ => 0))), ((p3 14), .inl (cI, 2, .inl (fun _ => 0))), ((p3 18), .inl (cI, 2, .inl (fun _ => 0)))] H := hP
      have hD : va_D A [(p0, .inr (7, oM p3 i7 j7)), ((p3 49), .inl (cI, 22, .inl (fun _ => 0))), ((p3 50), .inl (cI, 22, .inl (fun _ => 0))), ((p3 72), .inl (cI, 9216, .inl (fun _ => 0))), ((p3 14), .inl (cI, 2, .inl (fun _ => 0))), ((p3 18), .inl (cI, 2, .inl (fun _ => 0)))] := hD
      refine lv_if_ne (tgt := 21) hx hb dX7_most_16 (by decide) (fun _ => ?_) (fun q9 => absurd q9 (by decide +kernel))
      refine lv_aload_n hx hb dX7_most_21 rfl (lv_at hl 0 rfl) ?_
      refine k_cv (wc := [(p0, .inr (7, oM p3 i7 j7)), ((p3 49), .inl (cI, 22, .inl (fun _ => 0))), ((p3 50), .inl (cI, 22, .inl (fun _ => 0))), ((p3 72), .inl (cI, 9216, .inl (fun _ => 0))), ((p3 14), .inl (cI, 2, .inl (fun _ => 0))), ((p3 18), .inl (cI, 2, .inl (fun _ => 0)))]) (wr := []) (fun hPc hDc hFc => va_runV (As := []) (rest := []) ⟨hx, hb, hml, hown, hts⟩ (c_X7_climbs_v0 l dC dI cI cJ cZ cM p0 p3 H.size) (cwV 0 hts gX7_most_X7_climbs rfl rfl rfl (by decide +kernel) ⟨(Nat.le_of_ble_eq_true rfl), (Nat.le_of_ble_eq_true rfl)⟩) (k_pV hPc hDc hK hN hC hS hFc hP (q0 := 0) (ci := 7) rfl rfl) rfl rfl hl.1 rfl (lv_room (Nat.le_of_ble_eq_true rfl)) dX7_most_22 ⟨(Nat.le_of_ble_eq_true rfl), (Nat.le_of_ble_eq_true rfl)⟩) hP hD hS hA [0, 1, 2, 3, 4, 5] [] rfl rfl rfl rfl (by decide) (fun _ => rfl) 0 0 rfl rfl (fun u_112 H locs hw hP hD hS => ?_)
      have hP : va_P (dC, dI) vwCl [(p0, .inr (7, oM p3 i7 j7)), ((p3 49), .inl (cI, 22, .inl (fun _ => 0))), ((p3 50), .inl (cI, 22, .inl (fun _ => 0))), ((p3 72), .inl (cI, 9216, .inl (upd (fun _ => (-1)) 0 0))), ((p3 14), .inl (cI, 2, .inl (fun _ => 0))), ((p3 18), .inl (cI, 2, .inl (fun _ => 0)))] H := hP
      have hD : va_D A [(p0, .inr (7, oM p3 i7 j7)), ((p3 49), .inl (cI, 22, .inl (fun _ => 0))), ((p3 50), .inl (cI, 22, .inl (fun _ => 0))), ((p3 72), .inl (cI, 9216, .inl (upd (fun _ => (-1)) 0 0))), ((p3 14), .inl (cI, 2, .inl (fun _ => 0))), ((p3 18), .inl (cI, 2, .inl (fun _ => 0)))] := hD
      refine lv_aload_n hx hb dX7_most_25 rfl (lv_at hl 0 rfl) ?_
      refine k_ci (wc := [(p0, .inr (7, oM p3 i7 j7)), ((p3 14), .inl (cI, 2, .inl (fun _ => 0)))]) (wr := [((p3 49), .inl (cI, 22, .inl (fun _ => 0))), ((p3 50), .inl (cI, 22, .inl (fun _ => 0))), ((p3 72), .inl (cI, 9216, .inl (upd (fun _ => (-1)) 0 0))), ((p3 18), .inl (cI, 2, .inl (fun _ => 0)))]) (fun hPc hDc hFc => va_runV (As := []) (rest := []) ⟨hx, hb, hml, hown, hts⟩ (c_X7_briefOnes_v2 l dC dI cI cJ cZ cM p0 p3 H.size) (cwV 0 hts gX7_most_X7_briefOnes rfl rfl rfl (by decide +kernel) ⟨(Nat.le_of_ble_eq_true rfl), (Nat.le_of_ble_eq_true rfl)⟩) (k_pV hPc hDc hK hN hC hS hFc hP (q0 := 0) (ci := 7) rfl rfl) rfl rfl hl.1 rfl (lv_room (Nat.le_of_ble_eq_true rfl)) dX7_most_26 ⟨(Nat.le_of_ble_eq_true rfl), (Nat.le_of_ble_eq_true rfl)⟩) hP hD hS hA [0, 4] [1, 2, 3, 5] rfl rfl rfl rfl (by decide) (fun _ => rfl) 0 0 rfl rfl (fun r_113 u_114 H locs hw hP hD hS => ?_)
      obtain rfl : r_113 = 0 := hw
      have hP : va_P (dC, dI) vwCl [((p3 49), .inl (cI, 22, .inl (fun _ => 0))), ((p3 50), .inl (cI, 22, .inl (fun _ => 0))), ((p3 72), .inl (cI, 9216, .inl (upd (fun _ => (-1)) 0 0))), ((p3 18), .inl (cI, 2, .inl (fun _ => 0))), (p0, .inr (7, oM p3 i7 j7)), ((p3 14), .inl (cI, 2, .inl (fun _ => 0)))] H := hP
      have hD : va_D A [((p3 49), .inl (cI, 22, .inl (fun _ => 0))), ((p3 50), .inl (cI, 22, .inl (fun _ => 0))), ((p3 72), .inl (cI, 9216, .inl (upd (fun _ => (-1)) 0 0))), ((p3 18), .inl (cI, 2, .inl (fun _ => 0))), (p0, .inr (7, oM p3 i7 j7)), ((p3 14), .inl (cI, 2, .inl (fun _ => 0)))] := hD
      refine lv_iconst (v := (-1)) hx hb dX7_most_29 (by decide +kernel) ?_
      refine lv_ixor hx hb dX7_most_30 ?_
      refine k_int (v := (-1)) (by decide +kernel) ?_
      refine lv_istore_n (lv' := [(3, .int (-1)), (0, .ref p0), (1, .int 5), (2, .int p2)]) hx hb dX7_most_31 rfl hl (by decide) rfl (fun ls hl => ?_)
      refine lv_aload_n hx hb dX7_most_32 rfl (lv_at hl 1 rfl) ?_
      refine lv_iconst (v := (-1)) hx hb dX7_most_33 (by decide +kernel) ?_
      refine k_put (D := (dC, dI)) (ci := 7) (v := .int (-1)) (C := RX7) (T := TX7) (N := 92) (ws' := [((p3 49), .inl (cI, 22, .inl (fun _ => 0))), ((p3 50), .inl (cI, 22, .inl (fun _ => 0))), ((p3 72), .inl (cI, 9216, .inl (upd (fun _ => (-1)) 0 0))), ((p3 18), .inl (cI, 2, .inl (fun _ => 0))), (p0, .inr (7, oM p3 (upd i7 75 (-1)) j7)), ((p3 14), .inl (cI, 2, .inl (fun _ => 0)))]) hx hb hts hinX7 tyX7 tyX7_ok nmX7 hown hK hP hD hS 4 rfl rfl 75 (by decide) w_0 rfl rfl rfl rfl (Nat.le_of_ble_eq_true rfl) rfl dX7_most_34 (fun H locs hP hD hS => ?_)
      refine lv_iconst (v := (-1)) hx hb dX7_most_37 (by decide +kernel) ?_
      refine lv_istore (lv' := [(4, .int (-1)), (3, .int (-1)), (0, .ref p0), (1, .int 5), (2, .int p2)]) hx hb dX7_most_38 hl (by decide) rfl (fun ls hl => ?_)
      refine lv_iconst (v := 0) hx hb dX7_most_40 (by decide +kernel) ?_
      refine lv_istore (lv' := [(5, .int 0), (4, .int (-1)), (3, .int (-1)), (0, .ref p0), (1, .int 5), (2, .int p2)]) hx hb dX7_most_41 hl (by decide) rfl (fun ls hl => ?_)
      refine lv_iload hx hb dX7_most_43 (lv_at hl 0 rfl) ?_
      refine lv_iload_n hx hb dX7_most_45 rfl (lv_at hl 4 rfl) ?_
      refine lv_icmp_gt (tgt := 166) hx hb dX7_most_46 (by decide) (fun q9 => absurd q9 (by decide +kernel)) (fun _ => ?_)
      refine lv_iconst (v := 0) hx hb dX7_most_49 (by decide +kernel) ?_
      refine lv_istore (lv' := [(6, .int 0), (5, .int 0), (4, .int (-1)), (3, .int (-1)), (0, .ref p0), (1, .int 5), (2, .int p2)]) hx hb dX7_most_50 hl (by decide) rfl (fun ls hl => ?_)
      refine lv_iload hx hb dX7_most_52 (lv_at hl 0 rfl) ?_
      refine lv_iconst (v := 1) hx hb dX7_most_54 (by decide +kernel) ?_
      refine lv_aload_n hx hb dX7_most_55 rfl (lv_at hl 4 rfl) ?_
      refine k_get (D := (dC, dI)) (ci := 7) (v := .ref (p3 14)) (C := RX7) (T := TX7) (N := 92) hx hb hts hinX7 hown hK hP 4 rfl rfl 14 (by decide) w_1 rfl rfl dX7_most_56 ?_
      refine lv_aload_n hx hb dX7_most_59 rfl (lv_at hl 4 rfl) ?_
      refine k_get (D := (dC, dI)) (ci := 7) (v := .int 0) (C := RX7) (T := TX7) (N := 92) hx hb hts hinX7 hown hK hP 4 rfl rfl 13 (by decide) w_2 rfl rfl dX7_most_60 ?_
      refine k_iald (v := 0) hx hb hK hP 5 0 0 rfl rfl rfl (Nat.le_of_ble_eq_true rfl) (Nat.le_of_ble_eq_true rfl) rfl dX7_most_63 ?_
      refine lv_ishl hx hb dX7_most_64 ?_
      refine k_int (v := 1) (by decide +kernel) ?_
      refine lv_icmp_ge (tgt := 160) hx hb dX7_most_65 (by decide) (fun q9 => absurd q9 (by decide +kernel)) (fun _ => ?_)
      refine lv_aload_n hx hb dX7_most_68 rfl (lv_at hl 4 rfl) ?_
      refine k_get (D := (dC, dI)) (ci := 7) (v := .ref (p3 72)) (C := RX7) (T := TX7) (N := 92) hx hb hts hinX7 hown hK hP 4 rfl rfl 72 (by decide) w_3 rfl rfl dX7_most_69 ?_
      refine lv_sipush (v := 1024) hx hb dX7_most_72 (by decide +kernel) ?_
      refine lv_iload hx hb dX7_most_75 (lv_at hl 1 rfl) ?_
      refine lv_imul hx hb dX7_most_77 ?_
      refine k_int (v := 0) (by decide +kernel) ?_
      refine lv_iload hx hb dX7_most_78 (lv_at hl 0 rfl) ?_
      refine lv_iadd hx hb dX7_most_80 ?_
      refine k_int (v := 0) (by decide +kernel) ?_
      refine k_iald (v := 0) hx hb hK hP 2 0 0 rfl rfl rfl (Nat.le_of_ble_eq_true rfl) (Nat.le_of_ble_eq_true rfl) rfl dX7_most_81 ?_
      refine lv_istore (lv' := [(7, .int 0), (6, .int 0), (5, .int 0), (4, .int (-1)), (3, .int (-1)), (0, .ref p0), (1, .int 5), (2, .int p2)]) hx hb dX7_most_82 hl (by decide) rfl (fun ls hl => ?_)
      refine lv_iload hx hb dX7_most_84 (lv_at hl 0 rfl) ?_
      refine lv_iconst (v := (-1)) hx hb dX7_most_86 (by decide +kernel) ?_
      refine lv_icmp_ne (tgt := 93) hx hb dX7_most_87 (by decide) (fun _ => ?_) (fun q9 => absurd q9 (by decide +kernel))
      refine lv_aload_n hx hb dX7_most_93 rfl (lv_at hl 5 rfl) ?_
      refine lv_iload hx hb dX7_most_94 (lv_at hl 1 rfl) ?_
      refine lv_iload_n hx hb dX7_most_96 rfl (lv_at hl 4 rfl) ?_
      refine lv_iand hx hb dX7_most_97 ?_
      refine k_int (v := 0) (by decide +kernel) ?_
      refine k_ci (wc := [(p0, .inr (7, oM p3 (upd i7 75 (-1)) j7)), ((p3 14), .inl (cI, 2, .inl (fun _ => 0)))]) (wr := [((p3 49), .inl (cI, 22, .inl (fun _ => 0))), ((p3 50), .inl (cI, 22, .inl (fun _ => 0))), ((p3 72), .inl (cI, 9216, .inl (upd (fun _ => (-1)) 0 0))), ((p3 18), .inl (cI, 2, .inl (fun _ => 0)))]) (fun hPc hDc hFc => va_runV (As := [.int 0]) (rest := []) ⟨hx, hb, hml, hown, hts⟩ (c_X7_worthOf_v1 l dC dI cI cJ cZ cM p0 p3 H.size) (cwV 1 hts gX7_most_X7_worthOf rfl rfl rfl (by decide +kernel) ⟨(Nat.le_of_ble_eq_true rfl), (Nat.le_of_ble_eq_true rfl)⟩) (k_pV hPc hDc hK hN hC hS hFc hP (q0 := 4) (ci := 7) rfl rfl) rfl rfl hl.1 rfl (lv_room (Nat.le_of_ble_eq_true rfl)) dX7_most_98 ⟨(Nat.le_of_ble_eq_true rfl), (Nat.le_of_ble_eq_true rfl)⟩) hP hD hS hA [4, 5] [0, 1, 2, 3] rfl rfl rfl rfl (by decide) (fun _ => rfl) 0 0 rfl rfl (fun r_115 u_116 H locs hw hP hD hS => ?_)
      obtain rfl : r_115 = 0 := hw
      have hP : va_P (dC, dI) vwCl [((p3 49), .inl (cI, 22, .inl (fun _ => 0))), ((p3 50), .inl (cI, 22, .inl (fun _ => 0))), ((p3 72), .inl (cI, 9216, .inl (upd (fun _ => (-1)) 0 0))), ((p3 18), .inl (cI, 2, .inl (fun _ => 0))), (p0, .inr (7, oM p3 (upd i7 75 (-1)) j7)), ((p3 14), .inl (cI, 2, .inl (fun _ => 0)))] H := hP
      have hD : va_D A [((p3 49), .inl (cI, 22, .inl (fun _ => 0))), ((p3 50), .inl (cI, 22, .inl (fun _ => 0))), ((p3 72), .inl (cI, 9216, .inl (upd (fun _ => (-1)) 0 0))), ((p3 18), .inl (cI, 2, .inl (fun _ => 0))), (p0, .inr (7, oM p3 (upd i7 75 (-1)) j7)), ((p3 14), .inl (cI, 2, .inl (fun _ => 0)))] := hD
      refine lv_istore (lv' := [(8, .int 0), (7, .int 0), (6, .int 0), (5, .int 0), (4, .int (-1)), (3, .int (-1)), (0, .ref p0), (1, .int 5), (2, .int p2)]) hx hb dX7_most_101 hl (by decide) rfl (fun ls hl => ?_)
      refine lv_iload hx hb dX7_most_103 (lv_at hl 0 rfl) ?_
      refine lv_iload hx hb dX7_most_105 (lv_at hl 4 rfl) ?_
      refine lv_icmp_lt (tgt := 154) hx hb dX7_most_107 (by decide) (fun q9 => absurd q9 (by decide +kernel)) (fun _ => ?_)
      refine lv_iload hx hb dX7_most_110 (lv_at hl 0 rfl) ?_
      refine lv_iload hx hb dX7_most_112 (lv_at hl 4 rfl) ?_
      refine lv_icmp_ne (tgt := 138) hx hb dX7_most_114 (by decide) (fun _ => ?_) (fun q9 => absurd q9 (by decide +kernel))
      refine lv_iload hx hb dX7_most_138 (lv_at hl 0 rfl) ?_
      refine lv_istore (lv' := [(4, .int 0), (8, .int 0), (7, .int 0), (6, .int 0), (5, .int 0), (3, .int (-1)), (0, .ref p0), (1, .int 5), (2, .int p2)]) hx hb dX7_most_140 hl (by decide) rfl (fun ls hl => ?_)
      refine lv_aload_n hx hb dX7_most_142 rfl (lv_at hl 6 rfl) ?_
      refine lv_iload hx hb dX7_most_143 (lv_at hl 4 rfl) ?_
      refine k_put (D := (dC, dI)) (ci := 7) (v := .int 0) (C := RX7) (T := TX7) (N := 92) (ws' := [((p3 49), .inl (cI, 22, .inl (fun _ => 0))), ((p3 50), .inl (cI, 22, .inl (fun _ => 0))), ((p3 72), .inl (cI, 9216, .inl (upd (fun _ => (-1)) 0 0))), ((p3 18), .inl (cI, 2, .inl (fun _ => 0))), (p0, .inr (7, oM p3 (upd i7 75 0) j7)), ((p3 14), .inl (cI, 2, .inl (fun _ => 0)))]) hx hb hts hinX7 tyX7 tyX7_ok nmX7 hown hK hP hD hS 4 rfl rfl 75 (by decide) w_0 rfl rfl rfl rfl (Nat.le_of_ble_eq_true rfl) rfl dX7_most_145 (fun H locs hP hD hS => ?_)
      refine lv_aload_n hx hb dX7_most_148 rfl (lv_at hl 6 rfl) ?_
      refine lv_iload hx hb dX7_most_149 (lv_at hl 3 rfl) ?_
      refine k_put (D := (dC, dI)) (ci := 7) (v := .int 0) (C := RX7) (T := TX7) (N := 92) (ws' := [((p3 49), .inl (cI, 22, .inl (fun _ => 0))), ((p3 50), .inl (cI, 22, .inl (fun _ => 0))), ((p3 72), .inl (cI, 9216, .inl (upd (fun _ => (-1)) 0 0))), ((p3 18), .inl (cI, 2, .inl (fun _ => 0))), (p0, .inr (7, oM p3 (upd (upd i7 75 0) 76 0) j7)), ((p3 14), .inl (cI, 2, .inl (fun _ => 0)))]) hx hb hts hinX7 tyX7 tyX7_ok nmX7 hown hK hP hD hS 4 rfl rfl 76 (by decide) w_4 rfl rfl rfl rfl (Nat.le_of_ble_eq_true rfl) rfl dX7_most_151 (fun H locs hP hD hS => ?_)
      refine lv_iinc (v := 1) (lv' := [(6, .int 1), (4, .int 0), (8, .int 0), (7, .int 0), (5, .int 0), (3, .int (-1)), (0, .ref p0), (1, .int 5), (2, .int p2)]) hx hb dX7_most_154 hl (k := 3) rfl (by decide +kernel) (by decide) rfl (fun ls hl => ?_)
      refine lv_goto (tgt := 52) hx hb dX7_most_157 (by decide) ?_
      refine lv_iload hx hb dX7_most_52 (lv_at hl 0 rfl) ?_
      refine lv_iconst (v := 1) hx hb dX7_most_54 (by decide +kernel) ?_
      refine lv_aload_n hx hb dX7_most_55 rfl (lv_at hl 6 rfl) ?_
      refine k_get (D := (dC, dI)) (ci := 7) (v := .ref (p3 14)) (C := RX7) (T := TX7) (N := 92) hx hb hts hinX7 hown hK hP 4 rfl rfl 14 (by decide) w_1 rfl rfl dX7_most_56 ?_
      refine lv_aload_n hx hb dX7_most_59 rfl (lv_at hl 6 rfl) ?_
      refine k_get (D := (dC, dI)) (ci := 7) (v := .int 0) (C := RX7) (T := TX7) (N := 92) hx hb hts hinX7 hown hK hP 4 rfl rfl 13 (by decide) w_2 rfl rfl dX7_most_60 ?_
      refine k_iald (v := 0) hx hb hK hP 5 0 0 rfl rfl rfl (Nat.le_of_ble_eq_true rfl) (Nat.le_of_ble_eq_true rfl) rfl dX7_most_63 ?_
      refine lv_ishl hx hb dX7_most_64 ?_
      refine k_int (v := 1) (by decide +kernel) ?_
      refine lv_icmp_ge (tgt := 160) hx hb dX7_most_65 (by decide) (fun _ => ?_) (fun q9 => absurd q9 (by decide +kernel))
      refine lv_iinc (v := 1) (lv' := [(5, .int 1), (6, .int 1), (4, .int 0), (8, .int 0), (7, .int 0), (3, .int (-1)), (0, .ref p0), (1, .int 5), (2, .int p2)]) hx hb dX7_most_160 hl (k := 4) rfl (by decide +kernel) (by decide) rfl (fun ls hl => ?_)
      refine lv_goto (tgt := 43) hx hb dX7_most_163 (by decide) ?_
      refine lv_iload hx hb dX7_most_43 (lv_at hl 0 rfl) ?_
      refine lv_iload_n hx hb dX7_most_45 rfl (lv_at hl 7 rfl) ?_
      refine lv_icmp_gt (tgt := 166) hx hb dX7_most_46 (by decide) (fun q9 => absurd q9 (by decide +kernel)) (fun _ => ?_)
      refine lv_iconst (v := 0) hx hb dX7_most_49 (by decide +kernel) ?_
      refine lv_istore (lv' := [(6, .int 0), (5, .int 1), (4, .int 0), (8, .int 0), (7, .int 0), (3, .int (-1)), (0, .ref p0), (1, .int 5), (2, .int p2)]) hx hb dX7_most_50 hl (by decide) rfl (fun ls hl => ?_)
      refine lv_iload hx hb dX7_most_52 (lv_at hl 0 rfl) ?_
      refine lv_iconst (v := 1) hx hb dX7_most_54 (by decide +kernel) ?_
      refine lv_aload_n hx hb dX7_most_55 rfl (lv_at hl 6 rfl) ?_
      refine k_get (D := (dC, dI)) (ci := 7) (v := .ref (p3 14)) (C := RX7) (T := TX7) (N := 92) hx hb hts hinX7 hown hK hP 4 rfl rfl 14 (by decide) w_1 rfl rfl dX7_most_56 ?_
      refine lv_aload_n hx hb dX7_most_59 rfl (lv_at hl 6 rfl) ?_
      refine k_get (D := (dC, dI)) (ci := 7) (v := .int 0) (C := RX7) (T := TX7) (N := 92) hx hb hts hinX7 hown hK hP 4 rfl rfl 13 (by decide) w_2 rfl rfl dX7_most_60 ?_
      refine k_iald (v := 0) hx hb hK hP 5 0 0 rfl rfl rfl (Nat.le_of_ble_eq_true rfl) (Nat.le_of_ble_eq_true rfl) rfl dX7_most_63 ?_
      refine lv_ishl hx hb dX7_most_64 ?_
      refine k_int (v := 1) (by decide +kernel) ?_
      refine lv_icmp_ge (tgt := 160) hx hb dX7_most_65 (by decide) (fun q9 => absurd q9 (by decide +kernel)) (fun _ => ?_)
      refine lv_aload_n hx hb dX7_most_68 rfl (lv_at hl 6 rfl) ?_
      refine k_get (D := (dC, dI)) (ci := 7) (v := .ref (p3 72)) (C := RX7) (T := TX7) (N := 92) hx hb hts hinX7 hown hK hP 4 rfl rfl 72 (by decide) w_3 rfl rfl dX7_most_69 ?_
      refine lv_sipush (v := 1024) hx hb dX7_most_72 (by decide +kernel) ?_
      refine lv_iload hx hb dX7_most_75 (lv_at hl 1 rfl) ?_
      refine lv_imul hx hb dX7_most_77 ?_
      refine k_int (v := 1024) (by decide +kernel) ?_
      refine lv_iload hx hb dX7_most_78 (lv_at hl 0 rfl) ?_
      refine lv_iadd hx hb dX7_most_80 ?_
      refine k_int (v := 1024) (by decide +kernel) ?_
      refine k_iald (v := (-1)) hx hb hK hP 2 0 1024 rfl rfl rfl (Nat.le_of_ble_eq_true rfl) (Nat.le_of_ble_eq_true rfl) rfl dX7_most_81 ?_
      refine lv_istore (lv' := [(7, .int (-1)), (6, .int 0), (5, .int 1), (4, .int 0), (8, .int 0), (3, .int (-1)), (0, .ref p0), (1, .int 5), (2, .int p2)]) hx hb dX7_most_82 hl (by decide) rfl (fun ls hl => ?_)
      refine lv_iload hx hb dX7_most_84 (lv_at hl 0 rfl) ?_
      refine lv_iconst (v := (-1)) hx hb dX7_most_86 (by decide +kernel) ?_
      refine lv_icmp_ne (tgt := 93) hx hb dX7_most_87 (by decide) (fun q9 => absurd q9 (by decide +kernel)) (fun _ => ?_)
      refine lv_goto (tgt := 154) hx hb dX7_most_90 (by decide) ?_
      refine lv_iinc (v := 1) (lv' := [(6, .int 1), (7, .int (-1)), (5, .int 1), (4, .int 0), (8, .int 0), (3, .int (-1)), (0, .ref p0), (1, .int 5), (2, .int p2)]) hx hb dX7_most_154 hl (k := 1) rfl (by decide +kernel) (by decide) rfl (fun ls hl => ?_)
      refine lv_goto (tgt := 52) hx hb dX7_most_157 (by decide) ?_
      refine lv_iload hx hb dX7_most_52 (lv_at hl 0 rfl) ?_
      refine lv_iconst (v := 1) hx hb dX7_most_54 (by decide +kernel) ?_
      refine lv_aload_n hx hb dX7_most_55 rfl (lv_at hl 6 rfl) ?_
      refine k_get (D := (dC, dI)) (ci := 7) (v := .ref (p3 14)) (C := RX7) (T := TX7) (N := 92) hx hb hts hinX7 hown hK hP 4 rfl rfl 14 (by decide) w_1 rfl rfl dX7_most_56 ?_
      refine lv_aload_n hx hb dX7_most_59 rfl (lv_at hl 6 rfl) ?_
      refine k_get (D := (dC, dI)) (ci := 7) (v := .int 0) (C := RX7) (T := TX7) (N := 92) hx hb hts hinX7 hown hK hP 4 rfl rfl 13 (by decide) w_2 rfl rfl dX7_most_60 ?_
      refine k_iald (v := 0) hx hb hK hP 5 0 0 rfl rfl rfl (Nat.le_of_ble_eq_true rfl) (Nat.le_of_ble_eq_true rfl) rfl dX7_most_63 ?_
      refine lv_ishl hx hb dX7_most_64 ?_
      refine k_int (v := 1) (by decide +kernel) ?_
      refine lv_icmp_ge (tgt := 160) hx hb dX7_most_65 (by decide) (fun _ => ?_) (fun q9 => absurd q9 (by decide +kernel))
      refine lv_iinc (v := 2) (lv' := [(5, .int 2), (6, .int 1), (7, .int (-1)), (4, .int 0), (8, .int 0), (3, .int (-1)), (0, .ref p0), (1, .int 5), (2, .int p2)]) hx hb dX7_most_160 hl (k := 2) rfl (by decide +kernel) (by decide) rfl (fun ls hl => ?_)
      refine lv_goto (tgt := 43) hx hb dX7_most_163 (by decide) ?_
      refine lv_iload hx hb dX7_most_43 (lv_at hl 0 rfl) ?_
      refine lv_iload_n hx hb dX7_most_45 rfl (lv_at hl 7 rfl) ?_
      refine lv_icmp_gt (tgt := 166) hx hb dX7_most_46 (by decide) (fun q9 => absurd q9 (by decide +kernel)) (fun _ => ?_)
      refine lv_iconst (v := 0) hx hb dX7_most_49 (by decide +kernel) ?_
      refine lv_istore (lv' := [(6, .int 0), (5, .int 2), (7, .int (-1)), (4, .int 0), (8, .int 0), (3, .int (-1)), (0, .ref p0), (1, .int 5), (2, .int p2)]) hx hb dX7_most_50 hl (by decide) rfl (fun ls hl => ?_)
      refine lv_iload hx hb dX7_most_52 (lv_at hl 0 rfl) ?_
      refine lv_iconst (v := 1) hx hb dX7_most_54 (by decide +kernel) ?_
      refine lv_aload_n hx hb dX7_most_55 rfl (lv_at hl 6 rfl) ?_
      refine k_get (D := (dC, dI)) (ci := 7) (v := .ref (p3 14)) (C := RX7) (T := TX7) (N := 92) hx hb hts hinX7 hown hK hP 4 rfl rfl 14 (by decide) w_1 rfl rfl dX7_most_56 ?_
      refine lv_aload_n hx hb dX7_most_59 rfl (lv_at hl 6 rfl) ?_
      refine k_get (D := (dC, dI)) (ci := 7) (v := .int 0) (C := RX7) (T := TX7) (N := 92) hx hb hts hinX7 hown hK hP 4 rfl rfl 13 (by decide) w_2 rfl rfl dX7_most_60 ?_
      refine k_iald (v := 0) hx hb hK hP 5 0 0 rfl rfl rfl (Nat.le_of_ble_eq_true rfl) (Nat.le_of_ble_eq_true rfl) rfl dX7_most_63 ?_
      refine lv_ishl hx hb dX7_most_64 ?_
      refine k_int (v := 1) (by decide +kernel) ?_
      refine lv_icmp_ge (tgt := 160) hx hb dX7_most_65 (by decide) (fun q9 => absurd q9 (by decide +kernel)) (fun _ => ?_)
      refine lv_aload_n hx hb dX7_most_68 rfl (lv_at hl 6 rfl) ?_
      refine k_get (D := (dC, dI)) (ci := 7) (v := .ref (p3 72)) (C := RX7) (T := TX7) (N := 92) hx hb hts hinX7 hown hK hP 4 rfl rfl 72 (by decide) w_3 rfl rfl dX7_most_69 ?_
      refine lv_sipush (v := 1024) hx hb dX7_most_72 (by decide +kernel) ?_
      refine lv_iload hx hb dX7_most_75 (lv_at hl 1 rfl) ?_
      refine lv_imul hx hb dX7_most_77 ?_
      refine k_int (v := 2048) (by decide +kernel) ?_
      refine lv_iload hx hb dX7_most_78 (lv_at hl 0 rfl) ?_
      refine lv_iadd hx hb dX7_most_80 ?_
      refine k_int (v := 2048) (by decide +kernel) ?_
      refine k_iald (v := (-1)) hx hb hK hP 2 0 2048 rfl rfl rfl (Nat.le_of_ble_eq_true rfl) (Nat.le_of_ble_eq_true rfl) rfl dX7_most_81 ?_
      refine lv_istore (lv' := [(7, .int (-1)), (6, .int 0), (5, .int 2), (4, .int 0), (8, .int 0), (3, .int (-1)), (0, .ref p0), (1, .int 5), (2, .int p2)]) hx hb dX7_most_82 hl (by decide) rfl (fun ls hl => ?_)
      refine lv_iload hx hb dX7_most_84 (lv_at hl 0 rfl) ?_
      refine lv_iconst (v := (-1)) hx hb dX7_most_86 (by decide +kernel) ?_
      refine lv_icmp_ne (tgt := 93) hx hb dX7_most_87 (by decide) (fun q9 => absurd q9 (by decide +kernel)) (fun _ => ?_)
      refine lv_goto (tgt := 154) hx hb dX7_most_90 (by decide) ?_
      refine lv_iinc (v := 1) (lv' := [(6, .int 1), (7, .int (-1)), (5, .int 2), (4, .int 0), (8, .int 0), (3, .int (-1)), (0, .ref p0), (1, .int 5), (2, .int p2)]) hx hb dX7_most_154 hl (k := 1) rfl (by decide +kernel) (by decide) rfl (fun ls hl => ?_)
      refine lv_goto (tgt := 52) hx hb dX7_most_157 (by decide) ?_
      refine lv_iload hx hb dX7_most_52 (lv_at hl 0 rfl) ?_
      refine lv_iconst (v := 1) hx hb dX7_most_54 (by decide +kernel) ?_
      refine lv_aload_n hx hb dX7_most_55 rfl (lv_at hl 6 rfl) ?_
      refine k_get (D := (dC, dI)) (ci := 7) (v := .ref (p3 14)) (C := RX7) (T := TX7) (N := 92) hx hb hts hinX7 hown hK hP 4 rfl rfl 14 (by decide) w_1 rfl rfl dX7_most_56 ?_
      refine lv_aload_n hx hb dX7_most_59 rfl (lv_at hl 6 rfl) ?_
      refine k_get (D := (dC, dI)) (ci := 7) (v := .int 0) (C := RX7) (T := TX7) (N := 92) hx hb hts hinX7 hown hK hP 4 rfl rfl 13 (by decide) w_2 rfl rfl dX7_most_60 ?_
      refine k_iald (v := 0) hx hb hK hP 5 0 0 rfl rfl rfl (Nat.le_of_ble_eq_true rfl) (Nat.le_of_ble_eq_true rfl) rfl dX7_most_63 ?_
      refine lv_ishl hx hb dX7_most_64 ?_
      refine k_int (v := 1) (by decide +kernel) ?_
      refine lv_icmp_ge (tgt := 160) hx hb dX7_most_65 (by decide) (fun _ => ?_) (fun q9 => absurd q9 (by decide +kernel))
      refine lv_iinc (v := 3) (lv' := [(5, .int 3), (6, .int 1), (7, .int (-1)), (4, .int 0), (8, .int 0), (3, .int (-1)), (0, .ref p0), (1, .int 5), (2, .int p2)]) hx hb dX7_most_160 hl (k := 2) rfl (by decide +kernel) (by decide) rfl (fun ls hl => ?_)
      refine lv_goto (tgt := 43) hx hb dX7_most_163 (by decide) ?_
      refine lv_iload hx hb dX7_most_43 (lv_at hl 0 rfl) ?_
      refine lv_iload_n hx hb dX7_most_45 rfl (lv_at hl 7 rfl) ?_
      refine lv_icmp_gt (tgt := 166) hx hb dX7_most_46 (by decide) (fun q9 => absurd q9 (by decide +kernel)) (fun _ => ?_)
      refine lv_iconst (v := 0) hx hb dX7_most_49 (by decide +kernel) ?_
      refine lv_istore (lv' := [(6, .int 0), (5, .int 3), (7, .int (-1)), (4, .int 0), (8, .int 0), (3, .int (-1)), (0, .ref p0), (1, .int 5), (2, .int p2)]) hx hb dX7_most_50 hl (by decide) rfl (fun ls hl => ?_)
      refine lv_iload hx hb dX7_most_52 (lv_at hl 0 rfl) ?_
      refine lv_iconst (v := 1) hx hb dX7_most_54 (by decide +kernel) ?_
      refine lv_aload_n hx hb dX7_most_55 rfl (lv_at hl 6 rfl) ?_
      refine k_get (D := (dC, dI)) (ci := 7) (v := .ref (p3 14)) (C := RX7) (T := TX7) (N := 92) hx hb hts hinX7 hown hK hP 4 rfl rfl 14 (by decide) w_1 rfl rfl dX7_most_56 ?_
      refine lv_aload_n hx hb dX7_most_59 rfl (lv_at hl 6 rfl) ?_
      refine k_get (D := (dC, dI)) (ci := 7) (v := .int 0) (C := RX7) (T := TX7) (N := 92) hx hb hts hinX7 hown hK hP 4 rfl rfl 13 (by decide) w_2 rfl rfl dX7_most_60 ?_
      refine k_iald (v := 0) hx hb hK hP 5 0 0 rfl rfl rfl (Nat.le_of_ble_eq_true rfl) (Nat.le_of_ble_eq_true rfl) rfl dX7_most_63 ?_
      refine lv_ishl hx hb dX7_most_64 ?_
      refine k_int (v := 1) (by decide +kernel) ?_
      refine lv_icmp_ge (tgt := 160) hx hb dX7_most_65 (by decide) (fun q9 => absurd q9 (by decide +kernel)) (fun _ => ?_)
      refine lv_aload_n hx hb dX7_most_68 rfl (lv_at hl 6 rfl) ?_
      refine k_get (D := (dC, dI)) (ci := 7) (v := .ref (p3 72)) (C := RX7) (T := TX7) (N := 92) hx hb hts hinX7 hown hK hP 4 rfl rfl 72 (by decide) w_3 rfl rfl dX7_most_69 ?_
      refine lv_sipush (v := 1024) hx hb dX7_most_72 (by decide +kernel) ?_
      refine lv_iload hx hb dX7_most_75 (lv_at hl 1 rfl) ?_
      refine lv_imul hx hb dX7_most_77 ?_
      refine k_int (v := 3072) (by decide +kernel) ?_
      refine lv_iload hx hb dX7_most_78 (lv_at hl 0 rfl) ?_
      refine lv_iadd hx hb dX7_most_80 ?_
      refine k_int (v := 3072) (by decide +kernel) ?_
      refine k_iald (v := (-1)) hx hb hK hP 2 0 3072 rfl rfl rfl (Nat.le_of_ble_eq_true rfl) (Nat.le_of_ble_eq_true rfl) rfl dX7_most_81 ?_
      refine lv_istore (lv' := [(7, .int (-1)), (6, .int 0), (5, .int 3), (4, .int 0), (8, .int 0), (3, .int (-1)), (0, .ref p0), (1, .int 5), (2, .int p2)]) hx hb dX7_most_82 hl (by decide) rfl (fun ls hl => ?_)
      refine lv_iload hx hb dX7_most_84 (lv_at hl 0 rfl) ?_
      refine lv_iconst (v := (-1)) hx hb dX7_most_86 (by decide +kernel) ?_
      refine lv_icmp_ne (tgt := 93) hx hb dX7_most_87 (by decide) (fun q9 => absurd q9 (by decide +kernel)) (fun _ => ?_)
      refine lv_goto (tgt := 154) hx hb dX7_most_90 (by decide) ?_
      refine lv_iinc (v := 1) (lv' := [(6, .int 1), (7, .int (-1)), (5, .int 3), (4, .int 0), (8, .int 0), (3, .int (-1)), (0, .ref p0), (1, .int 5), (2, .int p2)]) hx hb dX7_most_154 hl (k := 1) rfl (by decide +kernel) (by decide) rfl (fun ls hl => ?_)
      refine lv_goto (tgt := 52) hx hb dX7_most_157 (by decide) ?_
      refine lv_iload hx hb dX7_most_52 (lv_at hl 0 rfl) ?_
      refine lv_iconst (v := 1) hx hb dX7_most_54 (by decide +kernel) ?_
      refine lv_aload_n hx hb dX7_most_55 rfl (lv_at hl 6 rfl) ?_
      refine k_get (D := (dC, dI)) (ci := 7) (v := .ref (p3 14)) (C := RX7) (T := TX7) (N := 92) hx hb hts hinX7 hown hK hP 4 rfl rfl 14 (by decide) w_1 rfl rfl dX7_most_56 ?_
      refine lv_aload_n hx hb dX7_most_59 rfl (lv_at hl 6 rfl) ?_
      refine k_get (D := (dC, dI)) (ci := 7) (v := .int 0) (C := RX7) (T := TX7) (N := 92) hx hb hts hinX7 hown hK hP 4 rfl rfl 13 (by decide) w_2 rfl rfl dX7_most_60 ?_
      refine k_iald (v := 0) hx hb hK hP 5 0 0 rfl rfl rfl (Nat.le_of_ble_eq_true rfl) (Nat.le_of_ble_eq_true rfl) rfl dX7_most_63 ?_
      refine lv_ishl hx hb dX7_most_64 ?_
      refine k_int (v := 1) (by decide +kernel) ?_
      refine lv_icmp_ge (tgt := 160) hx hb dX7_most_65 (by decide) (fun _ => ?_) (fun q9 => absurd q9 (by decide +kernel))
      refine lv_iinc (v := 4) (lv' := [(5, .int 4), (6, .int 1), (7, .int (-1)), (4, .int 0), (8, .int 0), (3, .int (-1)), (0, .ref p0), (1, .int 5), (2, .int p2)]) hx hb dX7_most_160 hl (k := 2) rfl (by decide +kernel) (by decide) rfl (fun ls hl => ?_)
      refine lv_goto (tgt := 43) hx hb dX7_most_163 (by decide) ?_
      refine lv_iload hx hb dX7_most_43 (lv_at hl 0 rfl) ?_
      refine lv_iload_n hx hb dX7_most_45 rfl (lv_at hl 7 rfl) ?_
      refine lv_icmp_gt (tgt := 166) hx hb dX7_most_46 (by decide) (fun q9 => absurd q9 (by decide +kernel)) (fun _ => ?_)
      refine lv_iconst (v := 0) hx hb dX7_most_49 (by decide +kernel) ?_
      refine lv_istore (lv' := [(6, .int 0), (5, .int 4), (7, .int (-1)), (4, .int 0), (8, .int 0), (3, .int (-1)), (0, .ref p0), (1, .int 5), (2, .int p2)]) hx hb dX7_most_50 hl (by decide) rfl (fun ls hl => ?_)
      refine lv_iload hx hb dX7_most_52 (lv_at hl 0 rfl) ?_
      refine lv_iconst (v := 1) hx hb dX7_most_54 (by decide +kernel) ?_
      refine lv_aload_n hx hb dX7_most_55 rfl (lv_at hl 6 rfl) ?_
      refine k_get (D := (dC, dI)) (ci := 7) (v := .ref (p3 14)) (C := RX7) (T := TX7) (N := 92) hx hb hts hinX7 hown hK hP 4 rfl rfl 14 (by decide) w_1 rfl rfl dX7_most_56 ?_
      refine lv_aload_n hx hb dX7_most_59 rfl (lv_at hl 6 rfl) ?_
      refine k_get (D := (dC, dI)) (ci := 7) (v := .int 0) (C := RX7) (T := TX7) (N := 92) hx hb hts hinX7 hown hK hP 4 rfl rfl 13 (by decide) w_2 rfl rfl dX7_most_60 ?_
      refine k_iald (v := 0) hx hb hK hP 5 0 0 rfl rfl rfl (Nat.le_of_ble_eq_true rfl) (Nat.le_of_ble_eq_true rfl) rfl dX7_most_63 ?_
      refine lv_ishl hx hb dX7_most_64 ?_
      refine k_int (v := 1) (by decide +kernel) ?_
      refine lv_icmp_ge (tgt := 160) hx hb dX7_most_65 (by decide) (fun q9 => absurd q9 (by decide +kernel)) (fun _ => ?_)
      refine lv_aload_n hx hb dX7_most_68 rfl (lv_at hl 6 rfl) ?_
      refine k_get (D := (dC, dI)) (ci := 7) (v := .ref (p3 72)) (C := RX7) (T := TX7) (N := 92) hx hb hts hinX7 hown hK hP 4 rfl rfl 72 (by decide) w_3 rfl rfl dX7_most_69 ?_
      refine lv_sipush (v := 1024) hx hb dX7_most_72 (by decide +kernel) ?_
      refine lv_iload hx hb dX7_most_75 (lv_at hl 1 rfl) ?_
      refine lv_imul hx hb dX7_most_77 ?_
      refine k_int (v := 4096) (by decide +kernel) ?_
      refine lv_iload hx hb dX7_most_78 (lv_at hl 0 rfl) ?_
      refine lv_iadd hx hb dX7_most_80 ?_
      refine k_int (v := 4096) (by decide +kernel) ?_
      refine k_iald (v := (-1)) hx hb hK hP 2 0 4096 rfl rfl rfl (Nat.le_of_ble_eq_true rfl) (Nat.le_of_ble_eq_true rfl) rfl dX7_most_81 ?_
      refine lv_istore (lv' := [(7, .int (-1)), (6, .int 0), (5, .int 4), (4, .int 0), (8, .int 0), (3, .int (-1)), (0, .ref p0), (1, .int 5), (2, .int p2)]) hx hb dX7_most_82 hl (by decide) rfl (fun ls hl => ?_)
      refine lv_iload hx hb dX7_most_84 (lv_at hl 0 rfl) ?_
      refine lv_iconst (v := (-1)) hx hb dX7_most_86 (by decide +kernel) ?_
      refine lv_icmp_ne (tgt := 93) hx hb dX7_most_87 (by decide) (fun q9 => absurd q9 (by decide +kernel)) (fun _ => ?_)
      refine lv_goto (tgt := 154) hx hb dX7_most_90 (by decide) ?_
      refine lv_iinc (v := 1) (lv' := [(6, .int 1), (7, .int (-1)), (5, .int 4), (4, .int 0), (8, .int 0), (3, .int (-1)), (0, .ref p0), (1, .int 5), (2, .int p2)]) hx hb dX7_most_154 hl (k := 1) rfl (by decide +kernel) (by decide) rfl (fun ls hl => ?_)
      refine lv_goto (tgt := 52) hx hb dX7_most_157 (by decide) ?_
      refine lv_iload hx hb dX7_most_52 (lv_at hl 0 rfl) ?_
      refine lv_iconst (v := 1) hx hb dX7_most_54 (by decide +kernel) ?_
      refine lv_aload_n hx hb dX7_most_55 rfl (lv_at hl 6 rfl) ?_
      refine k_get (D := (dC, dI)) (ci := 7) (v := .ref (p3 14)) (C := RX7) (T := TX7) (N := 92) hx hb hts hinX7 hown hK hP 4 rfl rfl 14 (by decide) w_1 rfl rfl dX7_most_56 ?_
      refine lv_aload_n hx hb dX7_most_59 rfl (lv_at hl 6 rfl) ?_
      refine k_get (D := (dC, dI)) (ci := 7) (v := .int 0) (C := RX7) (T := TX7) (N := 92) hx hb hts hinX7 hown hK hP 4 rfl rfl 13 (by decide) w_2 rfl rfl dX7_most_60 ?_
      refine k_iald (v := 0) hx hb hK hP 5 0 0 rfl rfl rfl (Nat.le_of_ble_eq_true rfl) (Nat.le_of_ble_eq_true rfl) rfl dX7_most_63 ?_
      refine lv_ishl hx hb dX7_most_64 ?_
      refine k_int (v := 1) (by decide +kernel) ?_
      refine lv_icmp_ge (tgt := 160) hx hb dX7_most_65 (by decide) (fun _ => ?_) (fun q9 => absurd q9 (by decide +kernel))
      refine lv_iinc (v := 5) (lv' := [(5, .int 5), (6, .int 1), (7, .int (-1)), (4, .int 0), (8, .int 0), (3, .int (-1)), (0, .ref p0), (1, .int 5), (2, .int p2)]) hx hb dX7_most_160 hl (k := 2) rfl (by decide +kernel) (by decide) rfl (fun ls hl => ?_)
      refine lv_goto (tgt := 43) hx hb dX7_most_163 (by decide) ?_
      refine lv_iload hx hb dX7_most_43 (lv_at hl 0 rfl) ?_
      refine lv_iload_n hx hb dX7_most_45 rfl (lv_at hl 7 rfl) ?_
      refine lv_icmp_gt (tgt := 166) hx hb dX7_most_46 (by decide) (fun q9 => absurd q9 (by decide +kernel)) (fun _ => ?_)
      refine lv_iconst (v := 0) hx hb dX7_most_49 (by decide +kernel) ?_
      refine lv_istore (lv' := [(6, .int 0), (5, .int 5), (7, .int (-1)), (4, .int 0), (8, .int 0), (3, .int (-1)), (0, .ref p0), (1, .int 5), (2, .int p2)]) hx hb dX7_most_50 hl (by decide) rfl (fun ls hl => ?_)
      refine lv_iload hx hb dX7_most_52 (lv_at hl 0 rfl) ?_
      refine lv_iconst (v := 1) hx hb dX7_most_54 (by decide +kernel) ?_
      refine lv_aload_n hx hb dX7_most_55 rfl (lv_at hl 6 rfl) ?_
      refine k_get (D := (dC, dI)) (ci := 7) (v := .ref (p3 14)) (C := RX7) (T := TX7) (N := 92) hx hb hts hinX7 hown hK hP 4 rfl rfl 14 (by decide) w_1 rfl rfl dX7_most_56 ?_
      refine lv_aload_n hx hb dX7_most_59 rfl (lv_at hl 6 rfl) ?_
      refine k_get (D := (dC, dI)) (ci := 7) (v := .int 0) (C := RX7) (T := TX7) (N := 92) hx hb hts hinX7 hown hK hP 4 rfl rfl 13 (by decide) w_2 rfl rfl dX7_most_60 ?_
      refine k_iald (v := 0) hx hb hK hP 5 0 0 rfl rfl rfl (Nat.le_of_ble_eq_true rfl) (Nat.le_of_ble_eq_true rfl) rfl dX7_most_63 ?_
      refine lv_ishl hx hb dX7_most_64 ?_
      refine k_int (v := 1) (by decide +kernel) ?_
      refine lv_icmp_ge (tgt := 160) hx hb dX7_most_65 (by decide) (fun q9 => absurd q9 (by decide +kernel)) (fun _ => ?_)
      refine lv_aload_n hx hb dX7_most_68 rfl (lv_at hl 6 rfl) ?_
      refine k_get (D := (dC, dI)) (ci := 7) (v := .ref (p3 72)) (C := RX7) (T := TX7) (N := 92) hx hb hts hinX7 hown hK hP 4 rfl rfl 72 (by decide) w_3 rfl rfl dX7_most_69 ?_
      refine lv_sipush (v := 1024) hx hb dX7_most_72 (by decide +kernel) ?_
      refine lv_iload hx hb dX7_most_75 (lv_at hl 1 rfl) ?_
      refine lv_imul hx hb dX7_most_77 ?_
      refine k_int (v := 5120) (by decide +kernel) ?_
      refine lv_iload hx hb dX7_most_78 (lv_at hl 0 rfl) ?_
      refine lv_iadd hx hb dX7_most_80 ?_
      refine k_int (v := 5120) (by decide +kernel) ?_
      refine k_iald (v := (-1)) hx hb hK hP 2 0 5120 rfl rfl rfl (Nat.le_of_ble_eq_true rfl) (Nat.le_of_ble_eq_true rfl) rfl dX7_most_81 ?_
      refine lv_istore (lv' := [(7, .int (-1)), (6, .int 0), (5, .int 5), (4, .int 0), (8, .int 0), (3, .int (-1)), (0, .ref p0), (1, .int 5), (2, .int p2)]) hx hb dX7_most_82 hl (by decide) rfl (fun ls hl => ?_)
      refine lv_iload hx hb dX7_most_84 (lv_at hl 0 rfl) ?_
      refine lv_iconst (v := (-1)) hx hb dX7_most_86 (by decide +kernel) ?_
      refine lv_icmp_ne (tgt := 93) hx hb dX7_most_87 (by decide) (fun q9 => absurd q9 (by decide +kernel)) (fun _ => ?_)
      refine lv_goto (tgt := 154) hx hb dX7_most_90 (by decide) ?_
      refine lv_iinc (v := 1) (lv' := [(6, .int 1), (7, .int (-1)), (5, .int 5), (4, .int 0), (8, .int 0), (3, .int (-1)), (0, .ref p0), (1, .int 5), (2, .int p2)]) hx hb dX7_most_154 hl (k := 1) rfl (by decide +kernel) (by decide) rfl (fun ls hl => ?_)
      refine lv_goto (tgt := 52) hx hb dX7_most_157 (by decide) ?_
      refine lv_iload hx hb dX7_most_52 (lv_at hl 0 rfl) ?_
      refine lv_iconst (v := 1) hx hb dX7_most_54 (by decide +kernel) ?_
      refine lv_aload_n hx hb dX7_most_55 rfl (lv_at hl 6 rfl) ?_
      refine k_get (D := (dC, dI)) (ci := 7) (v := .ref (p3 14)) (C := RX7) (T := TX7) (N := 92) hx hb hts hinX7 hown hK hP 4 rfl rfl 14 (by decide) w_1 rfl rfl dX7_most_56 ?_
      refine lv_aload_n hx hb dX7_most_59 rfl (lv_at hl 6 rfl) ?_
      refine k_get (D := (dC, dI)) (ci := 7) (v := .int 0) (C := RX7) (T := TX7) (N := 92) hx hb hts hinX7 hown hK hP 4 rfl rfl 13 (by decide) w_2 rfl rfl dX7_most_60 ?_
      refine k_iald (v := 0) hx hb hK hP 5 0 0 rfl rfl rfl (Nat.le_of_ble_eq_true rfl) (Nat.le_of_ble_eq_true rfl) rfl dX7_most_63 ?_
      refine lv_ishl hx hb dX7_most_64 ?_
      refine k_int (v := 1) (by decide +kernel) ?_
      refine lv_icmp_ge (tgt := 160) hx hb dX7_most_65 (by decide) (fun _ => ?_) (fun q9 => absurd q9 (by decide +kernel))
      refine lv_iinc (v := 6) (lv' := [(5, .int 6), (6, .int 1), (7, .int (-1)), (4, .int 0), (8, .int 0), (3, .int (-1)), (0, .ref p0), (1, .int 5), (2, .int p2)]) hx hb dX7_most_160 hl (k := 2) rfl (by decide +kernel) (by decide) rfl (fun ls hl => ?_)
      refine lv_goto (tgt := 43) hx hb dX7_most_163 (by decide) ?_
      refine lv_iload hx hb dX7_most_43 (lv_at hl 0 rfl) ?_
      refine lv_iload_n hx hb dX7_most_45 rfl (lv_at hl 7 rfl) ?_
      refine lv_icmp_gt (tgt := 166) hx hb dX7_most_46 (by decide) (fun _ => ?_) (fun q9 => absurd q9 (by decide +kernel))
      refine lv_iload_n hx hb dX7_most_166 rfl (lv_at hl 8 rfl) ?_
      refine lv_if_ne (tgt := 175) hx hb dX7_most_167 (by decide) (fun c_117 => ?_) (fun c_117 => ?_)
      · have c_117 : ¬ p2.toInt = 0 := k_eqF rfl (by decide +kernel) c_117
        refine lv_iload_n hx hb dX7_most_175 rfl (lv_at hl 8 rfl) ?_
        refine lv_iconst (v := 1) hx hb dX7_most_176 (by decide +kernel) ?_
        refine lv_icmp_ne (tgt := 187) hx hb dX7_most_177 (by decide) (fun c_118 => ?_) (fun c_118 => ?_)
        · have c_118 : ¬ p2.toInt = 1 := k_eqF rfl (by decide +kernel) c_118
          refine lv_iload_n hx hb dX7_most_187 rfl (lv_at hl 8 rfl) ?_
          refine lv_iconst (v := 2) hx hb dX7_most_188 (by decide +kernel) ?_
          refine lv_icmp_ne (tgt := 199) hx hb dX7_most_189 (by decide) (fun c_119 => ?_) (fun c_119 => ?_)
          · have c_119 : ¬ p2.toInt = 2 := k_eqF rfl (by decide +kernel) c_119
            refine lv_aload_n hx hb dX7_most_199 rfl (lv_at hl 6 rfl) ?_
            refine k_get (D := (dC, dI)) (ci := 7) (v := .int 0) (C := RX7) (T := TX7) (N := 92) hx hb hts hinX7 hown hK hP 4 rfl rfl 76 (by decide) w_4 rfl rfl dX7_most_200 ?_
            exact k_ri B hP hD hS dX7_most_203 (32, (fun _ => 0)) [4, 0, 1, 2, 5, 3] rfl rfl rfl (Nat.le_of_ble_eq_true rfl) (Nat.le_of_ble_eq_true rfl) ⟨c_1, c_109, c_110, c_117, c_118, c_119, rfl⟩
          · have c_119 : p2.toInt = 2 := k_eqT rfl (by decide +kernel) c_119
            refine lv_aload_n hx hb dX7_most_192 rfl (lv_at hl 6 rfl) ?_
            refine k_ci (wc := [(p0, .inr (7, oM p3 (upd (upd i7 75 0) 76 0) j7)), ((p3 72), .inl (cI, 9216, .inl (upd (fun _ => (-1)) 0 0)))]) (wr := [((p3 49), .inl (cI, 22, .inl (fun _ => 0))), ((p3 50), .inl (cI, 22, .inl (fun _ => 0))), ((p3 18), .inl (cI, 2, .inl (fun _ => 0))), ((p3 14), .inl (cI, 2, .inl (fun _ => 0)))]) (fun hPc hDc hFc => va_runV (As := []) (rest := []) ⟨hx, hb, hml, hown, hts⟩ (c_X7_foundSea_v0 l dC dI cI cJ cZ cM p0 p3 H.size) (cwV 0 hts gX7_most_X7_foundSea rfl rfl rfl (by decide +kernel) ⟨(Nat.le_of_ble_eq_true rfl), (Nat.le_of_ble_eq_true rfl)⟩) (k_pV hPc hDc hK hN hC hS hFc hP (q0 := 4) (ci := 7) rfl rfl) rfl rfl hl.1 rfl (lv_room (Nat.le_of_ble_eq_true rfl)) dX7_most_193 ⟨(Nat.le_of_ble_eq_true rfl), (Nat.le_of_ble_eq_true rfl)⟩) hP hD hS hA [4, 2] [0, 1, 3, 5] rfl rfl rfl rfl (by decide) (fun _ => rfl) 0 0 rfl rfl (fun r_120 u_121 H locs hw hP hD hS => ?_)
            obtain rfl : r_120 = 0 := hw
            have hP : va_P (dC, dI) vwCl [((p3 49), .inl (cI, 22, .inl (fun _ => 0))), ((p3 50), .inl (cI, 22, .inl (fun _ => 0))), ((p3 18), .inl (cI, 2, .inl (fun _ => 0))), ((p3 14), .inl (cI, 2, .inl (fun _ => 0))), (p0, .inr (7, oM p3 (upd (upd i7 75 0) 76 0) j7)), ((p3 72), .inl (cI, 9216, .inl (upd (fun _ => (-1)) 0 0)))] H := hP
            have hD : va_D A [((p3 49), .inl (cI, 22, .inl (fun _ => 0))), ((p3 50), .inl (cI, 22, .inl (fun _ => 0))), ((p3 18), .inl (cI, 2, .inl (fun _ => 0))), ((p3 14), .inl (cI, 2, .inl (fun _ => 0))), (p0, .inr (7, oM p3 (upd (upd i7 75 0) 76 0) j7)), ((p3 72), .inl (cI, 9216, .inl (upd (fun _ => (-1)) 0 0)))] := hD
            refine lv_goto (tgt := 203) hx hb dX7_most_196 (by decide) ?_
            exact k_ri B hP hD hS dX7_most_203 (33, (fun _ => 0)) [4, 0, 1, 5, 3, 2] rfl rfl rfl (Nat.le_of_ble_eq_true rfl) (Nat.le_of_ble_eq_true rfl) ⟨c_1, c_109, c_110, c_117, c_118, c_119, rfl⟩
        · have c_118 : p2.toInt = 1 := k_eqT rfl (by decide +kernel) c_118
          refine lv_aload_n hx hb dX7_most_180 rfl (lv_at hl 6 rfl) ?_
          refine k_get (D := (dC, dI)) (ci := 7) (v := .int 0) (C := RX7) (T := TX7) (N := 92) hx hb hts hinX7 hown hK hP 4 rfl rfl 75 (by decide) w_0 rfl rfl dX7_most_181 ?_
          refine lv_goto (tgt := 203) hx hb dX7_most_184 (by decide) ?_
          exact k_ri B hP hD hS dX7_most_203 (34, (fun _ => 0)) [4, 0, 1, 2, 5, 3] rfl rfl rfl (Nat.le_of_ble_eq_true rfl) (Nat.le_of_ble_eq_true rfl) ⟨c_1, c_109, c_110, c_117, c_118, rfl⟩
      · have c_117 : p2.toInt = 0 := k_eqT rfl (by decide +kernel) c_117
        refine lv_iload hx hb dX7_most_170 (lv_at hl 3 rfl) ?_
        refine lv_goto (tgt := 203) hx hb dX7_most_172 (by decide) ?_
        exact k_ri B hP hD hS dX7_most_203 (35, (fun _ => 0)) [4, 0, 1, 2, 5, 3] rfl rfl rfl (Nat.le_of_ble_eq_true rfl) (Nat.le_of_ble_eq_true rfl) ⟨c_1, c_109, c_110, c_117, rfl⟩
    · exact False.elim hw
  · obtain rfl : p1 = 6 := k_eqL (by decide +kernel) c_1
    refine lv_iload_n hx hb dX7_most_0 rfl (lv_at hl 1 rfl) ?_
    refine lv_iconst (v := 0) hx hb dX7_most_1 (by decide +kernel) ?_
    refine lv_bipush (v := 8) hx hb dX7_most_2 (by decide +kernel) ?_
    refine k_ci (wc := []) (wr := [(p0, .inr (7, oM p3 i7 j7)), ((p3 49), .inl (cI, 22, .inl (fun _ => 0))), ((p3 50), .inl (cI, 22, .inl (fun _ => 0))), ((p3 72), .inl (cI, 9216, .inl (fun _ => 0))), ((p3 14), .inl (cI, 2, .inl (fun _ => 0))), ((p3 18), .inl (cI, 2, .inl (fun _ => 0)))]) (fun hPc hDc hFc => va_runS (As := [.int 6, .int 0, .int 8]) (rest := []) ⟨hx, hb, hml, hown, hts⟩ (c_X7_is_v12 l dC dI cI cJ cZ cM H.size) (va_cwS 3 hts gX7_most_X7_is rfl rfl rfl (by decide +kernel) ⟨(Nat.le_of_ble_eq_true rfl), (Nat.le_of_ble_eq_true rfl)⟩) (k_pS hPc hDc hK hN hC hS hFc) rfl rfl hl.1 rfl (lv_room (Nat.le_of_ble_eq_true rfl)) dX7_most_4 ⟨(Nat.le_of_ble_eq_true rfl), (Nat.le_of_ble_eq_true rfl)⟩) hP hD hS hA [] [0, 1, 2, 3, 4, 5] rfl rfl rfl rfl (by decide) (fun _ => rfl) 0 0 rfl rfl (fun r_122 u_123 H locs hw hP hD hS => ?_)
    obtain rfl : r_122 = 1 := hw
    have hP : va_P (dC, dI) vwCl [(p0, .inr (7, oM p3 i7 j7)), ((p3 49), .inl (cI, 22, .inl (fun _ => 0))), ((p3 50), .inl (cI, 22, .inl (fun _ => 0))), ((p3 72), .inl (cI, 9216, .inl (fun _ => 0))), ((p3 14), .inl (cI, 2, .inl (fun _ => 0))), ((p3 18), .inl (cI, 2, .inl (fun _ => 0)))] H := hP
    have hD : va_D A [(p0, .inr (7, oM p3 i7 j7)), ((p3 49), .inl (cI, 22, .inl (fun _ => 0))), ((p3 50), .inl (cI, 22, .inl (fun _ => 0))), ((p3 72), .inl (cI, 9216, .inl (fun _ => 0))), ((p3 14), .inl (cI, 2, .inl (fun _ => 0))), ((p3 18), .inl (cI, 2, .inl (fun _ => 0)))] := hD
    refine lv_if_eq (tgt := 19) hx hb dX7_most_7 (by decide) (fun q9 => absurd q9 (by decide +kernel)) (fun _ => ?_)
    refine lv_iload_n hx hb dX7_most_10 rfl (lv_at hl 2 rfl) ?_
    refine lv_iconst (v := 0) hx hb dX7_most_11 (by decide +kernel) ?_
    refine lv_iconst (v := 3) hx hb dX7_most_12 (by decide +kernel) ?_
    refine k_ci (wc := []) (wr := [(p0, .inr (7, oM p3 i7 j7)), ((p3 49), .inl (cI, 22, .inl (fun _ => 0))), ((p3 50), .inl (cI, 22, .inl (fun _ => 0))), ((p3 72), .inl (cI, 9216, .inl (fun _ => 0))), ((p3 14), .inl (cI, 2, .inl (fun _ => 0))), ((p3 18), .inl (cI, 2, .inl (fun _ => 0)))]) (fun hPc hDc hFc => va_runS (As := [.int p2, .int 0, .int 3]) (rest := []) ⟨hx, hb, hml, hown, hts⟩ (c_X7_is_v24 l dC dI cI cJ cZ cM p2 H.size) (va_cwS 3 hts gX7_most_X7_is rfl rfl rfl (by decide +kernel) ⟨(Nat.le_of_ble_eq_true rfl), (Nat.le_of_ble_eq_true rfl)⟩) (k_pS hPc hDc hK hN hC hS hFc) rfl rfl hl.1 rfl (lv_room (Nat.le_of_ble_eq_true rfl)) dX7_most_13 ⟨(Nat.le_of_ble_eq_true rfl), (Nat.le_of_ble_eq_true rfl)⟩) hP hD hS hA [] [0, 1, 2, 3, 4, 5] rfl rfl rfl rfl (by decide) (fun _ => rfl) 0 0 rfl rfl (fun r_124 u_125 H locs hw hP hD hS => ?_)
    obtain ⟨k_u_125, u_u_125⟩ := u_125
    rcases k_u_125 with _ | _ | _ | k_u_125
    · obtain ⟨c_126, rfl⟩ : (p2.toInt < 0) ∧ r_124 = 0 := hw
      have hP : va_P (dC, dI) vwCl [(p0, .inr (7, oM p3 i7 j7)), ((p3 49), .inl (cI, 22, .inl (fun _ => 0))), ((p3 50), .inl (cI, 22, .inl (fun _ => 0))), ((p3 72), .inl (cI, 9216, .inl (fun _ => 0))), ((p3 14), .inl (cI, 2, .inl (fun _ => 0))), ((p3 18), .inl (cI, 2, .inl (fun _ => 0)))] H := hP
      have hD : va_D A [(p0, .inr (7, oM p3 i7 j7)), ((p3 49), .inl (cI, 22, .inl (fun _ => 0))), ((p3 50), .inl (cI, 22, .inl (fun _ => 0))), ((p3 72), .inl (cI, 9216, .inl (fun _ => 0))), ((p3 14), .inl (cI, 2, .inl (fun _ => 0))), ((p3 18), .inl (cI, 2, .inl (fun _ => 0)))] := hD
      refine lv_if_ne (tgt := 21) hx hb dX7_most_16 (by decide) (fun q9 => absurd q9 (by decide +kernel)) (fun _ => ?_)
      refine lv_iconst (v := (-1)) hx hb dX7_most_19 (by decide +kernel) ?_
      exact k_ri B hP hD hS dX7_most_20 (36, (fun _ => 0)) [0, 1, 2, 3, 4, 5] rfl rfl rfl (Nat.le_of_ble_eq_true rfl) (Nat.le_of_ble_eq_true rfl) ⟨c_1, c_126, rfl⟩
    · obtain ⟨c_127, c_128, rfl⟩ : (0 ≤ p2.toInt) ∧ (3 < p2.toInt) ∧ r_124 = 0 := hw
      have hP : va_P (dC, dI) vwCl [(p0, .inr (7, oM p3 i7 j7)), ((p3 49), .inl (cI, 22, .inl (fun _ => 0))), ((p3 50), .inl (cI, 22, .inl (fun _ => 0))), ((p3 72), .inl (cI, 9216, .inl (fun _ => 0))), ((p3 14), .inl (cI, 2, .inl (fun _ => 0))), ((p3 18), .inl (cI, 2, .inl (fun _ => 0)))] H := hP
      have hD : va_D A [(p0, .inr (7, oM p3 i7 j7)), ((p3 49), .inl (cI, 22, .inl (fun _ => 0))), ((p3 50), .inl (cI, 22, .inl (fun _ => 0))), ((p3 72), .inl (cI, 9216, .inl (fun _ => 0))), ((p3 14), .inl (cI, 2, .inl (fun _ => 0))), ((p3 18), .inl (cI, 2, .inl (fun _ => 0)))] := hD
      refine lv_if_ne (tgt := 21) hx hb dX7_most_16 (by decide) (fun q9 => absurd q9 (by decide +kernel)) (fun _ => ?_)
      refine lv_iconst (v := (-1)) hx hb dX7_most_19 (by decide +kernel) ?_
      exact k_ri B hP hD hS dX7_most_20 (37, (fun _ => 0)) [0, 1, 2, 3, 4, 5] rfl rfl rfl (Nat.le_of_ble_eq_true rfl) (Nat.le_of_ble_eq_true rfl) ⟨c_1, c_127, c_128, rfl⟩
    · obtain ⟨c_129, c_130, rfl⟩ : (0 ≤ p2.toInt) ∧ (p2.toInt ≤ 3) ∧ r_124 = 1 := hw
      have hP : va_P (dC, dI) vwCl [(p0, .inr (7, oM p3 i7 j7)), ((p3 49), .inl (cI, 22, .inl (fun _ => 0))), ((p3 50), .inl (cI, 22, .inl (fun _ => 0))), ((p3 72), .inl (cI, 9216, .inl (fun _ => 0))), ((p3 14), .inl (cI, 2, .inl (fun _ => 0))), ((p3 18), .inl (cI, 2, .inl (fun _ => 0)))] H := hP
      have hD : va_D A [(p0, .inr (7, oM p3 i7 j7)), ((p3 49), .inl (cI, 22, .inl (fun _ => 0))), ((p3 50), .inl (cI, 22, .inl (fun _ => 0))), ((p3 72), .inl (cI, 9216, .inl (fun _ => 0))), ((p3 14), .inl (cI, 2, .inl (fun _ => 0))), ((p3 18), .inl (cI, 2, .inl (fun _ => 0)))] := hD
      refine lv_if_ne (tgt := 21) hx hb dX7_most_16 (by decide) (fun _ => ?_) (fun q9 => absurd q9 (by decide +kernel))
      refine lv_aload_n hx hb dX7_most_21 rfl (lv_at hl 0 rfl) ?_
      refine k_cv (wc := [(p0, .inr (7, oM p3 i7 j7)), ((p3 49), .inl (cI, 22, .inl (fun _ => 0))), ((p3 50), .inl (cI, 22, .inl (fun _ => 0))), ((p3 72), .inl (cI, 9216, .inl (fun _ => 0))), ((p3 14), .inl (cI, 2, .inl (fun _ => 0))), ((p3 18), .inl (cI, 2, .inl (fun _ => 0)))]) (wr := []) (fun hPc hDc hFc => va_runV (As := []) (rest := []) ⟨hx, hb, hml, hown, hts⟩ (c_X7_climbs_v0 l dC dI cI cJ cZ cM p0 p3 H.size) (cwV 0 hts gX7_most_X7_climbs rfl rfl rfl (by decide +kernel) ⟨(Nat.le_of_ble_eq_true rfl), (Nat.le_of_ble_eq_true rfl)⟩) (k_pV hPc hDc hK hN hC hS hFc hP (q0 := 0) (ci := 7) rfl rfl) rfl rfl hl.1 rfl (lv_room (Nat.le_of_ble_eq_true rfl)) dX7_most_22 ⟨(Nat.le_of_ble_eq_true rfl), (Nat.le_of_ble_eq_true rfl)⟩) hP hD hS hA [0, 1, 2, 3, 4, 5] [] rfl rfl rfl rfl (by decide) (fun _ => rfl) 0 0 rfl rfl (fun u_132 H locs hw hP hD hS => ?_)
      have hP : va_P (dC, dI) vwCl [(p0, .inr (7, oM p3 i7 j7)), ((p3 49), .inl (cI, 22, .inl (fun _ => 0))), ((p3 50), .inl (cI, 22, .inl (fun _ => 0))), ((p3 72), .inl (cI, 9216, .inl (upd (fun _ => (-1)) 0 0))), ((p3 14), .inl (cI, 2, .inl (fun _ => 0))), ((p3 18), .inl (cI, 2, .inl (fun _ => 0)))] H := hP
      have hD : va_D A [(p0, .inr (7, oM p3 i7 j7)), ((p3 49), .inl (cI, 22, .inl (fun _ => 0))), ((p3 50), .inl (cI, 22, .inl (fun _ => 0))), ((p3 72), .inl (cI, 9216, .inl (upd (fun _ => (-1)) 0 0))), ((p3 14), .inl (cI, 2, .inl (fun _ => 0))), ((p3 18), .inl (cI, 2, .inl (fun _ => 0)))] := hD
      refine lv_aload_n hx hb dX7_most_25 rfl (lv_at hl 0 rfl) ?_
      refine k_ci (wc := [(p0, .inr (7, oM p3 i7 j7)), ((p3 14), .inl (cI, 2, .inl (fun _ => 0)))]) (wr := [((p3 49), .inl (cI, 22, .inl (fun _ => 0))), ((p3 50), .inl (cI, 22, .inl (fun _ => 0))), ((p3 72), .inl (cI, 9216, .inl (upd (fun _ => (-1)) 0 0))), ((p3 18), .inl (cI, 2, .inl (fun _ => 0)))]) (fun hPc hDc hFc => va_runV (As := []) (rest := []) ⟨hx, hb, hml, hown, hts⟩ (c_X7_briefOnes_v2 l dC dI cI cJ cZ cM p0 p3 H.size) (cwV 0 hts gX7_most_X7_briefOnes rfl rfl rfl (by decide +kernel) ⟨(Nat.le_of_ble_eq_true rfl), (Nat.le_of_ble_eq_true rfl)⟩) (k_pV hPc hDc hK hN hC hS hFc hP (q0 := 0) (ci := 7) rfl rfl) rfl rfl hl.1 rfl (lv_room (Nat.le_of_ble_eq_true rfl)) dX7_most_26 ⟨(Nat.le_of_ble_eq_true rfl), (Nat.le_of_ble_eq_true rfl)⟩) hP hD hS hA [0, 4] [1, 2, 3, 5] rfl rfl rfl rfl (by decide) (fun _ => rfl) 0 0 rfl rfl (fun r_133 u_134 H locs hw hP hD hS => ?_)
      obtain rfl : r_133 = 0 := hw
      have hP : va_P (dC, dI) vwCl [((p3 49), .inl (cI, 22, .inl (fun _ => 0))), ((p3 50), .inl (cI, 22, .inl (fun _ => 0))), ((p3 72), .inl (cI, 9216, .inl (upd (fun _ => (-1)) 0 0))), ((p3 18), .inl (cI, 2, .inl (fun _ => 0))), (p0, .inr (7, oM p3 i7 j7)), ((p3 14), .inl (cI, 2, .inl (fun _ => 0)))] H := hP
      have hD : va_D A [((p3 49), .inl (cI, 22, .inl (fun _ => 0))), ((p3 50), .inl (cI, 22, .inl (fun _ => 0))), ((p3 72), .inl (cI, 9216, .inl (upd (fun _ => (-1)) 0 0))), ((p3 18), .inl (cI, 2, .inl (fun _ => 0))), (p0, .inr (7, oM p3 i7 j7)), ((p3 14), .inl (cI, 2, .inl (fun _ => 0)))] := hD
      refine lv_iconst (v := (-1)) hx hb dX7_most_29 (by decide +kernel) ?_
      refine lv_ixor hx hb dX7_most_30 ?_
      refine k_int (v := (-1)) (by decide +kernel) ?_
      refine lv_istore_n (lv' := [(3, .int (-1)), (0, .ref p0), (1, .int 6), (2, .int p2)]) hx hb dX7_most_31 rfl hl (by decide) rfl (fun ls hl => ?_)
      refine lv_aload_n hx hb dX7_most_32 rfl (lv_at hl 1 rfl) ?_
      refine lv_iconst (v := (-1)) hx hb dX7_most_33 (by decide +kernel) ?_
      refine k_put (D := (dC, dI)) (ci := 7) (v := .int (-1)) (C := RX7) (T := TX7) (N := 92) (ws' := [((p3 49), .inl (cI, 22, .inl (fun _ => 0))), ((p3 50), .inl (cI, 22, .inl (fun _ => 0))), ((p3 72), .inl (cI, 9216, .inl (upd (fun _ => (-1)) 0 0))), ((p3 18), .inl (cI, 2, .inl (fun _ => 0))), (p0, .inr (7, oM p3 (upd i7 75 (-1)) j7)), ((p3 14), .inl (cI, 2, .inl (fun _ => 0)))]) hx hb hts hinX7 tyX7 tyX7_ok nmX7 hown hK hP hD hS 4 rfl rfl 75 (by decide) w_0 rfl rfl rfl rfl (Nat.le_of_ble_eq_true rfl) rfl dX7_most_34 (fun H locs hP hD hS => ?_)
      refine lv_iconst (v := (-1)) hx hb dX7_most_37 (by decide +kernel) ?_
      refine lv_istore (lv' := [(4, .int (-1)), (3, .int (-1)), (0, .ref p0), (1, .int 6), (2, .int p2)]) hx hb dX7_most_38 hl (by decide) rfl (fun ls hl => ?_)
      refine lv_iconst (v := 0) hx hb dX7_most_40 (by decide +kernel) ?_
      refine lv_istore (lv' := [(5, .int 0), (4, .int (-1)), (3, .int (-1)), (0, .ref p0), (1, .int 6), (2, .int p2)]) hx hb dX7_most_41 hl (by decide) rfl (fun ls hl => ?_)
      refine lv_iload hx hb dX7_most_43 (lv_at hl 0 rfl) ?_
      refine lv_iload_n hx hb dX7_most_45 rfl (lv_at hl 4 rfl) ?_
      refine lv_icmp_gt (tgt := 166) hx hb dX7_most_46 (by decide) (fun q9 => absurd q9 (by decide +kernel)) (fun _ => ?_)
      refine lv_iconst (v := 0) hx hb dX7_most_49 (by decide +kernel) ?_
      refine lv_istore (lv' := [(6, .int 0), (5, .int 0), (4, .int (-1)), (3, .int (-1)), (0, .ref p0), (1, .int 6), (2, .int p2)]) hx hb dX7_most_50 hl (by decide) rfl (fun ls hl => ?_)
      refine lv_iload hx hb dX7_most_52 (lv_at hl 0 rfl) ?_
      refine lv_iconst (v := 1) hx hb dX7_most_54 (by decide +kernel) ?_
      refine lv_aload_n hx hb dX7_most_55 rfl (lv_at hl 4 rfl) ?_
      refine k_get (D := (dC, dI)) (ci := 7) (v := .ref (p3 14)) (C := RX7) (T := TX7) (N := 92) hx hb hts hinX7 hown hK hP 4 rfl rfl 14 (by decide) w_1 rfl rfl dX7_most_56 ?_
      refine lv_aload_n hx hb dX7_most_59 rfl (lv_at hl 4 rfl) ?_
      refine k_get (D := (dC, dI)) (ci := 7) (v := .int 0) (C := RX7) (T := TX7) (N := 92) hx hb hts hinX7 hown hK hP 4 rfl rfl 13 (by decide) w_2 rfl rfl dX7_most_60 ?_
      refine k_iald (v := 0) hx hb hK hP 5 0 0 rfl rfl rfl (Nat.le_of_ble_eq_true rfl) (Nat.le_of_ble_eq_true rfl) rfl dX7_most_63 ?_
      refine lv_ishl hx hb dX7_most_64 ?_
      refine k_int (v := 1) (by decide +kernel) ?_
      refine lv_icmp_ge (tgt := 160) hx hb dX7_most_65 (by decide) (fun q9 => absurd q9 (by decide +kernel)) (fun _ => ?_)
      refine lv_aload_n hx hb dX7_most_68 rfl (lv_at hl 4 rfl) ?_
      refine k_get (D := (dC, dI)) (ci := 7) (v := .ref (p3 72)) (C := RX7) (T := TX7) (N := 92) hx hb hts hinX7 hown hK hP 4 rfl rfl 72 (by decide) w_3 rfl rfl dX7_most_69 ?_
      refine lv_sipush (v := 1024) hx hb dX7_most_72 (by decide +kernel) ?_
      refine lv_iload hx hb dX7_most_75 (lv_at hl 1 rfl) ?_
      refine lv_imul hx hb dX7_most_77 ?_
      refine k_int (v := 0) (by decide +kernel) ?_
      refine lv_iload hx hb dX7_most_78 (lv_at hl 0 rfl) ?_
      refine lv_iadd hx hb dX7_most_80 ?_
      refine k_int (v := 0) (by decide +kernel) ?_
      refine k_iald (v := 0) hx hb hK hP 2 0 0 rfl rfl rfl (Nat.le_of_ble_eq_true rfl) (Nat.le_of_ble_eq_true rfl) rfl dX7_most_81 ?_
      refine lv_istore (lv' := [(7, .int 0), (6, .int 0), (5, .int 0), (4, .int (-1)), (3, .int (-1)), (0, .ref p0), (1, .int 6), (2, .int p2)]) hx hb dX7_most_82 hl (by decide) rfl (fun ls hl => ?_)
      refine lv_iload hx hb dX7_most_84 (lv_at hl 0 rfl) ?_
      refine lv_iconst (v := (-1)) hx hb dX7_most_86 (by decide +kernel) ?_
      refine lv_icmp_ne (tgt := 93) hx hb dX7_most_87 (by decide) (fun _ => ?_) (fun q9 => absurd q9 (by decide +kernel))
      refine lv_aload_n hx hb dX7_most_93 rfl (lv_at hl 5 rfl) ?_
      refine lv_iload hx hb dX7_most_94 (lv_at hl 1 rfl) ?_
      refine lv_iload_n hx hb dX7_most_96 rfl (lv_at hl 4 rfl) ?_
      refine lv_iand hx hb dX7_most_97 ?_
      refine k_int (v := 0) (by decide +kernel) ?_
      refine k_ci (wc := [(p0, .inr (7, oM p3 (upd i7 75 (-1)) j7)), ((p3 14), .inl (cI, 2, .inl (fun _ => 0)))]) (wr := [((p3 49), .inl (cI, 22, .inl (fun _ => 0))), ((p3 50), .inl (cI, 22, .inl (fun _ => 0))), ((p3 72), .inl (cI, 9216, .inl (upd (fun _ => (-1)) 0 0))), ((p3 18), .inl (cI, 2, .inl (fun _ => 0)))]) (fun hPc hDc hFc => va_runV (As := [.int 0]) (rest := []) ⟨hx, hb, hml, hown, hts⟩ (c_X7_worthOf_v1 l dC dI cI cJ cZ cM p0 p3 H.size) (cwV 1 hts gX7_most_X7_worthOf rfl rfl rfl (by decide +kernel) ⟨(Nat.le_of_ble_eq_true rfl), (Nat.le_of_ble_eq_true rfl)⟩) (k_pV hPc hDc hK hN hC hS hFc hP (q0 := 4) (ci := 7) rfl rfl) rfl rfl hl.1 rfl (lv_room (Nat.le_of_ble_eq_true rfl)) dX7_most_98 ⟨(Nat.le_of_ble_eq_true rfl), (Nat.le_of_ble_eq_true rfl)⟩) hP hD hS hA [4, 5] [0, 1, 2, 3] rfl rfl rfl rfl (by decide) (fun _ => rfl) 0 0 rfl rfl (fun r_135 u_136 H locs hw hP hD hS => ?_)
      obtain rfl : r_135 = 0 := hw
      have hP : va_P (dC, dI) vwCl [((p3 49), .inl (cI, 22, .inl (fun _ => 0))), ((p3 50), .inl (cI, 22, .inl (fun _ => 0))), ((p3 72), .inl (cI, 9216, .inl (upd (fun _ => (-1)) 0 0))), ((p3 18), .inl (cI, 2, .inl (fun _ => 0))), (p0, .inr (7, oM p3 (upd i7 75 (-1)) j7)), ((p3 14), .inl (cI, 2, .inl (fun _ => 0)))] H := hP
      have hD : va_D A [((p3 49), .inl (cI, 22, .inl (fun _ => 0))), ((p3 50), .inl (cI, 22, .inl (fun _ => 0))), ((p3 72), .inl (cI, 9216, .inl (upd (fun _ => (-1)) 0 0))), ((p3 18), .inl (cI, 2, .inl (fun _ => 0))), (p0, .inr (7, oM p3 (upd i7 75 (-1)) j7)), ((p3 14), .inl (cI, 2, .inl (fun _ => 0)))] := hD
      refine lv_istore (lv' := [(8, .int 0), (7, .int 0), (6, .int 0), (5, .int 0), (4, .int (-1)), (3, .int (-1)), (0, .ref p0), (1, .int 6), (2, .int p2)]) hx hb dX7_most_101 hl (by decide) rfl (fun ls hl => ?_)
      refine lv_iload hx hb dX7_most_103 (lv_at hl 0 rfl) ?_
      refine lv_iload hx hb dX7_most_105 (lv_at hl 4 rfl) ?_
      refine lv_icmp_lt (tgt := 154) hx hb dX7_most_107 (by decide) (fun q9 => absurd q9 (by decide +kernel)) (fun _ => ?_)
      refine lv_iload hx hb dX7_most_110 (lv_at hl 0 rfl) ?_
      refine lv_iload hx hb dX7_most_112 (lv_at hl 4 rfl) ?_
      refine lv_icmp_ne (tgt := 138) hx hb dX7_most_114 (by decide) (fun _ => ?_) (fun q9 => absurd q9 (by decide +kernel))
      refine lv_iload hx hb dX7_most_138 (lv_at hl 0 rfl) ?_
      refine lv_istore (lv' := [(4, .int 0), (8, .int 0), (7, .int 0), (6, .int 0), (5, .int 0), (3, .int (-1)), (0, .ref p0), (1, .int 6), (2, .int p2)]) hx hb dX7_most_140 hl (by decide) rfl (fun ls hl => ?_)
      refine lv_aload_n hx hb dX7_most_142 rfl (lv_at hl 6 rfl) ?_
      refine lv_iload hx hb dX7_most_143 (lv_at hl 4 rfl) ?_
      refine k_put (D := (dC, dI)) (ci := 7) (v := .int 0) (C := RX7) (T := TX7) (N := 92) (ws' := [((p3 49), .inl (cI, 22, .inl (fun _ => 0))), ((p3 50), .inl (cI, 22, .inl (fun _ => 0))), ((p3 72), .inl (cI, 9216, .inl (upd (fun _ => (-1)) 0 0))), ((p3 18), .inl (cI, 2, .inl (fun _ => 0))), (p0, .inr (7, oM p3 (upd i7 75 0) j7)), ((p3 14), .inl (cI, 2, .inl (fun _ => 0)))]) hx hb hts hinX7 tyX7 tyX7_ok nmX7 hown hK hP hD hS 4 rfl rfl 75 (by decide) w_0 rfl rfl rfl rfl (Nat.le_of_ble_eq_true rfl) rfl dX7_most_145 (fun H locs hP hD hS => ?_)
      refine lv_aload_n hx hb dX7_most_148 rfl (lv_at hl 6 rfl) ?_
      refine lv_iload hx hb dX7_most_149 (lv_at hl 3 rfl) ?_
      refine k_put (D := (dC, dI)) (ci := 7) (v := .int 0) (C := RX7) (T := TX7) (N := 92) (ws' := [((p3 49), .inl (cI, 22, .inl (fun _ => 0))), ((p3 50), .inl (cI, 22, .inl (fun _ => 0))), ((p3 72), .inl (cI, 9216, .inl (upd (fun _ => (-1)) 0 0))), ((p3 18), .inl (cI, 2, .inl (fun _ => 0))), (p0, .inr (7, oM p3 (upd (upd i7 75 0) 76 0) j7)), ((p3 14), .inl (cI, 2, .inl (fun _ => 0)))]) hx hb hts hinX7 tyX7 tyX7_ok nmX7 hown hK hP hD hS 4 rfl rfl 76 (by decide) w_4 rfl rfl rfl rfl (Nat.le_of_ble_eq_true rfl) rfl dX7_most_151 (fun H locs hP hD hS => ?_)
      refine lv_iinc (v := 1) (lv' := [(6, .int 1), (4, .int 0), (8, .int 0), (7, .int 0), (5, .int 0), (3, .int (-1)), (0, .ref p0), (1, .int 6), (2, .int p2)]) hx hb dX7_most_154 hl (k := 3) rfl (by decide +kernel) (by decide) rfl (fun ls hl => ?_)
      refine lv_goto (tgt := 52) hx hb dX7_most_157 (by decide) ?_
      refine lv_iload hx hb dX7_most_52 (lv_at hl 0 rfl) ?_
      refine lv_iconst (v := 1) hx hb dX7_most_54 (by decide +kernel) ?_
      refine lv_aload_n hx hb dX7_most_55 rfl (lv_at hl 6 rfl) ?_
      refine k_get (D := (dC, dI)) (ci := 7) (v := .ref (p3 14)) (C := RX7) (T := TX7) (N := 92) hx hb hts hinX7 hown hK hP 4 rfl rfl 14 (by decide) w_1 rfl rfl dX7_most_56 ?_
      refine lv_aload_n hx hb dX7_most_59 rfl (lv_at hl 6 rfl) ?_
      refine k_get (D := (dC, dI)) (ci := 7) (v := .int 0) (C := RX7) (T := TX7) (N := 92) hx hb hts hinX7 hown hK hP 4 rfl rfl 13 (by decide) w_2 rfl rfl dX7_most_60 ?_
      refine k_iald (v := 0) hx hb hK hP 5 0 0 rfl rfl rfl (Nat.le_of_ble_eq_true rfl) (Nat.le_of_ble_eq_true rfl) rfl dX7_most_63 ?_
      refine lv_ishl hx hb dX7_most_64 ?_
      refine k_int (v := 1) (by decide +kernel) ?_
      refine lv_icmp_ge (tgt := 160) hx hb dX7_most_65 (by decide) (fun _ => ?_) (fun q9 => absurd q9 (by decide +kernel))
      refine lv_iinc (v := 1) (lv' := [(5, .int 1), (6, .int 1), (4, .int 0), (8, .int 0), (7, .int 0), (3, .int (-1)), (0, .ref p0), (1, .int 6), (2, .int p2)]) hx hb dX7_most_160 hl (k := 4) rfl (by decide +kernel) (by decide) rfl (fun ls hl => ?_)
      refine lv_goto (tgt := 43) hx hb dX7_most_163 (by decide) ?_
      refine lv_iload hx hb dX7_most_43 (lv_at hl 0 rfl) ?_
      refine lv_iload_n hx hb dX7_most_45 rfl (lv_at hl 7 rfl) ?_
      refine lv_icmp_gt (tgt := 166) hx hb dX7_most_46 (by decide) (fun q9 => absurd q9 (by decide +kernel)) (fun _ => ?_)
      refine lv_iconst (v := 0) hx hb dX7_most_49 (by decide +kernel) ?_
      refine lv_istore (lv' := [(6, .int 0), (5, .int 1), (4, .int 0), (8, .int 0), (7, .int 0), (3, .int (-1)), (0, .ref p0), (1, .int 6), (2, .int p2)]) hx hb dX7_most_50 hl (by decide) rfl (fun ls hl => ?_)
      refine lv_iload hx hb dX7_most_52 (lv_at hl 0 rfl) ?_
      refine lv_iconst (v := 1) hx hb dX7_most_54 (by decide +kernel) ?_
      refine lv_aload_n hx hb dX7_most_55 rfl (lv_at hl 6 rfl) ?_
      refine k_get (D := (dC, dI)) (ci := 7) (v := .ref (p3 14)) (C := RX7) (T := TX7) (N := 92) hx hb hts hinX7 hown hK hP 4 rfl rfl 14 (by decide) w_1 rfl rfl dX7_most_56 ?_
      refine lv_aload_n hx hb dX7_most_59 rfl (lv_at hl 6 rfl) ?_
      refine k_get (D := (dC, dI)) (ci := 7) (v := .int 0) (C := RX7) (T := TX7) (N := 92) hx hb hts hinX7 hown hK hP 4 rfl rfl 13 (by decide) w_2 rfl rfl dX7_most_60 ?_
      refine k_iald (v := 0) hx hb hK hP 5 0 0 rfl rfl rfl (Nat.le_of_ble_eq_true rfl) (Nat.le_of_ble_eq_true rfl) rfl dX7_most_63 ?_
      refine lv_ishl hx hb dX7_most_64 ?_
      refine k_int (v := 1) (by decide +kernel) ?_
      refine lv_icmp_ge (tgt := 160) hx hb dX7_most_65 (by decide) (fun q9 => absurd q9 (by decide +kernel)) (fun _ => ?_)
      refine lv_aload_n hx hb dX7_most_68 rfl (lv_at hl 6 rfl) ?_
      refine k_get (D := (dC, dI)) (ci := 7) (v := .ref (p3 72)) (C := RX7) (T := TX7) (N := 92) hx hb hts hinX7 hown hK hP 4 rfl rfl 72 (by decide) w_3 rfl rfl dX7_most_69 ?_
      refine lv_sipush (v := 1024) hx hb dX7_most_72 (by decide +kernel) ?_
      refine lv_iload hx hb dX7_most_75 (lv_at hl 1 rfl) ?_
      refine lv_imul hx hb dX7_most_77 ?_
      refine k_int (v := 1024) (by decide +kernel) ?_
      refine lv_iload hx hb dX7_most_78 (lv_at hl 0 rfl) ?_
      refine lv_iadd hx hb dX7_most_80 ?_
      refine k_int (v := 1024) (by decide +kernel) ?_
      refine k_iald (v := (-1)) hx hb hK hP 2 0 1024 rfl rfl rfl (Nat.le_of_ble_eq_true rfl) (Nat.le_of_ble_eq_true rfl) rfl dX7_most_81 ?_
      refine lv_istore (lv' := [(7, .int (-1)), (6, .int 0), (5, .int 1), (4, .int 0), (8, .int 0), (3, .int (-1)), (0, .ref p0), (1, .int 6), (2, .int p2)]) hx hb dX7_most_82 hl (by decide) rfl (fun ls hl => ?_)
      refine lv_iload hx hb dX7_most_84 (lv_at hl 0 rfl) ?_
      refine lv_iconst (v := (-1)) hx hb dX7_most_86 (by decide +kernel) ?_
      refine lv_icmp_ne (tgt := 93) hx hb dX7_most_87 (by decide) (fun q9 => absurd q9 (by decide +kernel)) (fun _ => ?_)
      refine lv_goto (tgt := 154) hx hb dX7_most_90 (by decide) ?_
      refine lv_iinc (v := 1) (lv' := [(6, .int 1), (7, .int (-1)), (5, .int 1), (4, .int 0), (8, .int 0), (3, .int (-1)), (0, .ref p0), (1, .int 6), (2, .int p2)]) hx hb dX7_most_154 hl (k := 1) rfl (by decide +kernel) (by decide) rfl (fun ls hl => ?_)
      refine lv_goto (tgt := 52) hx hb dX7_most_157 (by decide) ?_
      refine lv_iload hx hb dX7_most_52 (lv_at hl 0 rfl) ?_
      refine lv_iconst (v := 1) hx hb dX7_most_54 (by decide +kernel) ?_
      refine lv_aload_n hx hb dX7_most_55 rfl (lv_at hl 6 rfl) ?_
      refine k_get (D := (dC, dI)) (ci := 7) (v := .ref (p3 14)) (C := RX7) (T := TX7) (N := 92) hx hb hts hinX7 hown hK hP 4 rfl rfl 14 (by decide) w_1 rfl rfl dX7_most_56 ?_
      refine lv_aload_n hx hb dX7_most_59 rfl (lv_at hl 6 rfl) ?_
      refine k_get (D := (dC, dI)) (ci := 7) (v := .int 0) (C := RX7) (T := TX7) (N := 92) hx hb hts hinX7 hown hK hP 4 rfl rfl 13 (by decide) w_2 rfl rfl dX7_most_60 ?_
      refine k_iald (v := 0) hx hb hK hP 5 0 0 rfl rfl rfl (Nat.le_of_ble_eq_true rfl) (Nat.le_of_ble_eq_true rfl) rfl dX7_most_63 ?_
      refine lv_ishl hx hb dX7_most_64 ?_
      refine k_int (v := 1) (by decide +kernel) ?_
      refine lv_icmp_ge (tgt := 160) hx hb dX7_most_65 (by decide) (fun _ => ?_) (fun q9 => absurd q9 (by decide +kernel))
      refine lv_iinc (v := 2) (lv' := [(5, .int 2), (6, .int 1), (7, .int (-1)), (4, .int 0), (8, .int 0), (3, .int (-1)), (0, .ref p0), (1, .int 6), (2, .int p2)]) hx hb dX7_most_160 hl (k := 2) rfl (by decide +kernel) (by decide) rfl (fun ls hl => ?_)
      refine lv_goto (tgt := 43) hx hb dX7_most_163 (by decide) ?_
      refine lv_iload hx hb dX7_most_43 (lv_at hl 0 rfl) ?_
      refine lv_iload_n hx hb dX7_most_45 rfl (lv_at hl 7 rfl) ?_
      refine lv_icmp_gt (tgt := 166) hx hb dX7_most_46 (by decide) (fun q9 => absurd q9 (by decide +kernel)) (fun _ => ?_)
      refine lv_iconst (v := 0) hx hb dX7_most_49 (by decide +kernel) ?_
      refine lv_istore (lv' := [(6, .int 0), (5, .int 2), (7, .int (-1)), (4, .int 0), (8, .int 0), (3, .int (-1)), (0, .ref p0), (1, .int 6), (2, .int p2)]) hx hb dX7_most_50 hl (by decide) rfl (fun ls hl => ?_)
      refine lv_iload hx hb dX7_most_52 (lv_at hl 0 rfl) ?_
      refine lv_iconst (v := 1) hx hb dX7_most_54 (by decide +kernel) ?_
      refine lv_aload_n hx hb dX7_most_55 rfl (lv_at hl 6 rfl) ?_
      refine k_get (D := (dC, dI)) (ci := 7) (v := .ref (p3 14)) (C := RX7) (T := TX7) (N := 92) hx hb hts hinX7 hown hK hP 4 rfl rfl 14 (by decide) w_1 rfl rfl dX7_most_56 ?_
      refine lv_aload_n hx hb dX7_most_59 rfl (lv_at hl 6 rfl) ?_
      refine k_get (D := (dC, dI)) (ci := 7) (v := .int 0) (C := RX7) (T := TX7) (N := 92) hx hb hts hinX7 hown hK hP 4 rfl rfl 13 (by decide) w_2 rfl rfl dX7_most_60 ?_
      refine k_iald (v := 0) hx hb hK hP 5 0 0 rfl rfl rfl (Nat.le_of_ble_eq_true rfl) (Nat.le_of_ble_eq_true rfl) rfl dX7_most_63 ?_
      refine lv_ishl hx hb dX7_most_64 ?_
      refine k_int (v := 1) (by decide +kernel) ?_
      refine lv_icmp_ge (tgt := 160) hx hb dX7_most_65 (by decide) (fun q9 => absurd q9 (by decide +kernel)) (fun _ => ?_)
      refine lv_aload_n hx hb dX7_most_68 rfl (lv_at hl 6 rfl) ?_
      refine k_get (D := (dC, dI)) (ci := 7) (v := .ref (p3 72)) (C := RX7) (T := TX7) (N := 92) hx hb hts hinX7 hown hK hP 4 rfl rfl 72 (by decide) w_3 rfl rfl dX7_most_69 ?_
      refine lv_sipush (v := 1024) hx hb dX7_most_72 (by decide +kernel) ?_
      refine lv_iload hx hb dX7_most_75 (lv_at hl 1 rfl) ?_
      refine lv_imul hx hb dX7_most_77 ?_
      refine k_int (v := 2048) (by decide +kernel) ?_
      refine lv_iload hx hb dX7_most_78 (lv_at hl 0 rfl) ?_
      refine lv_iadd hx hb dX7_most_80 ?_
      refine k_int (v := 2048) (by decide +kernel) ?_
      refine k_iald (v := (-1)) hx hb hK hP 2 0 2048 rfl rfl rfl (Nat.le_of_ble_eq_true rfl) (Nat.le_of_ble_eq_true rfl) rfl dX7_most_81 ?_
      refine lv_istore (lv' := [(7, .int (-1)), (6, .int 0), (5, .int 2), (4, .int 0), (8, .int 0), (3, .int (-1)), (0, .ref p0), (1, .int 6), (2, .int p2)]) hx hb dX7_most_82 hl (by decide) rfl (fun ls hl => ?_)
      refine lv_iload hx hb dX7_most_84 (lv_at hl 0 rfl) ?_
      refine lv_iconst (v := (-1)) hx hb dX7_most_86 (by decide +kernel) ?_
      refine lv_icmp_ne (tgt := 93) hx hb dX7_most_87 (by decide) (fun q9 => absurd q9 (by decide +kernel)) (fun _ => ?_)
      refine lv_goto (tgt := 154) hx hb dX7_most_90 (by decide) ?_
      refine lv_iinc (v := 1) (lv' := [(6, .int 1), (7, .int (-1)), (5, .int 2), (4, .int 0), (8, .int 0), (3, .int (-1)), (0, .ref p0), (1, .int 6), (2, .int p2)]) hx hb dX7_most_154 hl (k := 1) rfl (by decide +kernel) (by decide) rfl (fun ls hl => ?_)
      refine lv_goto (tgt := 52) hx hb dX7_most_157 (by decide) ?_
      refine lv_iload hx hb dX7_most_52 (lv_at hl 0 rfl) ?_
      refine lv_iconst (v := 1) hx hb dX7_most_54 (by decide +kernel) ?_
      refine lv_aload_n hx hb dX7_most_55 rfl (lv_at hl 6 rfl) ?_
      refine k_get (D := (dC, dI)) (ci := 7) (v := .ref (p3 14)) (C := RX7) (T := TX7) (N := 92) hx hb hts hinX7 hown hK hP 4 rfl rfl 14 (by decide) w_1 rfl rfl dX7_most_56 ?_
      refine lv_aload_n hx hb dX7_most_59 rfl (lv_at hl 6 rfl) ?_
      refine k_get (D := (dC, dI)) (ci := 7) (v := .int 0) (C := RX7) (T := TX7) (N := 92) hx hb hts hinX7 hown hK hP 4 rfl rfl 13 (by decide) w_2 rfl rfl dX7_most_60 ?_
      refine k_iald (v := 0) hx hb hK hP 5 0 0 rfl rfl rfl (Nat.le_of_ble_eq_true rfl) (Nat.le_of_ble_eq_true rfl) rfl dX7_most_63 ?_
      refine lv_ishl hx hb dX7_most_64 ?_
      refine k_int (v := 1) (by decide +kernel) ?_
      refine lv_icmp_ge (tgt := 160) hx hb dX7_most_65 (by decide) (fun _ => ?_) (fun q9 => absurd q9 (by decide +kernel))
      refine lv_iinc (v := 3) (lv' := [(5, .int 3), (6, .int 1), (7, .int (-1)), (4, .int 0), (8, .int 0), (3, .int (-1)), (0, .ref p0), (1, .int 6), (2, .int p2)]) hx hb dX7_most_160 hl (k := 2) rfl (by decide +kernel) (by decide) rfl (fun ls hl => ?_)
      refine lv_goto (tgt := 43) hx hb dX7_most_163 (by decide) ?_
      refine lv_iload hx hb dX7_most_43 (lv_at hl 0 rfl) ?_
      refine lv_iload_n hx hb dX7_most_45 rfl (lv_at hl 7 rfl) ?_
      refine lv_icmp_gt (tgt := 166) hx hb dX7_most_46 (by decide) (fun q9 => absurd q9 (by decide +kernel)) (fun _ => ?_)
      refine lv_iconst (v := 0) hx hb dX7_most_49 (by decide +kernel) ?_
      refine lv_istore (lv' := [(6, .int 0), (5, .int 3), (7, .int (-1)), (4, .int 0), (8, .int 0), (3, .int (-1)), (0, .ref p0), (1, .int 6), (2, .int p2)]) hx hb dX7_most_50 hl (by decide) rfl (fun ls hl => ?_)
      refine lv_iload hx hb dX7_most_52 (lv_at hl 0 rfl) ?_
      refine lv_iconst (v := 1) hx hb dX7_most_54 (by decide +kernel) ?_
      refine lv_aload_n hx hb dX7_most_55 rfl (lv_at hl 6 rfl) ?_
      refine k_get (D := (dC, dI)) (ci := 7) (v := .ref (p3 14)) (C := RX7) (T := TX7) (N := 92) hx hb hts hinX7 hown hK hP 4 rfl rfl 14 (by decide) w_1 rfl rfl dX7_most_56 ?_
      refine lv_aload_n hx hb dX7_most_59 rfl (lv_at hl 6 rfl) ?_
      refine k_get (D := (dC, dI)) (ci := 7) (v := .int 0) (C := RX7) (T := TX7) (N := 92) hx hb hts hinX7 hown hK hP 4 rfl rfl 13 (by decide) w_2 rfl rfl dX7_most_60 ?_
      refine k_iald (v := 0) hx hb hK hP 5 0 0 rfl rfl rfl (Nat.le_of_ble_eq_true rfl) (Nat.le_of_ble_eq_true rfl) rfl dX7_most_63 ?_
      refine lv_ishl hx hb dX7_most_64 ?_
      refine k_int (v := 1) (by decide +kernel) ?_
      refine lv_icmp_ge (tgt := 160) hx hb dX7_most_65 (by decide) (fun q9 => absurd q9 (by decide +kernel)) (fun _ => ?_)
      refine lv_aload_n hx hb dX7_most_68 rfl (lv_at hl 6 rfl) ?_
      refine k_get (D := (dC, dI)) (ci := 7) (v := .ref (p3 72)) (C := RX7) (T := TX7) (N := 92) hx hb hts hinX7 hown hK hP 4 rfl rfl 72 (by decide) w_3 rfl rfl dX7_most_69 ?_
      refine lv_sipush (v := 1024) hx hb dX7_most_72 (by decide +kernel) ?_
      refine lv_iload hx hb dX7_most_75 (lv_at hl 1 rfl) ?_
      refine lv_imul hx hb dX7_most_77 ?_
      refine k_int (v := 3072) (by decide +kernel) ?_
      refine lv_iload hx hb dX7_most_78 (lv_at hl 0 rfl) ?_
      refine lv_iadd hx hb dX7_most_80 ?_
      refine k_int (v := 3072) (by decide +kernel) ?_
      refine k_iald (v := (-1)) hx hb hK hP 2 0 3072 rfl rfl rfl (Nat.le_of_ble_eq_true rfl) (Nat.le_of_ble_eq_true rfl) rfl dX7_most_81 ?_
      refine lv_istore (lv' := [(7, .int (-1)), (6, .int 0), (5, .int 3), (4, .int 0), (8, .int 0), (3, .int (-1)), (0, .ref p0), (1, .int 6), (2, .int p2)]) hx hb dX7_most_82 hl (by decide) rfl (fun ls hl => ?_)
      refine lv_iload hx hb dX7_most_84 (lv_at hl 0 rfl) ?_
      refine lv_iconst (v := (-1)) hx hb dX7_most_86 (by decide +kernel) ?_
      refine lv_icmp_ne (tgt := 93) hx hb dX7_most_87 (by decide) (fun q9 => absurd q9 (by decide +kernel)) (fun _ => ?_)
      refine lv_goto (tgt := 154) hx hb dX7_most_90 (by decide) ?_
      refine lv_iinc (v := 1) (lv' := [(6, .int 1), (7, .int (-1)), (5, .int 3), (4, .int 0), (8, .int 0), (3, .int (-1)), (0, .ref p0), (1, .int 6), (2, .int p2)]) hx hb dX7_most_154 hl (k := 1) rfl (by decide +kernel) (by decide) rfl (fun ls hl => ?_)
      refine lv_goto (tgt := 52) hx hb dX7_most_157 (by decide) ?_
      refine lv_iload hx hb dX7_most_52 (lv_at hl 0 rfl) ?_
      refine lv_iconst (v := 1) hx hb dX7_most_54 (by decide +kernel) ?_
      refine lv_aload_n hx hb dX7_most_55 rfl (lv_at hl 6 rfl) ?_
      refine k_get (D := (dC, dI)) (ci := 7) (v := .ref (p3 14)) (C := RX7) (T := TX7) (N := 92) hx hb hts hinX7 hown hK hP 4 rfl rfl 14 (by decide) w_1 rfl rfl dX7_most_56 ?_
      refine lv_aload_n hx hb dX7_most_59 rfl (lv_at hl 6 rfl) ?_
      refine k_get (D := (dC, dI)) (ci := 7) (v := .int 0) (C := RX7) (T := TX7) (N := 92) hx hb hts hinX7 hown hK hP 4 rfl rfl 13 (by decide) w_2 rfl rfl dX7_most_60 ?_
      refine k_iald (v := 0) hx hb hK hP 5 0 0 rfl rfl rfl (Nat.le_of_ble_eq_true rfl) (Nat.le_of_ble_eq_true rfl) rfl dX7_most_63 ?_
      refine lv_ishl hx hb dX7_most_64 ?_
      refine k_int (v := 1) (by decide +kernel) ?_
      refine lv_icmp_ge (tgt := 160) hx hb dX7_most_65 (by decide) (fun _ => ?_) (fun q9 => absurd q9 (by decide +kernel))
      refine lv_iinc (v := 4) (lv' := [(5, .int 4), (6, .int 1), (7, .int (-1)), (4, .int 0), (8, .int 0), (3, .int (-1)), (0, .ref p0), (1, .int 6), (2, .int p2)]) hx hb dX7_most_160 hl (k := 2) rfl (by decide +kernel) (by decide) rfl (fun ls hl => ?_)
      refine lv_goto (tgt := 43) hx hb dX7_most_163 (by decide) ?_
      refine lv_iload hx hb dX7_most_43 (lv_at hl 0 rfl) ?_
      refine lv_iload_n hx hb dX7_most_45 rfl (lv_at hl 7 rfl) ?_
      refine lv_icmp_gt (tgt := 166) hx hb dX7_most_46 (by decide) (fun q9 => absurd q9 (by decide +kernel)) (fun _ => ?_)
      refine lv_iconst (v := 0) hx hb dX7_most_49 (by decide +kernel) ?_
      refine lv_istore (lv' := [(6, .int 0), (5, .int 4), (7, .int (-1)), (4, .int 0), (8, .int 0), (3, .int (-1)), (0, .ref p0), (1, .int 6), (2, .int p2)]) hx hb dX7_most_50 hl (by decide) rfl (fun ls hl => ?_)
      refine lv_iload hx hb dX7_most_52 (lv_at hl 0 rfl) ?_
      refine lv_iconst (v := 1) hx hb dX7_most_54 (by decide +kernel) ?_
      refine lv_aload_n hx hb dX7_most_55 rfl (lv_at hl 6 rfl) ?_
      refine k_get (D := (dC, dI)) (ci := 7) (v := .ref (p3 14)) (C := RX7) (T := TX7) (N := 92) hx hb hts hinX7 hown hK hP 4 rfl rfl 14 (by decide) w_1 rfl rfl dX7_most_56 ?_
      refine lv_aload_n hx hb dX7_most_59 rfl (lv_at hl 6 rfl) ?_
      refine k_get (D := (dC, dI)) (ci := 7) (v := .int 0) (C := RX7) (T := TX7) (N := 92) hx hb hts hinX7 hown hK hP 4 rfl rfl 13 (by decide) w_2 rfl rfl dX7_most_60 ?_
      refine k_iald (v := 0) hx hb hK hP 5 0 0 rfl rfl rfl (Nat.le_of_ble_eq_true rfl) (Nat.le_of_ble_eq_true rfl) rfl dX7_most_63 ?_
      refine lv_ishl hx hb dX7_most_64 ?_
      refine k_int (v := 1) (by decide +kernel) ?_
      refine lv_icmp_ge (tgt := 160) hx hb dX7_most_65 (by decide) (fun q9 => absurd q9 (by decide +kernel)) (fun _ => ?_)
      refine lv_aload_n hx hb dX7_most_68 rfl (lv_at hl 6 rfl) ?_
      refine k_get (D := (dC, dI)) (ci := 7) (v := .ref (p3 72)) (C := RX7) (T := TX7) (N := 92) hx hb hts hinX7 hown hK hP 4 rfl rfl 72 (by decide) w_3 rfl rfl dX7_most_69 ?_
      refine lv_sipush (v := 1024) hx hb dX7_most_72 (by decide +kernel) ?_
      refine lv_iload hx hb dX7_most_75 (lv_at hl 1 rfl) ?_
      refine lv_imul hx hb dX7_most_77 ?_
      refine k_int (v := 4096) (by decide +kernel) ?_
      refine lv_iload hx hb dX7_most_78 (lv_at hl 0 rfl) ?_
      refine lv_iadd hx hb dX7_most_80 ?_
      refine k_int (v := 4096) (by decide +kernel) ?_
      refine k_iald (v := (-1)) hx hb hK hP 2 0 4096 rfl rfl rfl (Nat.le_of_ble_eq_true rfl) (Nat.le_of_ble_eq_true rfl) rfl dX7_most_81 ?_
      refine lv_istore (lv' := [(7, .int (-1)), (6, .int 0), (5, .int 4), (4, .int 0), (8, .int 0), (3, .int (-1)), (0, .ref p0), (1, .int 6), (2, .int p2)]) hx hb dX7_most_82 hl (by decide) rfl (fun ls hl => ?_)
      refine lv_iload hx hb dX7_most_84 (lv_at hl 0 rfl) ?_
      refine lv_iconst (v := (-1)) hx hb dX7_most_86 (by decide +kernel) ?_
      refine lv_icmp_ne (tgt := 93) hx hb dX7_most_87 (by decide) (fun q9 => absurd q9 (by decide +kernel)) (fun _ => ?_)
      refine lv_goto (tgt := 154) hx hb dX7_most_90 (by decide) ?_
      refine lv_iinc (v := 1) (lv' := [(6, .int 1), (7, .int (-1)), (5, .int 4), (4, .int 0), (8, .int 0), (3, .int (-1)), (0, .ref p0), (1, .int 6), (2, .int p2)]) hx hb dX7_most_154 hl (k := 1) rfl (by decide +kernel) (by decide) rfl (fun ls hl => ?_)
      refine lv_goto (tgt := 52) hx hb dX7_most_157 (by decide) ?_
      refine lv_iload hx hb dX7_most_52 (lv_at hl 0 rfl) ?_
      refine lv_iconst (v := 1) hx hb dX7_most_54 (by decide +kernel) ?_
      refine lv_aload_n hx hb dX7_most_55 rfl (lv_at hl 6 rfl) ?_
      refine k_get (D := (dC, dI)) (ci := 7) (v := .ref (p3 14)) (C := RX7) (T := TX7) (N := 92) hx hb hts hinX7 hown hK hP 4 rfl rfl 14 (by decide) w_1 rfl rfl dX7_most_56 ?_
      refine lv_aload_n hx hb dX7_most_59 rfl (lv_at hl 6 rfl) ?_
      refine k_get (D := (dC, dI)) (ci := 7) (v := .int 0) (C := RX7) (T := TX7) (N := 92) hx hb hts hinX7 hown hK hP 4 rfl rfl 13 (by decide) w_2 rfl rfl dX7_most_60 ?_
      refine k_iald (v := 0) hx hb hK hP 5 0 0 rfl rfl rfl (Nat.le_of_ble_eq_true rfl) (Nat.le_of_ble_eq_true rfl) rfl dX7_most_63 ?_
      refine lv_ishl hx hb dX7_most_64 ?_
      refine k_int (v := 1) (by decide +kernel) ?_
      refine lv_icmp_ge (tgt := 160) hx hb dX7_most_65 (by decide) (fun _ => ?_) (fun q9 => absurd q9 (by decide +kernel))
      refine lv_iinc (v := 5) (lv' := [(5, .int 5), (6, .int 1), (7, .int (-1)), (4, .int 0), (8, .int 0), (3, .int (-1)), (0, .ref p0), (1, .int 6), (2, .int p2)]) hx hb dX7_most_160 hl (k := 2) rfl (by decide +kernel) (by decide) rfl (fun ls hl => ?_)
      refine lv_goto (tgt := 43) hx hb dX7_most_163 (by decide) ?_
      refine lv_iload hx hb dX7_most_43 (lv_at hl 0 rfl) ?_
      refine lv_iload_n hx hb dX7_most_45 rfl (lv_at hl 7 rfl) ?_
      refine lv_icmp_gt (tgt := 166) hx hb dX7_most_46 (by decide) (fun q9 => absurd q9 (by decide +kernel)) (fun _ => ?_)
      refine lv_iconst (v := 0) hx hb dX7_most_49 (by decide +kernel) ?_
      refine lv_istore (lv' := [(6, .int 0), (5, .int 5), (7, .int (-1)), (4, .int 0), (8, .int 0), (3, .int (-1)), (0, .ref p0), (1, .int 6), (2, .int p2)]) hx hb dX7_most_50 hl (by decide) rfl (fun ls hl => ?_)
      refine lv_iload hx hb dX7_most_52 (lv_at hl 0 rfl) ?_
      refine lv_iconst (v := 1) hx hb dX7_most_54 (by decide +kernel) ?_
      refine lv_aload_n hx hb dX7_most_55 rfl (lv_at hl 6 rfl) ?_
      refine k_get (D := (dC, dI)) (ci := 7) (v := .ref (p3 14)) (C := RX7) (T := TX7) (N := 92) hx hb hts hinX7 hown hK hP 4 rfl rfl 14 (by decide) w_1 rfl rfl dX7_most_56 ?_
      refine lv_aload_n hx hb dX7_most_59 rfl (lv_at hl 6 rfl) ?_
      refine k_get (D := (dC, dI)) (ci := 7) (v := .int 0) (C := RX7) (T := TX7) (N := 92) hx hb hts hinX7 hown hK hP 4 rfl rfl 13 (by decide) w_2 rfl rfl dX7_most_60 ?_
      refine k_iald (v := 0) hx hb hK hP 5 0 0 rfl rfl rfl (Nat.le_of_ble_eq_true rfl) (Nat.le_of_ble_eq_true rfl) rfl dX7_most_63 ?_
      refine lv_ishl hx hb dX7_most_64 ?_
      refine k_int (v := 1) (by decide +kernel) ?_
      refine lv_icmp_ge (tgt := 160) hx hb dX7_most_65 (by decide) (fun q9 => absurd q9 (by decide +kernel)) (fun _ => ?_)
      refine lv_aload_n hx hb dX7_most_68 rfl (lv_at hl 6 rfl) ?_
      refine k_get (D := (dC, dI)) (ci := 7) (v := .ref (p3 72)) (C := RX7) (T := TX7) (N := 92) hx hb hts hinX7 hown hK hP 4 rfl rfl 72 (by decide) w_3 rfl rfl dX7_most_69 ?_
      refine lv_sipush (v := 1024) hx hb dX7_most_72 (by decide +kernel) ?_
      refine lv_iload hx hb dX7_most_75 (lv_at hl 1 rfl) ?_
      refine lv_imul hx hb dX7_most_77 ?_
      refine k_int (v := 5120) (by decide +kernel) ?_
      refine lv_iload hx hb dX7_most_78 (lv_at hl 0 rfl) ?_
      refine lv_iadd hx hb dX7_most_80 ?_
      refine k_int (v := 5120) (by decide +kernel) ?_
      refine k_iald (v := (-1)) hx hb hK hP 2 0 5120 rfl rfl rfl (Nat.le_of_ble_eq_true rfl) (Nat.le_of_ble_eq_true rfl) rfl dX7_most_81 ?_
      refine lv_istore (lv' := [(7, .int (-1)), (6, .int 0), (5, .int 5), (4, .int 0), (8, .int 0), (3, .int (-1)), (0, .ref p0), (1, .int 6), (2, .int p2)]) hx hb dX7_most_82 hl (by decide) rfl (fun ls hl => ?_)
      refine lv_iload hx hb dX7_most_84 (lv_at hl 0 rfl) ?_
      refine lv_iconst (v := (-1)) hx hb dX7_most_86 (by decide +kernel) ?_
      refine lv_icmp_ne (tgt := 93) hx hb dX7_most_87 (by decide) (fun q9 => absurd q9 (by decide +kernel)) (fun _ => ?_)
      refine lv_goto (tgt := 154) hx hb dX7_most_90 (by decide) ?_
      refine lv_iinc (v := 1) (lv' := [(6, .int 1), (7, .int (-1)), (5, .int 5), (4, .int 0), (8, .int 0), (3, .int (-1)), (0, .ref p0), (1, .int 6), (2, .int p2)]) hx hb dX7_most_154 hl (k := 1) rfl (by decide +kernel) (by decide) rfl (fun ls hl => ?_)
      refine lv_goto (tgt := 52) hx hb dX7_most_157 (by decide) ?_
      refine lv_iload hx hb dX7_most_52 (lv_at hl 0 rfl) ?_
      refine lv_iconst (v := 1) hx hb dX7_most_54 (by decide +kernel) ?_
      refine lv_aload_n hx hb dX7_most_55 rfl (lv_at hl 6 rfl) ?_
      refine k_get (D := (dC, dI)) (ci := 7) (v := .ref (p3 14)) (C := RX7) (T := TX7) (N := 92) hx hb hts hinX7 hown hK hP 4 rfl rfl 14 (by decide) w_1 rfl rfl dX7_most_56 ?_
      refine lv_aload_n hx hb dX7_most_59 rfl (lv_at hl 6 rfl) ?_
      refine k_get (D := (dC, dI)) (ci := 7) (v := .int 0) (C := RX7) (T := TX7) (N := 92) hx hb hts hinX7 hown hK hP 4 rfl rfl 13 (by decide) w_2 rfl rfl dX7_most_60 ?_
      refine k_iald (v := 0) hx hb hK hP 5 0 0 rfl rfl rfl (Nat.le_of_ble_eq_true rfl) (Nat.le_of_ble_eq_true rfl) rfl dX7_most_63 ?_
      refine lv_ishl hx hb dX7_most_64 ?_
      refine k_int (v := 1) (by decide +kernel) ?_
      refine lv_icmp_ge (tgt := 160) hx hb dX7_most_65 (by decide) (fun _ => ?_) (fun q9 => absurd q9 (by decide +kernel))
      refine lv_iinc (v := 6) (lv' := [(5, .int 6), (6, .int 1), (7, .int (-1)), (4, .int 0), (8, .int 0), (3, .int (-1)), (0, .ref p0), (1, .int 6), (2, .int p2)]) hx hb dX7_most_160 hl (k := 2) rfl (by decide +kernel) (by decide) rfl (fun ls hl => ?_)
      refine lv_goto (tgt := 43) hx hb dX7_most_163 (by decide) ?_
      refine lv_iload hx hb dX7_most_43 (lv_at hl 0 rfl) ?_
      refine lv_iload_n hx hb dX7_most_45 rfl (lv_at hl 7 rfl) ?_
      refine lv_icmp_gt (tgt := 166) hx hb dX7_most_46 (by decide) (fun q9 => absurd q9 (by decide +kernel)) (fun _ => ?_)
      refine lv_iconst (v := 0) hx hb dX7_most_49 (by decide +kernel) ?_
      refine lv_istore (lv' := [(6, .int 0), (5, .int 6), (7, .int (-1)), (4, .int 0), (8, .int 0), (3, .int (-1)), (0, .ref p0), (1, .int 6), (2, .int p2)]) hx hb dX7_most_50 hl (by decide) rfl (fun ls hl => ?_)
      refine lv_iload hx hb dX7_most_52 (lv_at hl 0 rfl) ?_
      refine lv_iconst (v := 1) hx hb dX7_most_54 (by decide +kernel) ?_
      refine lv_aload_n hx hb dX7_most_55 rfl (lv_at hl 6 rfl) ?_
      refine k_get (D := (dC, dI)) (ci := 7) (v := .ref (p3 14)) (C := RX7) (T := TX7) (N := 92) hx hb hts hinX7 hown hK hP 4 rfl rfl 14 (by decide) w_1 rfl rfl dX7_most_56 ?_
      refine lv_aload_n hx hb dX7_most_59 rfl (lv_at hl 6 rfl) ?_
      refine k_get (D := (dC, dI)) (ci := 7) (v := .int 0) (C := RX7) (T := TX7) (N := 92) hx hb hts hinX7 hown hK hP 4 rfl rfl 13 (by decide) w_2 rfl rfl dX7_most_60 ?_
      refine k_iald (v := 0) hx hb hK hP 5 0 0 rfl rfl rfl (Nat.le_of_ble_eq_true rfl) (Nat.le_of_ble_eq_true rfl) rfl dX7_most_63 ?_
      refine lv_ishl hx hb dX7_most_64 ?_
      refine k_int (v := 1) (by decide +kernel) ?_
      refine lv_icmp_ge (tgt := 160) hx hb dX7_most_65 (by decide) (fun q9 => absurd q9 (by decide +kernel)) (fun _ => ?_)
      refine lv_aload_n hx hb dX7_most_68 rfl (lv_at hl 6 rfl) ?_
      refine k_get (D := (dC, dI)) (ci := 7) (v := .ref (p3 72)) (C := RX7) (T := TX7) (N := 92) hx hb hts hinX7 hown hK hP 4 rfl rfl 72 (by decide) w_3 rfl rfl dX7_most_69 ?_
      refine lv_sipush (v := 1024) hx hb dX7_most_72 (by decide +kernel) ?_
      refine lv_iload hx hb dX7_most_75 (lv_at hl 1 rfl) ?_
      refine lv_imul hx hb dX7_most_77 ?_
      refine k_int (v := 6144) (by decide +kernel) ?_
      refine lv_iload hx hb dX7_most_78 (lv_at hl 0 rfl) ?_
      refine lv_iadd hx hb dX7_most_80 ?_
      refine k_int (v := 6144) (by decide +kernel) ?_
      refine k_iald (v := (-1)) hx hb hK hP 2 0 6144 rfl rfl rfl (Nat.le_of_ble_eq_true rfl) (Nat.le_of_ble_eq_true rfl) rfl dX7_most_81 ?_
      refine lv_istore (lv' := [(7, .int (-1)), (6, .int 0), (5, .int 6), (4, .int 0), (8, .int 0), (3, .int (-1)), (0, .ref p0), (1, .int 6), (2, .int p2)]) hx hb dX7_most_82 hl (by decide) rfl (fun ls hl => ?_)
      refine lv_iload hx hb dX7_most_84 (lv_at hl 0 rfl) ?_
      refine lv_iconst (v := (-1)) hx hb dX7_most_86 (by decide +kernel) ?_
      refine lv_icmp_ne (tgt := 93) hx hb dX7_most_87 (by decide) (fun q9 => absurd q9 (by decide +kernel)) (fun _ => ?_)
      refine lv_goto (tgt := 154) hx hb dX7_most_90 (by decide) ?_
      refine lv_iinc (v := 1) (lv' := [(6, .int 1), (7, .int (-1)), (5, .int 6), (4, .int 0), (8, .int 0), (3, .int (-1)), (0, .ref p0), (1, .int 6), (2, .int p2)]) hx hb dX7_most_154 hl (k := 1) rfl (by decide +kernel) (by decide) rfl (fun ls hl => ?_)
      refine lv_goto (tgt := 52) hx hb dX7_most_157 (by decide) ?_
      refine lv_iload hx hb dX7_most_52 (lv_at hl 0 rfl) ?_
      refine lv_iconst (v := 1) hx hb dX7_most_54 (by decide +kernel) ?_
      refine lv_aload_n hx hb dX7_most_55 rfl (lv_at hl 6 rfl) ?_
      refine k_get (D := (dC, dI)) (ci := 7) (v := .ref (p3 14)) (C := RX7) (T := TX7) (N := 92) hx hb hts hinX7 hown hK hP 4 rfl rfl 14 (by decide) w_1 rfl rfl dX7_most_56 ?_
      refine lv_aload_n hx hb dX7_most_59 rfl (lv_at hl 6 rfl) ?_
      refine k_get (D := (dC, dI)) (ci := 7) (v := .int 0) (C := RX7) (T := TX7) (N := 92) hx hb hts hinX7 hown hK hP 4 rfl rfl 13 (by decide) w_2 rfl rfl dX7_most_60 ?_
      refine k_iald (v := 0) hx hb hK hP 5 0 0 rfl rfl rfl (Nat.le_of_ble_eq_true rfl) (Nat.le_of_ble_eq_true rfl) rfl dX7_most_63 ?_
      refine lv_ishl hx hb dX7_most_64 ?_
      refine k_int (v := 1) (by decide +kernel) ?_
      refine lv_icmp_ge (tgt := 160) hx hb dX7_most_65 (by decide) (fun _ => ?_) (fun q9 => absurd q9 (by decide +kernel))
      refine lv_iinc (v := 7) (lv' := [(5, .int 7), (6, .int 1), (7, .int (-1)), (4, .int 0), (8, .int 0), (3, .int (-1)), (0, .ref p0), (1, .int 6), (2, .int p2)]) hx hb dX7_most_160 hl (k := 2) rfl (by decide +kernel) (by decide) rfl (fun ls hl => ?_)
      refine lv_goto (tgt := 43) hx hb dX7_most_163 (by decide) ?_
      refine lv_iload hx hb dX7_most_43 (lv_at hl 0 rfl) ?_
      refine lv_iload_n hx hb dX7_most_45 rfl (lv_at hl 7 rfl) ?_
      refine lv_icmp_gt (tgt := 166) hx hb dX7_most_46 (by decide) (fun _ => ?_) (fun q9 => absurd q9 (by decide +kernel))
      refine lv_iload_n hx hb dX7_most_166 rfl (lv_at hl 8 rfl) ?_
      refine lv_if_ne (tgt := 175) hx hb dX7_most_167 (by decide) (fun c_137 => ?_) (fun c_137 => ?_)
      · have c_137 : ¬ p2.toInt = 0 := k_eqF rfl (by decide +kernel) c_137
        refine lv_iload_n hx hb dX7_most_175 rfl (lv_at hl 8 rfl) ?_
        refine lv_iconst (v := 1) hx hb dX7_most_176 (by decide +kernel) ?_
        refine lv_icmp_ne (tgt := 187) hx hb dX7_most_177 (by decide) (fun c_138 => ?_) (fun c_138 => ?_)
        · have c_138 : ¬ p2.toInt = 1 := k_eqF rfl (by decide +kernel) c_138
          refine lv_iload_n hx hb dX7_most_187 rfl (lv_at hl 8 rfl) ?_
          refine lv_iconst (v := 2) hx hb dX7_most_188 (by decide +kernel) ?_
          refine lv_icmp_ne (tgt := 199) hx hb dX7_most_189 (by decide) (fun c_139 => ?_) (fun c_139 => ?_)
          · have c_139 : ¬ p2.toInt = 2 := k_eqF rfl (by decide +kernel) c_139
            refine lv_aload_n hx hb dX7_most_199 rfl (lv_at hl 6 rfl) ?_
            refine k_get (D := (dC, dI)) (ci := 7) (v := .int 0) (C := RX7) (T := TX7) (N := 92) hx hb hts hinX7 hown hK hP 4 rfl rfl 76 (by decide) w_4 rfl rfl dX7_most_200 ?_
            exact k_ri B hP hD hS dX7_most_203 (38, (fun _ => 0)) [4, 0, 1, 2, 5, 3] rfl rfl rfl (Nat.le_of_ble_eq_true rfl) (Nat.le_of_ble_eq_true rfl) ⟨c_1, c_129, c_130, c_137, c_138, c_139, rfl⟩
          · have c_139 : p2.toInt = 2 := k_eqT rfl (by decide +kernel) c_139
            refine lv_aload_n hx hb dX7_most_192 rfl (lv_at hl 6 rfl) ?_
            refine k_ci (wc := [(p0, .inr (7, oM p3 (upd (upd i7 75 0) 76 0) j7)), ((p3 72), .inl (cI, 9216, .inl (upd (fun _ => (-1)) 0 0)))]) (wr := [((p3 49), .inl (cI, 22, .inl (fun _ => 0))), ((p3 50), .inl (cI, 22, .inl (fun _ => 0))), ((p3 18), .inl (cI, 2, .inl (fun _ => 0))), ((p3 14), .inl (cI, 2, .inl (fun _ => 0)))]) (fun hPc hDc hFc => va_runV (As := []) (rest := []) ⟨hx, hb, hml, hown, hts⟩ (c_X7_foundSea_v0 l dC dI cI cJ cZ cM p0 p3 H.size) (cwV 0 hts gX7_most_X7_foundSea rfl rfl rfl (by decide +kernel) ⟨(Nat.le_of_ble_eq_true rfl), (Nat.le_of_ble_eq_true rfl)⟩) (k_pV hPc hDc hK hN hC hS hFc hP (q0 := 4) (ci := 7) rfl rfl) rfl rfl hl.1 rfl (lv_room (Nat.le_of_ble_eq_true rfl)) dX7_most_193 ⟨(Nat.le_of_ble_eq_true rfl), (Nat.le_of_ble_eq_true rfl)⟩) hP hD hS hA [4, 2] [0, 1, 3, 5] rfl rfl rfl rfl (by decide) (fun _ => rfl) 0 0 rfl rfl (fun r_140 u_141 H locs hw hP hD hS => ?_)
            obtain rfl : r_140 = 0 := hw
            have hP : va_P (dC, dI) vwCl [((p3 49), .inl (cI, 22, .inl (fun _ => 0))), ((p3 50), .inl (cI, 22, .inl (fun _ => 0))), ((p3 18), .inl (cI, 2, .inl (fun _ => 0))), ((p3 14), .inl (cI, 2, .inl (fun _ => 0))), (p0, .inr (7, oM p3 (upd (upd i7 75 0) 76 0) j7)), ((p3 72), .inl (cI, 9216, .inl (upd (fun _ => (-1)) 0 0)))] H := hP
            have hD : va_D A [((p3 49), .inl (cI, 22, .inl (fun _ => 0))), ((p3 50), .inl (cI, 22, .inl (fun _ => 0))), ((p3 18), .inl (cI, 2, .inl (fun _ => 0))), ((p3 14), .inl (cI, 2, .inl (fun _ => 0))), (p0, .inr (7, oM p3 (upd (upd i7 75 0) 76 0) j7)), ((p3 72), .inl (cI, 9216, .inl (upd (fun _ => (-1)) 0 0)))] := hD
            refine lv_goto (tgt := 203) hx hb dX7_most_196 (by decide) ?_
            exact k_ri B hP hD hS dX7_most_203 (39, (fun _ => 0)) [4, 0, 1, 5, 3, 2] rfl rfl rfl (Nat.le_of_ble_eq_true rfl) (Nat.le_of_ble_eq_true rfl) ⟨c_1, c_129, c_130, c_137, c_138, c_139, rfl⟩
        · have c_138 : p2.toInt = 1 := k_eqT rfl (by decide +kernel) c_138
          refine lv_aload_n hx hb dX7_most_180 rfl (lv_at hl 6 rfl) ?_
          refine k_get (D := (dC, dI)) (ci := 7) (v := .int 0) (C := RX7) (T := TX7) (N := 92) hx hb hts hinX7 hown hK hP 4 rfl rfl 75 (by decide) w_0 rfl rfl dX7_most_181 ?_
          refine lv_goto (tgt := 203) hx hb dX7_most_184 (by decide) ?_
          exact k_ri B hP hD hS dX7_most_203 (40, (fun _ => 0)) [4, 0, 1, 2, 5, 3] rfl rfl rfl (Nat.le_of_ble_eq_true rfl) (Nat.le_of_ble_eq_true rfl) ⟨c_1, c_129, c_130, c_137, c_138, rfl⟩
      · have c_137 : p2.toInt = 0 := k_eqT rfl (by decide +kernel) c_137
        refine lv_iload hx hb dX7_most_170 (lv_at hl 3 rfl) ?_
        refine lv_goto (tgt := 203) hx hb dX7_most_172 (by decide) ?_
        exact k_ri B hP hD hS dX7_most_203 (41, (fun _ => 0)) [4, 0, 1, 2, 5, 3] rfl rfl rfl (Nat.le_of_ble_eq_true rfl) (Nat.le_of_ble_eq_true rfl) ⟨c_1, c_129, c_130, c_137, rfl⟩
    · exact False.elim hw
  · obtain rfl : p1 = 7 := k_eqL (by decide +kernel) c_1
    refine lv_iload_n hx hb dX7_most_0 rfl (lv_at hl 1 rfl) ?_
    refine lv_iconst (v := 0) hx hb dX7_most_1 (by decide +kernel) ?_
    refine lv_bipush (v := 8) hx hb dX7_most_2 (by decide +kernel) ?_
    refine k_ci (wc := []) (wr := [(p0, .inr (7, oM p3 i7 j7)), ((p3 49), .inl (cI, 22, .inl (fun _ => 0))), ((p3 50), .inl (cI, 22, .inl (fun _ => 0))), ((p3 72), .inl (cI, 9216, .inl (fun _ => 0))), ((p3 14), .inl (cI, 2, .inl (fun _ => 0))), ((p3 18), .inl (cI, 2, .inl (fun _ => 0)))]) (fun hPc hDc hFc => va_runS (As := [.int 7, .int 0, .int 8]) (rest := []) ⟨hx, hb, hml, hown, hts⟩ (c_X7_is_v13 l dC dI cI cJ cZ cM H.size) (va_cwS 3 hts gX7_most_X7_is rfl rfl rfl (by decide +kernel) ⟨(Nat.le_of_ble_eq_true rfl), (Nat.le_of_ble_eq_true rfl)⟩) (k_pS hPc hDc hK hN hC hS hFc) rfl rfl hl.1 rfl (lv_room (Nat.le_of_ble_eq_true rfl)) dX7_most_4 ⟨(Nat.le_of_ble_eq_true rfl), (Nat.le_of_ble_eq_true rfl)⟩) hP hD hS hA [] [0, 1, 2, 3, 4, 5] rfl rfl rfl rfl (by decide) (fun _ => rfl) 0 0 rfl rfl (fun r_142 u_143 H locs hw hP hD hS => ?_)
    obtain rfl : r_142 = 1 := hw
    have hP : va_P (dC, dI) vwCl [(p0, .inr (7, oM p3 i7 j7)), ((p3 49), .inl (cI, 22, .inl (fun _ => 0))), ((p3 50), .inl (cI, 22, .inl (fun _ => 0))), ((p3 72), .inl (cI, 9216, .inl (fun _ => 0))), ((p3 14), .inl (cI, 2, .inl (fun _ => 0))), ((p3 18), .inl (cI, 2, .inl (fun _ => 0)))] H := hP
    have hD : va_D A [(p0, .inr (7, oM p3 i7 j7)), ((p3 49), .inl (cI, 22, .inl (fun _ => 0))), ((p3 50), .inl (cI, 22, .inl (fun _ => 0))), ((p3 72), .inl (cI, 9216, .inl (fun _ => 0))), ((p3 14), .inl (cI, 2, .inl (fun _ => 0))), ((p3 18), .inl (cI, 2, .inl (fun _ => 0)))] := hD
    refine lv_if_eq (tgt := 19) hx hb dX7_most_7 (by decide) (fun q9 => absurd q9 (by decide +kernel)) (fun _ => ?_)
    refine lv_iload_n hx hb dX7_most_10 rfl (lv_at hl 2 rfl) ?_
    refine lv_iconst (v := 0) hx hb dX7_most_11 (by decide +kernel) ?_
    refine lv_iconst (v := 3) hx hb dX7_most_12 (by decide +kernel) ?_
    refine k_ci (wc := []) (wr := [(p0, .inr (7, oM p3 i7 j7)), ((p3 49), .inl (cI, 22, .inl (fun _ => 0))), ((p3 50), .inl (cI, 22, .inl (fun _ => 0))), ((p3 72), .inl (cI, 9216, .inl (fun _ => 0))), ((p3 14), .inl (cI, 2, .inl (fun _ => 0))), ((p3 18), .inl (cI, 2, .inl (fun _ => 0)))]) (fun hPc hDc hFc => va_runS (As := [.int p2, .int 0, .int 3]) (rest := []) ⟨hx, hb, hml, hown, hts⟩ (c_X7_is_v24 l dC dI cI cJ cZ cM p2 H.size) (va_cwS 3 hts gX7_most_X7_is rfl rfl rfl (by decide +kernel) ⟨(Nat.le_of_ble_eq_true rfl), (Nat.le_of_ble_eq_true rfl)⟩) (k_pS hPc hDc hK hN hC hS hFc) rfl rfl hl.1 rfl (lv_room (Nat.le_of_ble_eq_true rfl)) dX7_most_13 ⟨(Nat.le_of_ble_eq_true rfl), (Nat.le_of_ble_eq_true rfl)⟩) hP hD hS hA [] [0, 1, 2, 3, 4, 5] rfl rfl rfl rfl (by decide) (fun _ => rfl) 0 0 rfl rfl (fun r_144 u_145 H locs hw hP hD hS => ?_)
    obtain ⟨k_u_145, u_u_145⟩ := u_145
    rcases k_u_145 with _ | _ | _ | k_u_145
    · obtain ⟨c_146, rfl⟩ : (p2.toInt < 0) ∧ r_144 = 0 := hw
      have hP : va_P (dC, dI) vwCl [(p0, .inr (7, oM p3 i7 j7)), ((p3 49), .inl (cI, 22, .inl (fun _ => 0))), ((p3 50), .inl (cI, 22, .inl (fun _ => 0))), ((p3 72), .inl (cI, 9216, .inl (fun _ => 0))), ((p3 14), .inl (cI, 2, .inl (fun _ => 0))), ((p3 18), .inl (cI, 2, .inl (fun _ => 0)))] H := hP
      have hD : va_D A [(p0, .inr (7, oM p3 i7 j7)), ((p3 49), .inl (cI, 22, .inl (fun _ => 0))), ((p3 50), .inl (cI, 22, .inl (fun _ => 0))), ((p3 72), .inl (cI, 9216, .inl (fun _ => 0))), ((p3 14), .inl (cI, 2, .inl (fun _ => 0))), ((p3 18), .inl (cI, 2, .inl (fun _ => 0)))] := hD
      refine lv_if_ne (tgt := 21) hx hb dX7_most_16 (by decide) (fun q9 => absurd q9 (by decide +kernel)) (fun _ => ?_)
      refine lv_iconst (v := (-1)) hx hb dX7_most_19 (by decide +kernel) ?_
      exact k_ri B hP hD hS dX7_most_20 (42, (fun _ => 0)) [0, 1, 2, 3, 4, 5] rfl rfl rfl (Nat.le_of_ble_eq_true rfl) (Nat.le_of_ble_eq_true rfl) ⟨c_1, c_146, rfl⟩
    · obtain ⟨c_147, c_148, rfl⟩ : (0 ≤ p2.toInt) ∧ (3 < p2.toInt) ∧ r_144 = 0 := hw
      have hP : va_P (dC, dI) vwCl [(p0, .inr (7, oM p3 i7 j7)), ((p3 49), .inl (cI, 22, .inl (fun _ => 0))), ((p3 50), .inl (cI, 22, .inl (fun _ => 0))), ((p3 72), .inl (cI, 9216, .inl (fun _ => 0))), ((p3 14), .inl (cI, 2, .inl (fun _ => 0))), ((p3 18), .inl (cI, 2, .inl (fun _ => 0)))] H := hP
      have hD : va_D A [(p0, .inr (7, oM p3 i7 j7)), ((p3 49), .inl (cI, 22, .inl (fun _ => 0))), ((p3 50), .inl (cI, 22, .inl (fun _ => 0))), ((p3 72), .inl (cI, 9216, .inl (fun _ => 0))), ((p3 14), .inl (cI, 2, .inl (fun _ => 0))), ((p3 18), .inl (cI, 2, .inl (fun _ => 0)))] := hD
      refine lv_if_ne (tgt := 21) hx hb dX7_most_16 (by decide) (fun q9 => absurd q9 (by decide +kernel)) (fun _ => ?_)
      refine lv_iconst (v := (-1)) hx hb dX7_most_19 (by decide +kernel) ?_
      exact k_ri B hP hD hS dX7_most_20 (43, (fun _ => 0)) [0, 1, 2, 3, 4, 5] rfl rfl rfl (Nat.le_of_ble_eq_true rfl) (Nat.le_of_ble_eq_true rfl) ⟨c_1, c_147, c_148, rfl⟩
    · obtain ⟨c_149, c_150, rfl⟩ : (0 ≤ p2.toInt) ∧ (p2.toInt ≤ 3) ∧ r_144 = 1 := hw
      have hP : va_P (dC, dI) vwCl [(p0, .inr (7, oM p3 i7 j7)), ((p3 49), .inl (cI, 22, .inl (fun _ => 0))), ((p3 50), .inl (cI, 22, .inl (fun _ => 0))), ((p3 72), .inl (cI, 9216, .inl (fun _ => 0))), ((p3 14), .inl (cI, 2, .inl (fun _ => 0))), ((p3 18), .inl (cI, 2, .inl (fun _ => 0)))] H := hP
      have hD : va_D A [(p0, .inr (7, oM p3 i7 j7)), ((p3 49), .inl (cI, 22, .inl (fun _ => 0))), ((p3 50), .inl (cI, 22, .inl (fun _ => 0))), ((p3 72), .inl (cI, 9216, .inl (fun _ => 0))), ((p3 14), .inl (cI, 2, .inl (fun _ => 0))), ((p3 18), .inl (cI, 2, .inl (fun _ => 0)))] := hD
      refine lv_if_ne (tgt := 21) hx hb dX7_most_16 (by decide) (fun _ => ?_) (fun q9 => absurd q9 (by decide +kernel))
      refine lv_aload_n hx hb dX7_most_21 rfl (lv_at hl 0 rfl) ?_
      refine k_cv (wc := [(p0, .inr (7, oM p3 i7 j7)), ((p3 49), .inl (cI, 22, .inl (fun _ => 0))), ((p3 50), .inl (cI, 22, .inl (fun _ => 0))), ((p3 72), .inl (cI, 9216, .inl (fun _ => 0))), ((p3 14), .inl (cI, 2, .inl (fun _ => 0))), ((p3 18), .inl (cI, 2, .inl (fun _ => 0)))]) (wr := []) (fun hPc hDc hFc => va_runV (As := []) (rest := []) ⟨hx, hb, hml, hown, hts⟩ (c_X7_climbs_v0 l dC dI cI cJ cZ cM p0 p3 H.size) (cwV 0 hts gX7_most_X7_climbs rfl rfl rfl (by decide +kernel) ⟨(Nat.le_of_ble_eq_true rfl), (Nat.le_of_ble_eq_true rfl)⟩) (k_pV hPc hDc hK hN hC hS hFc hP (q0 := 0) (ci := 7) rfl rfl) rfl rfl hl.1 rfl (lv_room (Nat.le_of_ble_eq_true rfl)) dX7_most_22 ⟨(Nat.le_of_ble_eq_true rfl), (Nat.le_of_ble_eq_true rfl)⟩) hP hD hS hA [0, 1, 2, 3, 4, 5] [] rfl rfl rfl rfl (by decide) (fun _ => rfl) 0 0 rfl rfl (fun u_152 H locs hw hP hD hS => ?_)
      have hP : va_P (dC, dI) vwCl [(p0, .inr (7, oM p3 i7 j7)), ((p3 49), .inl (cI, 22, .inl (fun _ => 0))), ((p3 50), .inl (cI, 22, .inl (fun _ => 0))), ((p3 72), .inl (cI, 9216, .inl (upd (fun _ => (-1)) 0 0))), ((p3 14), .inl (cI, 2, .inl (fun _ => 0))), ((p3 18), .inl (cI, 2, .inl (fun _ => 0)))] H := hP
      have hD : va_D A [(p0, .inr (7, oM p3 i7 j7)), ((p3 49), .inl (cI, 22, .inl (fun _ => 0))), ((p3 50), .inl (cI, 22, .inl (fun _ => 0))), ((p3 72), .inl (cI, 9216, .inl (upd (fun _ => (-1)) 0 0))), ((p3 14), .inl (cI, 2, .inl (fun _ => 0))), ((p3 18), .inl (cI, 2, .inl (fun _ => 0)))] := hD
      refine lv_aload_n hx hb dX7_most_25 rfl (lv_at hl 0 rfl) ?_
      refine k_ci (wc := [(p0, .inr (7, oM p3 i7 j7)), ((p3 14), .inl (cI, 2, .inl (fun _ => 0)))]) (wr := [((p3 49), .inl (cI, 22, .inl (fun _ => 0))), ((p3 50), .inl (cI, 22, .inl (fun _ => 0))), ((p3 72), .inl (cI, 9216, .inl (upd (fun _ => (-1)) 0 0))), ((p3 18), .inl (cI, 2, .inl (fun _ => 0)))]) (fun hPc hDc hFc => va_runV (As := []) (rest := []) ⟨hx, hb, hml, hown, hts⟩ (c_X7_briefOnes_v2 l dC dI cI cJ cZ cM p0 p3 H.size) (cwV 0 hts gX7_most_X7_briefOnes rfl rfl rfl (by decide +kernel) ⟨(Nat.le_of_ble_eq_true rfl), (Nat.le_of_ble_eq_true rfl)⟩) (k_pV hPc hDc hK hN hC hS hFc hP (q0 := 0) (ci := 7) rfl rfl) rfl rfl hl.1 rfl (lv_room (Nat.le_of_ble_eq_true rfl)) dX7_most_26 ⟨(Nat.le_of_ble_eq_true rfl), (Nat.le_of_ble_eq_true rfl)⟩) hP hD hS hA [0, 4] [1, 2, 3, 5] rfl rfl rfl rfl (by decide) (fun _ => rfl) 0 0 rfl rfl (fun r_153 u_154 H locs hw hP hD hS => ?_)
      obtain rfl : r_153 = 0 := hw
      have hP : va_P (dC, dI) vwCl [((p3 49), .inl (cI, 22, .inl (fun _ => 0))), ((p3 50), .inl (cI, 22, .inl (fun _ => 0))), ((p3 72), .inl (cI, 9216, .inl (upd (fun _ => (-1)) 0 0))), ((p3 18), .inl (cI, 2, .inl (fun _ => 0))), (p0, .inr (7, oM p3 i7 j7)), ((p3 14), .inl (cI, 2, .inl (fun _ => 0)))] H := hP
      have hD : va_D A [((p3 49), .inl (cI, 22, .inl (fun _ => 0))), ((p3 50), .inl (cI, 22, .inl (fun _ => 0))), ((p3 72), .inl (cI, 9216, .inl (upd (fun _ => (-1)) 0 0))), ((p3 18), .inl (cI, 2, .inl (fun _ => 0))), (p0, .inr (7, oM p3 i7 j7)), ((p3 14), .inl (cI, 2, .inl (fun _ => 0)))] := hD
      refine lv_iconst (v := (-1)) hx hb dX7_most_29 (by decide +kernel) ?_
      refine lv_ixor hx hb dX7_most_30 ?_
      refine k_int (v := (-1)) (by decide +kernel) ?_
      refine lv_istore_n (lv' := [(3, .int (-1)), (0, .ref p0), (1, .int 7), (2, .int p2)]) hx hb dX7_most_31 rfl hl (by decide) rfl (fun ls hl => ?_)
      refine lv_aload_n hx hb dX7_most_32 rfl (lv_at hl 1 rfl) ?_
      refine lv_iconst (v := (-1)) hx hb dX7_most_33 (by decide +kernel) ?_
      refine k_put (D := (dC, dI)) (ci := 7) (v := .int (-1)) (C := RX7) (T := TX7) (N := 92) (ws' := [((p3 49), .inl (cI, 22, .inl (fun _ => 0))), ((p3 50), .inl (cI, 22, .inl (fun _ => 0))), ((p3 72), .inl (cI, 9216, .inl (upd (fun _ => (-1)) 0 0))), ((p3 18), .inl (cI, 2, .inl (fun _ => 0))), (p0, .inr (7, oM p3 (upd i7 75 (-1)) j7)), ((p3 14), .inl (cI, 2, .inl (fun _ => 0)))]) hx hb hts hinX7 tyX7 tyX7_ok nmX7 hown hK hP hD hS 4 rfl rfl 75 (by decide) w_0 rfl rfl rfl rfl (Nat.le_of_ble_eq_true rfl) rfl dX7_most_34 (fun H locs hP hD hS => ?_)
      refine lv_iconst (v := (-1)) hx hb dX7_most_37 (by decide +kernel) ?_
      refine lv_istore (lv' := [(4, .int (-1)), (3, .int (-1)), (0, .ref p0), (1, .int 7), (2, .int p2)]) hx hb dX7_most_38 hl (by decide) rfl (fun ls hl => ?_)
      refine lv_iconst (v := 0) hx hb dX7_most_40 (by decide +kernel) ?_
      refine lv_istore (lv' := [(5, .int 0), (4, .int (-1)), (3, .int (-1)), (0, .ref p0), (1, .int 7), (2, .int p2)]) hx hb dX7_most_41 hl (by decide) rfl (fun ls hl => ?_)
      refine lv_iload hx hb dX7_most_43 (lv_at hl 0 rfl) ?_
      refine lv_iload_n hx hb dX7_most_45 rfl (lv_at hl 4 rfl) ?_
      refine lv_icmp_gt (tgt := 166) hx hb dX7_most_46 (by decide) (fun q9 => absurd q9 (by decide +kernel)) (fun _ => ?_)
      refine lv_iconst (v := 0) hx hb dX7_most_49 (by decide +kernel) ?_
      refine lv_istore (lv' := [(6, .int 0), (5, .int 0), (4, .int (-1)), (3, .int (-1)), (0, .ref p0), (1, .int 7), (2, .int p2)]) hx hb dX7_most_50 hl (by decide) rfl (fun ls hl => ?_)
      refine lv_iload hx hb dX7_most_52 (lv_at hl 0 rfl) ?_
      refine lv_iconst (v := 1) hx hb dX7_most_54 (by decide +kernel) ?_
      refine lv_aload_n hx hb dX7_most_55 rfl (lv_at hl 4 rfl) ?_
      refine k_get (D := (dC, dI)) (ci := 7) (v := .ref (p3 14)) (C := RX7) (T := TX7) (N := 92) hx hb hts hinX7 hown hK hP 4 rfl rfl 14 (by decide) w_1 rfl rfl dX7_most_56 ?_
      refine lv_aload_n hx hb dX7_most_59 rfl (lv_at hl 4 rfl) ?_
      refine k_get (D := (dC, dI)) (ci := 7) (v := .int 0) (C := RX7) (T := TX7) (N := 92) hx hb hts hinX7 hown hK hP 4 rfl rfl 13 (by decide) w_2 rfl rfl dX7_most_60 ?_
      refine k_iald (v := 0) hx hb hK hP 5 0 0 rfl rfl rfl (Nat.le_of_ble_eq_true rfl) (Nat.le_of_ble_eq_true rfl) rfl dX7_most_63 ?_
      refine lv_ishl hx hb dX7_most_64 ?_
      refine k_int (v := 1) (by decide +kernel) ?_
      refine lv_icmp_ge (tgt := 160) hx hb dX7_most_65 (by decide) (fun q9 => absurd q9 (by decide +kernel)) (fun _ => ?_)
      refine lv_aload_n hx hb dX7_most_68 rfl (lv_at hl 4 rfl) ?_
      refine k_get (D := (dC, dI)) (ci := 7) (v := .ref (p3 72)) (C := RX7) (T := TX7) (N := 92) hx hb hts hinX7 hown hK hP 4 rfl rfl 72 (by decide) w_3 rfl rfl dX7_most_69 ?_
      refine lv_sipush (v := 1024) hx hb dX7_most_72 (by decide +kernel) ?_
      refine lv_iload hx hb dX7_most_75 (lv_at hl 1 rfl) ?_
      refine lv_imul hx hb dX7_most_77 ?_
      refine k_int (v := 0) (by decide +kernel) ?_
      refine lv_iload hx hb dX7_most_78 (lv_at hl 0 rfl) ?_
      refine lv_iadd hx hb dX7_most_80 ?_
      refine k_int (v := 0) (by decide +kernel) ?_
      refine k_iald (v := 0) hx hb hK hP 2 0 0 rfl rfl rfl (Nat.le_of_ble_eq_true rfl) (Nat.le_of_ble_eq_true rfl) rfl dX7_most_81 ?_
      refine lv_istore (lv' := [(7, .int 0), (6, .int 0), (5, .int 0), (4, .int (-1)), (3, .int (-1)), (0, .ref p0), (1, .int 7), (2, .int p2)]) hx hb dX7_most_82 hl (by decide) rfl (fun ls hl => ?_)
      refine lv_iload hx hb dX7_most_84 (lv_at hl 0 rfl) ?_
      refine lv_iconst (v := (-1)) hx hb dX7_most_86 (by decide +kernel) ?_
      refine lv_icmp_ne (tgt := 93) hx hb dX7_most_87 (by decide) (fun _ => ?_) (fun q9 => absurd q9 (by decide +kernel))
      refine lv_aload_n hx hb dX7_most_93 rfl (lv_at hl 5 rfl) ?_
      refine lv_iload hx hb dX7_most_94 (lv_at hl 1 rfl) ?_
      refine lv_iload_n hx hb dX7_most_96 rfl (lv_at hl 4 rfl) ?_
      refine lv_iand hx hb dX7_most_97 ?_
      refine k_int (v := 0) (by decide +kernel) ?_
      refine k_ci (wc := [(p0, .inr (7, oM p3 (upd i7 75 (-1)) j7)), ((p3 14), .inl (cI, 2, .inl (fun _ => 0)))]) (wr := [((p3 49), .inl (cI, 22, .inl (fun _ => 0))), ((p3 50), .inl (cI, 22, .inl (fun _ => 0))), ((p3 72), .inl (cI, 9216, .inl (upd (fun _ => (-1)) 0 0))), ((p3 18), .inl (cI, 2, .inl (fun _ => 0)))]) (fun hPc hDc hFc => va_runV (As := [.int 0]) (rest := []) ⟨hx, hb, hml, hown, hts⟩ (c_X7_worthOf_v1 l dC dI cI cJ cZ cM p0 p3 H.size) (cwV 1 hts gX7_most_X7_worthOf rfl rfl rfl (by decide +kernel) ⟨(Nat.le_of_ble_eq_true rfl), (Nat.le_of_ble_eq_true rfl)⟩) (k_pV hPc hDc hK hN hC hS hFc hP (q0 := 4) (ci := 7) rfl rfl) rfl rfl hl.1 rfl (lv_room (Nat.le_of_ble_eq_true rfl)) dX7_most_98 ⟨(Nat.le_of_ble_eq_true rfl), (Nat.le_of_ble_eq_true rfl)⟩) hP hD hS hA [4, 5] [0, 1, 2, 3] rfl rfl rfl rfl (by decide) (fun _ => rfl) 0 0 rfl rfl (fun r_155 u_156 H locs hw hP hD hS => ?_)
      obtain rfl : r_155 = 0 := hw
      have hP : va_P (dC, dI) vwCl [((p3 49), .inl (cI, 22, .inl (fun _ => 0))), ((p3 50), .inl (cI, 22, .inl (fun _ => 0))), ((p3 72), .inl (cI, 9216, .inl (upd (fun _ => (-1)) 0 0))), ((p3 18), .inl (cI, 2, .inl (fun _ => 0))), (p0, .inr (7, oM p3 (upd i7 75 (-1)) j7)), ((p3 14), .inl (cI, 2, .inl (fun _ => 0)))] H := hP
      have hD : va_D A [((p3 49), .inl (cI, 22, .inl (fun _ => 0))), ((p3 50), .inl (cI, 22, .inl (fun _ => 0))), ((p3 72), .inl (cI, 9216, .inl (upd (fun _ => (-1)) 0 0))), ((p3 18), .inl (cI, 2, .inl (fun _ => 0))), (p0, .inr (7, oM p3 (upd i7 75 (-1)) j7)), ((p3 14), .inl (cI, 2, .inl (fun _ => 0)))] := hD
      refine lv_istore (lv' := [(8, .int 0), (7, .int 0), (6, .int 0), (5, .int 0), (4, .int (-1)), (3, .int (-1)), (0, .ref p0), (1, .int 7), (2, .int p2)]) hx hb dX7_most_101 hl (by decide) rfl (fun ls hl => ?_)
      refine lv_iload hx hb dX7_most_103 (lv_at hl 0 rfl) ?_
      refine lv_iload hx hb dX7_most_105 (lv_at hl 4 rfl) ?_
      refine lv_icmp_lt (tgt := 154) hx hb dX7_most_107 (by decide) (fun q9 => absurd q9 (by decide +kernel)) (fun _ => ?_)
      refine lv_iload hx hb dX7_most_110 (lv_at hl 0 rfl) ?_
      refine lv_iload hx hb dX7_most_112 (lv_at hl 4 rfl) ?_
      refine lv_icmp_ne (tgt := 138) hx hb dX7_most_114 (by decide) (fun _ => ?_) (fun q9 => absurd q9 (by decide +kernel))
      refine lv_iload hx hb dX7_most_138 (lv_at hl 0 rfl) ?_
      refine lv_istore (lv' := [(4, .int 0), (8, .int 0), (7, .int 0), (6, .int 0), (5, .int 0), (3, .int (-1)), (0, .ref p0), (1, .int 7), (2, .int p2)]) hx hb dX7_most_140 hl (by decide) rfl (fun ls hl => ?_)
      refine lv_aload_n hx hb dX7_most_142 rfl (lv_at hl 6 rfl) ?_
      refine lv_iload hx hb dX7_most_143 (lv_at hl 4 rfl) ?_
      refine k_put (D := (dC, dI)) (ci := 7) (v := .int 0) (C := RX7) (T := TX7) (N := 92) (ws' := [((p3 49), .inl (cI, 22, .inl (fun _ => 0))), ((p3 50), .inl (cI, 22, .inl (fun _ => 0))), ((p3 72), .inl (cI, 9216, .inl (upd (fun _ => (-1)) 0 0))), ((p3 18), .inl (cI, 2, .inl (fun _ => 0))), (p0, .inr (7, oM p3 (upd i7 75 0) j7)), ((p3 14), .inl (cI, 2, .inl (fun _ => 0)))]) hx hb hts hinX7 tyX7 tyX7_ok nmX7 hown hK hP hD hS 4 rfl rfl 75 (by decide) w_0 rfl rfl rfl rfl (Nat.le_of_ble_eq_true rfl) rfl dX7_most_145 (fun H locs hP hD hS => ?_)
      refine lv_aload_n hx hb dX7_most_148 rfl (lv_at hl 6 rfl) ?_
      refine lv_iload hx hb dX7_most_149 (lv_at hl 3 rfl) ?_
      refine k_put (D := (dC, dI)) (ci := 7) (v := .int 0) (C := RX7) (T := TX7) (N := 92) (ws' := [((p3 49), .inl (cI, 22, .inl (fun _ => 0))), ((p3 50), .inl (cI, 22, .inl (fun _ => 0))), ((p3 72), .inl (cI, 9216, .inl (upd (fun _ => (-1)) 0 0))), ((p3 18), .inl (cI, 2, .inl (fun _ => 0))), (p0, .inr (7, oM p3 (upd (upd i7 75 0) 76 0) j7)), ((p3 14), .inl (cI, 2, .inl (fun _ => 0)))]) hx hb hts hinX7 tyX7 tyX7_ok nmX7 hown hK hP hD hS 4 rfl rfl 76 (by decide) w_4 rfl rfl rfl rfl (Nat.le_of_ble_eq_true rfl) rfl dX7_most_151 (fun H locs hP hD hS => ?_)
      refine lv_iinc (v := 1) (lv' := [(6, .int 1), (4, .int 0), (8, .int 0), (7, .int 0), (5, .int 0), (3, .int (-1)), (0, .ref p0), (1, .int 7), (2, .int p2)]) hx hb dX7_most_154 hl (k := 3) rfl (by decide +kernel) (by decide) rfl (fun ls hl => ?_)
      refine lv_goto (tgt := 52) hx hb dX7_most_157 (by decide) ?_
      refine lv_iload hx hb dX7_most_52 (lv_at hl 0 rfl) ?_
      refine lv_iconst (v := 1) hx hb dX7_most_54 (by decide +kernel) ?_
      refine lv_aload_n hx hb dX7_most_55 rfl (lv_at hl 6 rfl) ?_
      refine k_get (D := (dC, dI)) (ci := 7) (v := .ref (p3 14)) (C := RX7) (T := TX7) (N := 92) hx hb hts hinX7 hown hK hP 4 rfl rfl 14 (by decide) w_1 rfl rfl dX7_most_56 ?_
      refine lv_aload_n hx hb dX7_most_59 rfl (lv_at hl 6 rfl) ?_
      refine k_get (D := (dC, dI)) (ci := 7) (v := .int 0) (C := RX7) (T := TX7) (N := 92) hx hb hts hinX7 hown hK hP 4 rfl rfl 13 (by decide) w_2 rfl rfl dX7_most_60 ?_
      refine k_iald (v := 0) hx hb hK hP 5 0 0 rfl rfl rfl (Nat.le_of_ble_eq_true rfl) (Nat.le_of_ble_eq_true rfl) rfl dX7_most_63 ?_
      refine lv_ishl hx hb dX7_most_64 ?_
      refine k_int (v := 1) (by decide +kernel) ?_
      refine lv_icmp_ge (tgt := 160) hx hb dX7_most_65 (by decide) (fun _ => ?_) (fun q9 => absurd q9 (by decide +kernel))
      refine lv_iinc (v := 1) (lv' := [(5, .int 1), (6, .int 1), (4, .int 0), (8, .int 0), (7, .int 0), (3, .int (-1)), (0, .ref p0), (1, .int 7), (2, .int p2)]) hx hb dX7_most_160 hl (k := 4) rfl (by decide +kernel) (by decide) rfl (fun ls hl => ?_)
      refine lv_goto (tgt := 43) hx hb dX7_most_163 (by decide) ?_
      refine lv_iload hx hb dX7_most_43 (lv_at hl 0 rfl) ?_
      refine lv_iload_n hx hb dX7_most_45 rfl (lv_at hl 7 rfl) ?_
      refine lv_icmp_gt (tgt := 166) hx hb dX7_most_46 (by decide) (fun q9 => absurd q9 (by decide +kernel)) (fun _ => ?_)
      refine lv_iconst (v := 0) hx hb dX7_most_49 (by decide +kernel) ?_
      refine lv_istore (lv' := [(6, .int 0), (5, .int 1), (4, .int 0), (8, .int 0), (7, .int 0), (3, .int (-1)), (0, .ref p0), (1, .int 7), (2, .int p2)]) hx hb dX7_most_50 hl (by decide) rfl (fun ls hl => ?_)
      refine lv_iload hx hb dX7_most_52 (lv_at hl 0 rfl) ?_
      refine lv_iconst (v := 1) hx hb dX7_most_54 (by decide +kernel) ?_
      refine lv_aload_n hx hb dX7_most_55 rfl (lv_at hl 6 rfl) ?_
      refine k_get (D := (dC, dI)) (ci := 7) (v := .ref (p3 14)) (C := RX7) (T := TX7) (N := 92) hx hb hts hinX7 hown hK hP 4 rfl rfl 14 (by decide) w_1 rfl rfl dX7_most_56 ?_
      refine lv_aload_n hx hb dX7_most_59 rfl (lv_at hl 6 rfl) ?_
      refine k_get (D := (dC, dI)) (ci := 7) (v := .int 0) (C := RX7) (T := TX7) (N := 92) hx hb hts hinX7 hown hK hP 4 rfl rfl 13 (by decide) w_2 rfl rfl dX7_most_60 ?_
      refine k_iald (v := 0) hx hb hK hP 5 0 0 rfl rfl rfl (Nat.le_of_ble_eq_true rfl) (Nat.le_of_ble_eq_true rfl) rfl dX7_most_63 ?_
      refine lv_ishl hx hb dX7_most_64 ?_
      refine k_int (v := 1) (by decide +kernel) ?_
      refine lv_icmp_ge (tgt := 160) hx hb dX7_most_65 (by decide) (fun q9 => absurd q9 (by decide +kernel)) (fun _ => ?_)
      refine lv_aload_n hx hb dX7_most_68 rfl (lv_at hl 6 rfl) ?_
      refine k_get (D := (dC, dI)) (ci := 7) (v := .ref (p3 72)) (C := RX7) (T := TX7) (N := 92) hx hb hts hinX7 hown hK hP 4 rfl rfl 72 (by decide) w_3 rfl rfl dX7_most_69 ?_
      refine lv_sipush (v := 1024) hx hb dX7_most_72 (by decide +kernel) ?_
      refine lv_iload hx hb dX7_most_75 (lv_at hl 1 rfl) ?_
      refine lv_imul hx hb dX7_most_77 ?_
      refine k_int (v := 1024) (by decide +kernel) ?_
      refine lv_iload hx hb dX7_most_78 (lv_at hl 0 rfl) ?_
      refine lv_iadd hx hb dX7_most_80 ?_
      refine k_int (v := 1024) (by decide +kernel) ?_
      refine k_iald (v := (-1)) hx hb hK hP 2 0 1024 rfl rfl rfl (Nat.le_of_ble_eq_true rfl) (Nat.le_of_ble_eq_true rfl) rfl dX7_most_81 ?_
      refine lv_istore (lv' := [(7, .int (-1)), (6, .int 0), (5, .int 1), (4, .int 0), (8, .int 0), (3, .int (-1)), (0, .ref p0), (1, .int 7), (2, .int p2)]) hx hb dX7_most_82 hl (by decide) rfl (fun ls hl => ?_)
      refine lv_iload hx hb dX7_most_84 (lv_at hl 0 rfl) ?_
      refine lv_iconst (v := (-1)) hx hb dX7_most_86 (by decide +kernel) ?_
      refine lv_icmp_ne (tgt := 93) hx hb dX7_most_87 (by decide) (fun q9 => absurd q9 (by decide +kernel)) (fun _ => ?_)
      refine lv_goto (tgt := 154) hx hb dX7_most_90 (by decide) ?_
      refine lv_iinc (v := 1) (lv' := [(6, .int 1), (7, .int (-1)), (5, .int 1), (4, .int 0), (8, .int 0), (3, .int (-1)), (0, .ref p0), (1, .int 7), (2, .int p2)]) hx hb dX7_most_154 hl (k := 1) rfl (by decide +kernel) (by decide) rfl (fun ls hl => ?_)
      refine lv_goto (tgt := 52) hx hb dX7_most_157 (by decide) ?_
      refine lv_iload hx hb dX7_most_52 (lv_at hl 0 rfl) ?_
      refine lv_iconst (v := 1) hx hb dX7_most_54 (by decide +kernel) ?_
      refine lv_aload_n hx hb dX7_most_55 rfl (lv_at hl 6 rfl) ?_
      refine k_get (D := (dC, dI)) (ci := 7) (v := .ref (p3 14)) (C := RX7) (T := TX7) (N := 92) hx hb hts hinX7 hown hK hP 4 rfl rfl 14 (by decide) w_1 rfl rfl dX7_most_56 ?_
      refine lv_aload_n hx hb dX7_most_59 rfl (lv_at hl 6 rfl) ?_
      refine k_get (D := (dC, dI)) (ci := 7) (v := .int 0) (C := RX7) (T := TX7) (N := 92) hx hb hts hinX7 hown hK hP 4 rfl rfl 13 (by decide) w_2 rfl rfl dX7_most_60 ?_
      refine k_iald (v := 0) hx hb hK hP 5 0 0 rfl rfl rfl (Nat.le_of_ble_eq_true rfl) (Nat.le_of_ble_eq_true rfl) rfl dX7_most_63 ?_
      refine lv_ishl hx hb dX7_most_64 ?_
      refine k_int (v := 1) (by decide +kernel) ?_
      refine lv_icmp_ge (tgt := 160) hx hb dX7_most_65 (by decide) (fun _ => ?_) (fun q9 => absurd q9 (by decide +kernel))
      refine lv_iinc (v := 2) (lv' := [(5, .int 2), (6, .int 1), (7, .int (-1)), (4, .int 0), (8, .int 0), (3, .int (-1)), (0, .ref p0), (1, .int 7), (2, .int p2)]) hx hb dX7_most_160 hl (k := 2) rfl (by decide +kernel) (by decide) rfl (fun ls hl => ?_)
      refine lv_goto (tgt := 43) hx hb dX7_most_163 (by decide) ?_
      refine lv_iload hx hb dX7_most_43 (lv_at hl 0 rfl) ?_
      refine lv_iload_n hx hb dX7_most_45 rfl (lv_at hl 7 rfl) ?_
      refine lv_icmp_gt (tgt := 166) hx hb dX7_most_46 (by decide) (fun q9 => absurd q9 (by decide +kernel)) (fun _ => ?_)
      refine lv_iconst (v := 0) hx hb dX7_most_49 (by decide +kernel) ?_
      refine lv_istore (lv' := [(6, .int 0), (5, .int 2), (7, .int (-1)), (4, .int 0), (8, .int 0), (3, .int (-1)), (0, .ref p0), (1, .int 7), (2, .int p2)]) hx hb dX7_most_50 hl (by decide) rfl (fun ls hl => ?_)
      refine lv_iload hx hb dX7_most_52 (lv_at hl 0 rfl) ?_
      refine lv_iconst (v := 1) hx hb dX7_most_54 (by decide +kernel) ?_
      refine lv_aload_n hx hb dX7_most_55 rfl (lv_at hl 6 rfl) ?_
      refine k_get (D := (dC, dI)) (ci := 7) (v := .ref (p3 14)) (C := RX7) (T := TX7) (N := 92) hx hb hts hinX7 hown hK hP 4 rfl rfl 14 (by decide) w_1 rfl rfl dX7_most_56 ?_
      refine lv_aload_n hx hb dX7_most_59 rfl (lv_at hl 6 rfl) ?_
      refine k_get (D := (dC, dI)) (ci := 7) (v := .int 0) (C := RX7) (T := TX7) (N := 92) hx hb hts hinX7 hown hK hP 4 rfl rfl 13 (by decide) w_2 rfl rfl dX7_most_60 ?_
      refine k_iald (v := 0) hx hb hK hP 5 0 0 rfl rfl rfl (Nat.le_of_ble_eq_true rfl) (Nat.le_of_ble_eq_true rfl) rfl dX7_most_63 ?_
      refine lv_ishl hx hb dX7_most_64 ?_
      refine k_int (v := 1) (by decide +kernel) ?_
      refine lv_icmp_ge (tgt := 160) hx hb dX7_most_65 (by decide) (fun q9 => absurd q9 (by decide +kernel)) (fun _ => ?_)
      refine lv_aload_n hx hb dX7_most_68 rfl (lv_at hl 6 rfl) ?_
      refine k_get (D := (dC, dI)) (ci := 7) (v := .ref (p3 72)) (C := RX7) (T := TX7) (N := 92) hx hb hts hinX7 hown hK hP 4 rfl rfl 72 (by decide) w_3 rfl rfl dX7_most_69 ?_
      refine lv_sipush (v := 1024) hx hb dX7_most_72 (by decide +kernel) ?_
      refine lv_iload hx hb dX7_most_75 (lv_at hl 1 rfl) ?_
      refine lv_imul hx hb dX7_most_77 ?_
      refine k_int (v := 2048) (by decide +kernel) ?_
      refine lv_iload hx hb dX7_most_78 (lv_at hl 0 rfl) ?_
      refine lv_iadd hx hb dX7_most_80 ?_
      refine k_int (v := 2048) (by decide +kernel) ?_
      refine k_iald (v := (-1)) hx hb hK hP 2 0 2048 rfl rfl rfl (Nat.le_of_ble_eq_true rfl) (Nat.le_of_ble_eq_true rfl) rfl dX7_most_81 ?_
      refine lv_istore (lv' := [(7, .int (-1)), (6, .int 0), (5, .int 2), (4, .int 0), (8, .int 0), (3, .int (-1)), (0, .ref p0), (1, .int 7), (2, .int p2)]) hx hb dX7_most_82 hl (by decide) rfl (fun ls hl => ?_)
      refine lv_iload hx hb dX7_most_84 (lv_at hl 0 rfl) ?_
      refine lv_iconst (v := (-1)) hx hb dX7_most_86 (by decide +kernel) ?_
      refine lv_icmp_ne (tgt := 93) hx hb dX7_most_87 (by decide) (fun q9 => absurd q9 (by decide +kernel)) (fun _ => ?_)
      refine lv_goto (tgt := 154) hx hb dX7_most_90 (by decide) ?_
      refine lv_iinc (v := 1) (lv' := [(6, .int 1), (7, .int (-1)), (5, .int 2), (4, .int 0), (8, .int 0), (3, .int (-1)), (0, .ref p0), (1, .int 7), (2, .int p2)]) hx hb dX7_most_154 hl (k := 1) rfl (by decide +kernel) (by decide) rfl (fun ls hl => ?_)
      refine lv_goto (tgt := 52) hx hb dX7_most_157 (by decide) ?_
      refine lv_iload hx hb dX7_most_52 (lv_at hl 0 rfl) ?_
      refine lv_iconst (v := 1) hx hb dX7_most_54 (by decide +kernel) ?_
      refine lv_aload_n hx hb dX7_most_55 rfl (lv_at hl 6 rfl) ?_
      refine k_get (D := (dC, dI)) (ci := 7) (v := .ref (p3 14)) (C := RX7) (T := TX7) (N := 92) hx hb hts hinX7 hown hK hP 4 rfl rfl 14 (by decide) w_1 rfl rfl dX7_most_56 ?_
      refine lv_aload_n hx hb dX7_most_59 rfl (lv_at hl 6 rfl) ?_
      refine k_get (D := (dC, dI)) (ci := 7) (v := .int 0) (C := RX7) (T := TX7) (N := 92) hx hb hts hinX7 hown hK hP 4 rfl rfl 13 (by decide) w_2 rfl rfl dX7_most_60 ?_
      refine k_iald (v := 0) hx hb hK hP 5 0 0 rfl rfl rfl (Nat.le_of_ble_eq_true rfl) (Nat.le_of_ble_eq_true rfl) rfl dX7_most_63 ?_
      refine lv_ishl hx hb dX7_most_64 ?_
      refine k_int (v := 1) (by decide +kernel) ?_
      refine lv_icmp_ge (tgt := 160) hx hb dX7_most_65 (by decide) (fun _ => ?_) (fun q9 => absurd q9 (by decide +kernel))
      refine lv_iinc (v := 3) (lv' := [(5, .int 3), (6, .int 1), (7, .int (-1)), (4, .int 0), (8, .int 0), (3, .int (-1)), (0, .ref p0), (1, .int 7), (2, .int p2)]) hx hb dX7_most_160 hl (k := 2) rfl (by decide +kernel) (by decide) rfl (fun ls hl => ?_)
      refine lv_goto (tgt := 43) hx hb dX7_most_163 (by decide) ?_
      refine lv_iload hx hb dX7_most_43 (lv_at hl 0 rfl) ?_
      refine lv_iload_n hx hb dX7_most_45 rfl (lv_at hl 7 rfl) ?_
      refine lv_icmp_gt (tgt := 166) hx hb dX7_most_46 (by decide) (fun q9 => absurd q9 (by decide +kernel)) (fun _ => ?_)
      refine lv_iconst (v := 0) hx hb dX7_most_49 (by decide +kernel) ?_
      refine lv_istore (lv' := [(6, .int 0), (5, .int 3), (7, .int (-1)), (4, .int 0), (8, .int 0), (3, .int (-1)), (0, .ref p0), (1, .int 7), (2, .int p2)]) hx hb dX7_most_50 hl (by decide) rfl (fun ls hl => ?_)
      refine lv_iload hx hb dX7_most_52 (lv_at hl 0 rfl) ?_
      refine lv_iconst (v := 1) hx hb dX7_most_54 (by decide +kernel) ?_
      refine lv_aload_n hx hb dX7_most_55 rfl (lv_at hl 6 rfl) ?_
      refine k_get (D := (dC, dI)) (ci := 7) (v := .ref (p3 14)) (C := RX7) (T := TX7) (N := 92) hx hb hts hinX7 hown hK hP 4 rfl rfl 14 (by decide) w_1 rfl rfl dX7_most_56 ?_
      refine lv_aload_n hx hb dX7_most_59 rfl (lv_at hl 6 rfl) ?_
      refine k_get (D := (dC, dI)) (ci := 7) (v := .int 0) (C := RX7) (T := TX7) (N := 92) hx hb hts hinX7 hown hK hP 4 rfl rfl 13 (by decide) w_2 rfl rfl dX7_most_60 ?_
      refine k_iald (v := 0) hx hb hK hP 5 0 0 rfl rfl rfl (Nat.le_of_ble_eq_true rfl) (Nat.le_of_ble_eq_true rfl) rfl dX7_most_63 ?_
      refine lv_ishl hx hb dX7_most_64 ?_
      refine k_int (v := 1) (by decide +kernel) ?_
      refine lv_icmp_ge (tgt := 160) hx hb dX7_most_65 (by decide) (fun q9 => absurd q9 (by decide +kernel)) (fun _ => ?_)
      refine lv_aload_n hx hb dX7_most_68 rfl (lv_at hl 6 rfl) ?_
      refine k_get (D := (dC, dI)) (ci := 7) (v := .ref (p3 72)) (C := RX7) (T := TX7) (N := 92) hx hb hts hinX7 hown hK hP 4 rfl rfl 72 (by decide) w_3 rfl rfl dX7_most_69 ?_
      refine lv_sipush (v := 1024) hx hb dX7_most_72 (by decide +kernel) ?_
      refine lv_iload hx hb dX7_most_75 (lv_at hl 1 rfl) ?_
      refine lv_imul hx hb dX7_most_77 ?_
      refine k_int (v := 3072) (by decide +kernel) ?_
      refine lv_iload hx hb dX7_most_78 (lv_at hl 0 rfl) ?_
      refine lv_iadd hx hb dX7_most_80 ?_
      refine k_int (v := 3072) (by decide +kernel) ?_
      refine k_iald (v := (-1)) hx hb hK hP 2 0 3072 rfl rfl rfl (Nat.le_of_ble_eq_true rfl) (Nat.le_of_ble_eq_true rfl) rfl dX7_most_81 ?_
      refine lv_istore (lv' := [(7, .int (-1)), (6, .int 0), (5, .int 3), (4, .int 0), (8, .int 0), (3, .int (-1)), (0, .ref p0), (1, .int 7), (2, .int p2)]) hx hb dX7_most_82 hl (by decide) rfl (fun ls hl => ?_)
      refine lv_iload hx hb dX7_most_84 (lv_at hl 0 rfl) ?_
      refine lv_iconst (v := (-1)) hx hb dX7_most_86 (by decide +kernel) ?_
      refine lv_icmp_ne (tgt := 93) hx hb dX7_most_87 (by decide) (fun q9 => absurd q9 (by decide +kernel)) (fun _ => ?_)
      refine lv_goto (tgt := 154) hx hb dX7_most_90 (by decide) ?_
      refine lv_iinc (v := 1) (lv' := [(6, .int 1), (7, .int (-1)), (5, .int 3), (4, .int 0), (8, .int 0), (3, .int (-1)), (0, .ref p0), (1, .int 7), (2, .int p2)]) hx hb dX7_most_154 hl (k := 1) rfl (by decide +kernel) (by decide) rfl (fun ls hl => ?_)
      refine lv_goto (tgt := 52) hx hb dX7_most_157 (by decide) ?_
      refine lv_iload hx hb dX7_most_52 (lv_at hl 0 rfl) ?_
      refine lv_iconst (v := 1) hx hb dX7_most_54 (by decide +kernel) ?_
      refine lv_aload_n hx hb dX7_most_55 rfl (lv_at hl 6 rfl) ?_
      refine k_get (D := (dC, dI)) (ci := 7) (v := .ref (p3 14)) (C := RX7) (T := TX7) (N := 92) hx hb hts hinX7 hown hK hP 4 rfl rfl 14 (by decide) w_1 rfl rfl dX7_most_56 ?_
      refine lv_aload_n hx hb dX7_most_59 rfl (lv_at hl 6 rfl) ?_
      refine k_get (D := (dC, dI)) (ci := 7) (v := .int 0) (C := RX7) (T := TX7) (N := 92) hx hb hts hinX7 hown hK hP 4 rfl rfl 13 (by decide) w_2 rfl rfl dX7_most_60 ?_
      refine k_iald (v := 0) hx hb hK hP 5 0 0 rfl rfl rfl (Nat.le_of_ble_eq_true rfl) (Nat.le_of_ble_eq_true rfl) rfl dX7_most_63 ?_
      refine lv_ishl hx hb dX7_most_64 ?_
      refine k_int (v := 1) (by decide +kernel) ?_
      refine lv_icmp_ge (tgt := 160) hx hb dX7_most_65 (by decide) (fun _ => ?_) (fun q9 => absurd q9 (by decide +kernel))
      refine lv_iinc (v := 4) (lv' := [(5, .int 4), (6, .int 1), (7, .int (-1)), (4, .int 0), (8, .int 0), (3, .int (-1)), (0, .ref p0), (1, .int 7), (2, .int p2)]) hx hb dX7_most_160 hl (k := 2) rfl (by decide +kernel) (by decide) rfl (fun ls hl => ?_)
      refine lv_goto (tgt := 43) hx hb dX7_most_163 (by decide) ?_
      refine lv_iload hx hb dX7_most_43 (lv_at hl 0 rfl) ?_
      refine lv_iload_n hx hb dX7_most_45 rfl (lv_at hl 7 rfl) ?_
      refine lv_icmp_gt (tgt := 166) hx hb dX7_most_46 (by decide) (fun q9 => absurd q9 (by decide +kernel)) (fun _ => ?_)
      refine lv_iconst (v := 0) hx hb dX7_most_49 (by decide +kernel) ?_
      refine lv_istore (lv' := [(6, .int 0), (5, .int 4), (7, .int (-1)), (4, .int 0), (8, .int 0), (3, .int (-1)), (0, .ref p0), (1, .int 7), (2, .int p2)]) hx hb dX7_most_50 hl (by decide) rfl (fun ls hl => ?_)
      refine lv_iload hx hb dX7_most_52 (lv_at hl 0 rfl) ?_
      refine lv_iconst (v := 1) hx hb dX7_most_54 (by decide +kernel) ?_
      refine lv_aload_n hx hb dX7_most_55 rfl (lv_at hl 6 rfl) ?_
      refine k_get (D := (dC, dI)) (ci := 7) (v := .ref (p3 14)) (C := RX7) (T := TX7) (N := 92) hx hb hts hinX7 hown hK hP 4 rfl rfl 14 (by decide) w_1 rfl rfl dX7_most_56 ?_
      refine lv_aload_n hx hb dX7_most_59 rfl (lv_at hl 6 rfl) ?_
      refine k_get (D := (dC, dI)) (ci := 7) (v := .int 0) (C := RX7) (T := TX7) (N := 92) hx hb hts hinX7 hown hK hP 4 rfl rfl 13 (by decide) w_2 rfl rfl dX7_most_60 ?_
      refine k_iald (v := 0) hx hb hK hP 5 0 0 rfl rfl rfl (Nat.le_of_ble_eq_true rfl) (Nat.le_of_ble_eq_true rfl) rfl dX7_most_63 ?_
      refine lv_ishl hx hb dX7_most_64 ?_
      refine k_int (v := 1) (by decide +kernel) ?_
      refine lv_icmp_ge (tgt := 160) hx hb dX7_most_65 (by decide) (fun q9 => absurd q9 (by decide +kernel)) (fun _ => ?_)
      refine lv_aload_n hx hb dX7_most_68 rfl (lv_at hl 6 rfl) ?_
      refine k_get (D := (dC, dI)) (ci := 7) (v := .ref (p3 72)) (C := RX7) (T := TX7) (N := 92) hx hb hts hinX7 hown hK hP 4 rfl rfl 72 (by decide) w_3 rfl rfl dX7_most_69 ?_
      refine lv_sipush (v := 1024) hx hb dX7_most_72 (by decide +kernel) ?_
      refine lv_iload hx hb dX7_most_75 (lv_at hl 1 rfl) ?_
      refine lv_imul hx hb dX7_most_77 ?_
      refine k_int (v := 4096) (by decide +kernel) ?_
      refine lv_iload hx hb dX7_most_78 (lv_at hl 0 rfl) ?_
      refine lv_iadd hx hb dX7_most_80 ?_
      refine k_int (v := 4096) (by decide +kernel) ?_
      refine k_iald (v := (-1)) hx hb hK hP 2 0 4096 rfl rfl rfl (Nat.le_of_ble_eq_true rfl) (Nat.le_of_ble_eq_true rfl) rfl dX7_most_81 ?_
      refine lv_istore (lv' := [(7, .int (-1)), (6, .int 0), (5, .int 4), (4, .int 0), (8, .int 0), (3, .int (-1)), (0, .ref p0), (1, .int 7), (2, .int p2)]) hx hb dX7_most_82 hl (by decide) rfl (fun ls hl => ?_)
      refine lv_iload hx hb dX7_most_84 (lv_at hl 0 rfl) ?_
      refine lv_iconst (v := (-1)) hx hb dX7_most_86 (by decide +kernel) ?_
      refine lv_icmp_ne (tgt := 93) hx hb dX7_most_87 (by decide) (fun q9 => absurd q9 (by decide +kernel)) (fun _ => ?_)
      refine lv_goto (tgt := 154) hx hb dX7_most_90 (by decide) ?_
      refine lv_iinc (v := 1) (lv' := [(6, .int 1), (7, .int (-1)), (5, .int 4), (4, .int 0), (8, .int 0), (3, .int (-1)), (0, .ref p0), (1, .int 7), (2, .int p2)]) hx hb dX7_most_154 hl (k := 1) rfl (by decide +kernel) (by decide) rfl (fun ls hl => ?_)
      refine lv_goto (tgt := 52) hx hb dX7_most_157 (by decide) ?_
      refine lv_iload hx hb dX7_most_52 (lv_at hl 0 rfl) ?_
      refine lv_iconst (v := 1) hx hb dX7_most_54 (by decide +kernel) ?_
      refine lv_aload_n hx hb dX7_most_55 rfl (lv_at hl 6 rfl) ?_
      refine k_get (D := (dC, dI)) (ci := 7) (v := .ref (p3 14)) (C := RX7) (T := TX7) (N := 92) hx hb hts hinX7 hown hK hP 4 rfl rfl 14 (by decide) w_1 rfl rfl dX7_most_56 ?_
      refine lv_aload_n hx hb dX7_most_59 rfl (lv_at hl 6 rfl) ?_
      refine k_get (D := (dC, dI)) (ci := 7) (v := .int 0) (C := RX7) (T := TX7) (N := 92) hx hb hts hinX7 hown hK hP 4 rfl rfl 13 (by decide) w_2 rfl rfl dX7_most_60 ?_
      refine k_iald (v := 0) hx hb hK hP 5 0 0 rfl rfl rfl (Nat.le_of_ble_eq_true rfl) (Nat.le_of_ble_eq_true rfl) rfl dX7_most_63 ?_
      refine lv_ishl hx hb dX7_most_64 ?_
      refine k_int (v := 1) (by decide +kernel) ?_
      refine lv_icmp_ge (tgt := 160) hx hb dX7_most_65 (by decide) (fun _ => ?_) (fun q9 => absurd q9 (by decide +kernel))
      refine lv_iinc (v := 5) (lv' := [(5, .int 5), (6, .int 1), (7, .int (-1)), (4, .int 0), (8, .int 0), (3, .int (-1)), (0, .ref p0), (1, .int 7), (2, .int p2)]) hx hb dX7_most_160 hl (k := 2) rfl (by decide +kernel) (by decide) rfl (fun ls hl => ?_)
      refine lv_goto (tgt := 43) hx hb dX7_most_163 (by decide) ?_
      refine lv_iload hx hb dX7_most_43 (lv_at hl 0 rfl) ?_
      refine lv_iload_n hx hb dX7_most_45 rfl (lv_at hl 7 rfl) ?_
      refine lv_icmp_gt (tgt := 166) hx hb dX7_most_46 (by decide) (fun q9 => absurd q9 (by decide +kernel)) (fun _ => ?_)
      refine lv_iconst (v := 0) hx hb dX7_most_49 (by decide +kernel) ?_
      refine lv_istore (lv' := [(6, .int 0), (5, .int 5), (7, .int (-1)), (4, .int 0), (8, .int 0), (3, .int (-1)), (0, .ref p0), (1, .int 7), (2, .int p2)]) hx hb dX7_most_50 hl (by decide) rfl (fun ls hl => ?_)
      refine lv_iload hx hb dX7_most_52 (lv_at hl 0 rfl) ?_
      refine lv_iconst (v := 1) hx hb dX7_most_54 (by decide +kernel) ?_
      refine lv_aload_n hx hb dX7_most_55 rfl (lv_at hl 6 rfl) ?_
      refine k_get (D := (dC, dI)) (ci := 7) (v := .ref (p3 14)) (C := RX7) (T := TX7) (N := 92) hx hb hts hinX7 hown hK hP 4 rfl rfl 14 (by decide) w_1 rfl rfl dX7_most_56 ?_
      refine lv_aload_n hx hb dX7_most_59 rfl (lv_at hl 6 rfl) ?_
      refine k_get (D := (dC, dI)) (ci := 7) (v := .int 0) (C := RX7) (T := TX7) (N := 92) hx hb hts hinX7 hown hK hP 4 rfl rfl 13 (by decide) w_2 rfl rfl dX7_most_60 ?_
      refine k_iald (v := 0) hx hb hK hP 5 0 0 rfl rfl rfl (Nat.le_of_ble_eq_true rfl) (Nat.le_of_ble_eq_true rfl) rfl dX7_most_63 ?_
      refine lv_ishl hx hb dX7_most_64 ?_
      refine k_int (v := 1) (by decide +kernel) ?_
      refine lv_icmp_ge (tgt := 160) hx hb dX7_most_65 (by decide) (fun q9 => absurd q9 (by decide +kernel)) (fun _ => ?_)
      refine lv_aload_n hx hb dX7_most_68 rfl (lv_at hl 6 rfl) ?_
      refine k_get (D := (dC, dI)) (ci := 7) (v := .ref (p3 72)) (C := RX7) (T := TX7) (N := 92) hx hb hts hinX7 hown hK hP 4 rfl rfl 72 (by decide) w_3 rfl rfl dX7_most_69 ?_
      refine lv_sipush (v := 1024) hx hb dX7_most_72 (by decide +kernel) ?_
      refine lv_iload hx hb dX7_most_75 (lv_at hl 1 rfl) ?_
      refine lv_imul hx hb dX7_most_77 ?_
      refine k_int (v := 5120) (by decide +kernel) ?_
      refine lv_iload hx hb dX7_most_78 (lv_at hl 0 rfl) ?_
      refine lv_iadd hx hb dX7_most_80 ?_
      refine k_int (v := 5120) (by decide +kernel) ?_
      refine k_iald (v := (-1)) hx hb hK hP 2 0 5120 rfl rfl rfl (Nat.le_of_ble_eq_true rfl) (Nat.le_of_ble_eq_true rfl) rfl dX7_most_81 ?_
      refine lv_istore (lv' := [(7, .int (-1)), (6, .int 0), (5, .int 5), (4, .int 0), (8, .int 0), (3, .int (-1)), (0, .ref p0), (1, .int 7), (2, .int p2)]) hx hb dX7_most_82 hl (by decide) rfl (fun ls hl => ?_)
      refine lv_iload hx hb dX7_most_84 (lv_at hl 0 rfl) ?_
      refine lv_iconst (v := (-1)) hx hb dX7_most_86 (by decide +kernel) ?_
      refine lv_icmp_ne (tgt := 93) hx hb dX7_most_87 (by decide) (fun q9 => absurd q9 (by decide +kernel)) (fun _ => ?_)
      refine lv_goto (tgt := 154) hx hb dX7_most_90 (by decide) ?_
      refine lv_iinc (v := 1) (lv' := [(6, .int 1), (7, .int (-1)), (5, .int 5), (4, .int 0), (8, .int 0), (3, .int (-1)), (0, .ref p0), (1, .int 7), (2, .int p2)]) hx hb dX7_most_154 hl (k := 1) rfl (by decide +kernel) (by decide) rfl (fun ls hl => ?_)
      refine lv_goto (tgt := 52) hx hb dX7_most_157 (by decide) ?_
      refine lv_iload hx hb dX7_most_52 (lv_at hl 0 rfl) ?_
      refine lv_iconst (v := 1) hx hb dX7_most_54 (by decide +kernel) ?_
      refine lv_aload_n hx hb dX7_most_55 rfl (lv_at hl 6 rfl) ?_
      refine k_get (D := (dC, dI)) (ci := 7) (v := .ref (p3 14)) (C := RX7) (T := TX7) (N := 92) hx hb hts hinX7 hown hK hP 4 rfl rfl 14 (by decide) w_1 rfl rfl dX7_most_56 ?_
      refine lv_aload_n hx hb dX7_most_59 rfl (lv_at hl 6 rfl) ?_
      refine k_get (D := (dC, dI)) (ci := 7) (v := .int 0) (C := RX7) (T := TX7) (N := 92) hx hb hts hinX7 hown hK hP 4 rfl rfl 13 (by decide) w_2 rfl rfl dX7_most_60 ?_
      refine k_iald (v := 0) hx hb hK hP 5 0 0 rfl rfl rfl (Nat.le_of_ble_eq_true rfl) (Nat.le_of_ble_eq_true rfl) rfl dX7_most_63 ?_
      refine lv_ishl hx hb dX7_most_64 ?_
      refine k_int (v := 1) (by decide +kernel) ?_
      refine lv_icmp_ge (tgt := 160) hx hb dX7_most_65 (by decide) (fun _ => ?_) (fun q9 => absurd q9 (by decide +kernel))
      refine lv_iinc (v := 6) (lv' := [(5, .int 6), (6, .int 1), (7, .int (-1)), (4, .int 0), (8, .int 0), (3, .int (-1)), (0, .ref p0), (1, .int 7), (2, .int p2)]) hx hb dX7_most_160 hl (k := 2) rfl (by decide +kernel) (by decide) rfl (fun ls hl => ?_)
      refine lv_goto (tgt := 43) hx hb dX7_most_163 (by decide) ?_
      refine lv_iload hx hb dX7_most_43 (lv_at hl 0 rfl) ?_
      refine lv_iload_n hx hb dX7_most_45 rfl (lv_at hl 7 rfl) ?_
      refine lv_icmp_gt (tgt := 166) hx hb dX7_most_46 (by decide) (fun q9 => absurd q9 (by decide +kernel)) (fun _ => ?_)
      refine lv_iconst (v := 0) hx hb dX7_most_49 (by decide +kernel) ?_
      refine lv_istore (lv' := [(6, .int 0), (5, .int 6), (7, .int (-1)), (4, .int 0), (8, .int 0), (3, .int (-1)), (0, .ref p0), (1, .int 7), (2, .int p2)]) hx hb dX7_most_50 hl (by decide) rfl (fun ls hl => ?_)
      refine lv_iload hx hb dX7_most_52 (lv_at hl 0 rfl) ?_
      refine lv_iconst (v := 1) hx hb dX7_most_54 (by decide +kernel) ?_
      refine lv_aload_n hx hb dX7_most_55 rfl (lv_at hl 6 rfl) ?_
      refine k_get (D := (dC, dI)) (ci := 7) (v := .ref (p3 14)) (C := RX7) (T := TX7) (N := 92) hx hb hts hinX7 hown hK hP 4 rfl rfl 14 (by decide) w_1 rfl rfl dX7_most_56 ?_
      refine lv_aload_n hx hb dX7_most_59 rfl (lv_at hl 6 rfl) ?_
      refine k_get (D := (dC, dI)) (ci := 7) (v := .int 0) (C := RX7) (T := TX7) (N := 92) hx hb hts hinX7 hown hK hP 4 rfl rfl 13 (by decide) w_2 rfl rfl dX7_most_60 ?_
      refine k_iald (v := 0) hx hb hK hP 5 0 0 rfl rfl rfl (Nat.le_of_ble_eq_true rfl) (Nat.le_of_ble_eq_true rfl) rfl dX7_most_63 ?_
      refine lv_ishl hx hb dX7_most_64 ?_
      refine k_int (v := 1) (by decide +kernel) ?_
      refine lv_icmp_ge (tgt := 160) hx hb dX7_most_65 (by decide) (fun q9 => absurd q9 (by decide +kernel)) (fun _ => ?_)
      refine lv_aload_n hx hb dX7_most_68 rfl (lv_at hl 6 rfl) ?_
      refine k_get (D := (dC, dI)) (ci := 7) (v := .ref (p3 72)) (C := RX7) (T := TX7) (N := 92) hx hb hts hinX7 hown hK hP 4 rfl rfl 72 (by decide) w_3 rfl rfl dX7_most_69 ?_
      refine lv_sipush (v := 1024) hx hb dX7_most_72 (by decide +kernel) ?_
      refine lv_iload hx hb dX7_most_75 (lv_at hl 1 rfl) ?_
      refine lv_imul hx hb dX7_most_77 ?_
      refine k_int (v := 6144) (by decide +kernel) ?_
      refine lv_iload hx hb dX7_most_78 (lv_at hl 0 rfl) ?_
      refine lv_iadd hx hb dX7_most_80 ?_
      refine k_int (v := 6144) (by decide +kernel) ?_
      refine k_iald (v := (-1)) hx hb hK hP 2 0 6144 rfl rfl rfl (Nat.le_of_ble_eq_true rfl) (Nat.le_of_ble_eq_true rfl) rfl dX7_most_81 ?_
      refine lv_istore (lv' := [(7, .int (-1)), (6, .int 0), (5, .int 6), (4, .int 0), (8, .int 0), (3, .int (-1)), (0, .ref p0), (1, .int 7), (2, .int p2)]) hx hb dX7_most_82 hl (by decide) rfl (fun ls hl => ?_)
      refine lv_iload hx hb dX7_most_84 (lv_at hl 0 rfl) ?_
      refine lv_iconst (v := (-1)) hx hb dX7_most_86 (by decide +kernel) ?_
      refine lv_icmp_ne (tgt := 93) hx hb dX7_most_87 (by decide) (fun q9 => absurd q9 (by decide +kernel)) (fun _ => ?_)
      refine lv_goto (tgt := 154) hx hb dX7_most_90 (by decide) ?_
      refine lv_iinc (v := 1) (lv' := [(6, .int 1), (7, .int (-1)), (5, .int 6), (4, .int 0), (8, .int 0), (3, .int (-1)), (0, .ref p0), (1, .int 7), (2, .int p2)]) hx hb dX7_most_154 hl (k := 1) rfl (by decide +kernel) (by decide) rfl (fun ls hl => ?_)
      refine lv_goto (tgt := 52) hx hb dX7_most_157 (by decide) ?_
      refine lv_iload hx hb dX7_most_52 (lv_at hl 0 rfl) ?_
      refine lv_iconst (v := 1) hx hb dX7_most_54 (by decide +kernel) ?_
      refine lv_aload_n hx hb dX7_most_55 rfl (lv_at hl 6 rfl) ?_
      refine k_get (D := (dC, dI)) (ci := 7) (v := .ref (p3 14)) (C := RX7) (T := TX7) (N := 92) hx hb hts hinX7 hown hK hP 4 rfl rfl 14 (by decide) w_1 rfl rfl dX7_most_56 ?_
      refine lv_aload_n hx hb dX7_most_59 rfl (lv_at hl 6 rfl) ?_
      refine k_get (D := (dC, dI)) (ci := 7) (v := .int 0) (C := RX7) (T := TX7) (N := 92) hx hb hts hinX7 hown hK hP 4 rfl rfl 13 (by decide) w_2 rfl rfl dX7_most_60 ?_
      refine k_iald (v := 0) hx hb hK hP 5 0 0 rfl rfl rfl (Nat.le_of_ble_eq_true rfl) (Nat.le_of_ble_eq_true rfl) rfl dX7_most_63 ?_
      refine lv_ishl hx hb dX7_most_64 ?_
      refine k_int (v := 1) (by decide +kernel) ?_
      refine lv_icmp_ge (tgt := 160) hx hb dX7_most_65 (by decide) (fun _ => ?_) (fun q9 => absurd q9 (by decide +kernel))
      refine lv_iinc (v := 7) (lv' := [(5, .int 7), (6, .int 1), (7, .int (-1)), (4, .int 0), (8, .int 0), (3, .int (-1)), (0, .ref p0), (1, .int 7), (2, .int p2)]) hx hb dX7_most_160 hl (k := 2) rfl (by decide +kernel) (by decide) rfl (fun ls hl => ?_)
      refine lv_goto (tgt := 43) hx hb dX7_most_163 (by decide) ?_
      refine lv_iload hx hb dX7_most_43 (lv_at hl 0 rfl) ?_
      refine lv_iload_n hx hb dX7_most_45 rfl (lv_at hl 7 rfl) ?_
      refine lv_icmp_gt (tgt := 166) hx hb dX7_most_46 (by decide) (fun q9 => absurd q9 (by decide +kernel)) (fun _ => ?_)
      refine lv_iconst (v := 0) hx hb dX7_most_49 (by decide +kernel) ?_
      refine lv_istore (lv' := [(6, .int 0), (5, .int 7), (7, .int (-1)), (4, .int 0), (8, .int 0), (3, .int (-1)), (0, .ref p0), (1, .int 7), (2, .int p2)]) hx hb dX7_most_50 hl (by decide) rfl (fun ls hl => ?_)
      refine lv_iload hx hb dX7_most_52 (lv_at hl 0 rfl) ?_
      refine lv_iconst (v := 1) hx hb dX7_most_54 (by decide +kernel) ?_
      refine lv_aload_n hx hb dX7_most_55 rfl (lv_at hl 6 rfl) ?_
      refine k_get (D := (dC, dI)) (ci := 7) (v := .ref (p3 14)) (C := RX7) (T := TX7) (N := 92) hx hb hts hinX7 hown hK hP 4 rfl rfl 14 (by decide) w_1 rfl rfl dX7_most_56 ?_
      refine lv_aload_n hx hb dX7_most_59 rfl (lv_at hl 6 rfl) ?_
      refine k_get (D := (dC, dI)) (ci := 7) (v := .int 0) (C := RX7) (T := TX7) (N := 92) hx hb hts hinX7 hown hK hP 4 rfl rfl 13 (by decide) w_2 rfl rfl dX7_most_60 ?_
      refine k_iald (v := 0) hx hb hK hP 5 0 0 rfl rfl rfl (Nat.le_of_ble_eq_true rfl) (Nat.le_of_ble_eq_true rfl) rfl dX7_most_63 ?_
      refine lv_ishl hx hb dX7_most_64 ?_
      refine k_int (v := 1) (by decide +kernel) ?_
      refine lv_icmp_ge (tgt := 160) hx hb dX7_most_65 (by decide) (fun q9 => absurd q9 (by decide +kernel)) (fun _ => ?_)
      refine lv_aload_n hx hb dX7_most_68 rfl (lv_at hl 6 rfl) ?_
      refine k_get (D := (dC, dI)) (ci := 7) (v := .ref (p3 72)) (C := RX7) (T := TX7) (N := 92) hx hb hts hinX7 hown hK hP 4 rfl rfl 72 (by decide) w_3 rfl rfl dX7_most_69 ?_
      refine lv_sipush (v := 1024) hx hb dX7_most_72 (by decide +kernel) ?_
      refine lv_iload hx hb dX7_most_75 (lv_at hl 1 rfl) ?_
      refine lv_imul hx hb dX7_most_77 ?_
      refine k_int (v := 7168) (by decide +kernel) ?_
      refine lv_iload hx hb dX7_most_78 (lv_at hl 0 rfl) ?_
      refine lv_iadd hx hb dX7_most_80 ?_
      refine k_int (v := 7168) (by decide +kernel) ?_
      refine k_iald (v := (-1)) hx hb hK hP 2 0 7168 rfl rfl rfl (Nat.le_of_ble_eq_true rfl) (Nat.le_of_ble_eq_true rfl) rfl dX7_most_81 ?_
      refine lv_istore (lv' := [(7, .int (-1)), (6, .int 0), (5, .int 7), (4, .int 0), (8, .int 0), (3, .int (-1)), (0, .ref p0), (1, .int 7), (2, .int p2)]) hx hb dX7_most_82 hl (by decide) rfl (fun ls hl => ?_)
      refine lv_iload hx hb dX7_most_84 (lv_at hl 0 rfl) ?_
      refine lv_iconst (v := (-1)) hx hb dX7_most_86 (by decide +kernel) ?_
      refine lv_icmp_ne (tgt := 93) hx hb dX7_most_87 (by decide) (fun q9 => absurd q9 (by decide +kernel)) (fun _ => ?_)
      refine lv_goto (tgt := 154) hx hb dX7_most_90 (by decide) ?_
      refine lv_iinc (v := 1) (lv' := [(6, .int 1), (7, .int (-1)), (5, .int 7), (4, .int 0), (8, .int 0), (3, .int (-1)), (0, .ref p0), (1, .int 7), (2, .int p2)]) hx hb dX7_most_154 hl (k := 1) rfl (by decide +kernel) (by decide) rfl (fun ls hl => ?_)
      refine lv_goto (tgt := 52) hx hb dX7_most_157 (by decide) ?_
      refine lv_iload hx hb dX7_most_52 (lv_at hl 0 rfl) ?_
      refine lv_iconst (v := 1) hx hb dX7_most_54 (by decide +kernel) ?_
      refine lv_aload_n hx hb dX7_most_55 rfl (lv_at hl 6 rfl) ?_
      refine k_get (D := (dC, dI)) (ci := 7) (v := .ref (p3 14)) (C := RX7) (T := TX7) (N := 92) hx hb hts hinX7 hown hK hP 4 rfl rfl 14 (by decide) w_1 rfl rfl dX7_most_56 ?_
      refine lv_aload_n hx hb dX7_most_59 rfl (lv_at hl 6 rfl) ?_
      refine k_get (D := (dC, dI)) (ci := 7) (v := .int 0) (C := RX7) (T := TX7) (N := 92) hx hb hts hinX7 hown hK hP 4 rfl rfl 13 (by decide) w_2 rfl rfl dX7_most_60 ?_
      refine k_iald (v := 0) hx hb hK hP 5 0 0 rfl rfl rfl (Nat.le_of_ble_eq_true rfl) (Nat.le_of_ble_eq_true rfl) rfl dX7_most_63 ?_
      refine lv_ishl hx hb dX7_most_64 ?_
      refine k_int (v := 1) (by decide +kernel) ?_
      refine lv_icmp_ge (tgt := 160) hx hb dX7_most_65 (by decide) (fun _ => ?_) (fun q9 => absurd q9 (by decide +kernel))
      refine lv_iinc (v := 8) (lv' := [(5, .int 8), (6, .int 1), (7, .int (-1)), (4, .int 0), (8, .int 0), (3, .int (-1)), (0, .ref p0), (1, .int 7), (2, .int p2)]) hx hb dX7_most_160 hl (k := 2) rfl (by decide +kernel) (by decide) rfl (fun ls hl => ?_)
      refine lv_goto (tgt := 43) hx hb dX7_most_163 (by decide) ?_
      refine lv_iload hx hb dX7_most_43 (lv_at hl 0 rfl) ?_
      refine lv_iload_n hx hb dX7_most_45 rfl (lv_at hl 7 rfl) ?_
      refine lv_icmp_gt (tgt := 166) hx hb dX7_most_46 (by decide) (fun _ => ?_) (fun q9 => absurd q9 (by decide +kernel))
      refine lv_iload_n hx hb dX7_most_166 rfl (lv_at hl 8 rfl) ?_
      refine lv_if_ne (tgt := 175) hx hb dX7_most_167 (by decide) (fun c_157 => ?_) (fun c_157 => ?_)
      · have c_157 : ¬ p2.toInt = 0 := k_eqF rfl (by decide +kernel) c_157
        refine lv_iload_n hx hb dX7_most_175 rfl (lv_at hl 8 rfl) ?_
        refine lv_iconst (v := 1) hx hb dX7_most_176 (by decide +kernel) ?_
        refine lv_icmp_ne (tgt := 187) hx hb dX7_most_177 (by decide) (fun c_158 => ?_) (fun c_158 => ?_)
        · have c_158 : ¬ p2.toInt = 1 := k_eqF rfl (by decide +kernel) c_158
          refine lv_iload_n hx hb dX7_most_187 rfl (lv_at hl 8 rfl) ?_
          refine lv_iconst (v := 2) hx hb dX7_most_188 (by decide +kernel) ?_
          refine lv_icmp_ne (tgt := 199) hx hb dX7_most_189 (by decide) (fun c_159 => ?_) (fun c_159 => ?_)
          · have c_159 : ¬ p2.toInt = 2 := k_eqF rfl (by decide +kernel) c_159
            refine lv_aload_n hx hb dX7_most_199 rfl (lv_at hl 6 rfl) ?_
            refine k_get (D := (dC, dI)) (ci := 7) (v := .int 0) (C := RX7) (T := TX7) (N := 92) hx hb hts hinX7 hown hK hP 4 rfl rfl 76 (by decide) w_4 rfl rfl dX7_most_200 ?_
            exact k_ri B hP hD hS dX7_most_203 (44, (fun _ => 0)) [4, 0, 1, 2, 5, 3] rfl rfl rfl (Nat.le_of_ble_eq_true rfl) (Nat.le_of_ble_eq_true rfl) ⟨c_1, c_149, c_150, c_157, c_158, c_159, rfl⟩
          · have c_159 : p2.toInt = 2 := k_eqT rfl (by decide +kernel) c_159
            refine lv_aload_n hx hb dX7_most_192 rfl (lv_at hl 6 rfl) ?_
            refine k_ci (wc := [(p0, .inr (7, oM p3 (upd (upd i7 75 0) 76 0) j7)), ((p3 72), .inl (cI, 9216, .inl (upd (fun _ => (-1)) 0 0)))]) (wr := [((p3 49), .inl (cI, 22, .inl (fun _ => 0))), ((p3 50), .inl (cI, 22, .inl (fun _ => 0))), ((p3 18), .inl (cI, 2, .inl (fun _ => 0))), ((p3 14), .inl (cI, 2, .inl (fun _ => 0)))]) (fun hPc hDc hFc => va_runV (As := []) (rest := []) ⟨hx, hb, hml, hown, hts⟩ (c_X7_foundSea_v0 l dC dI cI cJ cZ cM p0 p3 H.size) (cwV 0 hts gX7_most_X7_foundSea rfl rfl rfl (by decide +kernel) ⟨(Nat.le_of_ble_eq_true rfl), (Nat.le_of_ble_eq_true rfl)⟩) (k_pV hPc hDc hK hN hC hS hFc hP (q0 := 4) (ci := 7) rfl rfl) rfl rfl hl.1 rfl (lv_room (Nat.le_of_ble_eq_true rfl)) dX7_most_193 ⟨(Nat.le_of_ble_eq_true rfl), (Nat.le_of_ble_eq_true rfl)⟩) hP hD hS hA [4, 2] [0, 1, 3, 5] rfl rfl rfl rfl (by decide) (fun _ => rfl) 0 0 rfl rfl (fun r_160 u_161 H locs hw hP hD hS => ?_)
            obtain rfl : r_160 = 0 := hw
            have hP : va_P (dC, dI) vwCl [((p3 49), .inl (cI, 22, .inl (fun _ => 0))), ((p3 50), .inl (cI, 22, .inl (fun _ => 0))), ((p3 18), .inl (cI, 2, .inl (fun _ => 0))), ((p3 14), .inl (cI, 2, .inl (fun _ => 0))), (p0, .inr (7, oM p3 (upd (upd i7 75 0) 76 0) j7)), ((p3 72), .inl (cI, 9216, .inl (upd (fun _ => (-1)) 0 0)))] H := hP
            have hD : va_D A [((p3 49), .inl (cI, 22, .inl (fun _ => 0))), ((p3 50), .inl (cI, 22, .inl (fun _ => 0))), ((p3 18), .inl (cI, 2, .inl (fun _ => 0))), ((p3 14), .inl (cI, 2, .inl (fun _ => 0))), (p0, .inr (7, oM p3 (upd (upd i7 75 0) 76 0) j7)), ((p3 72), .inl (cI, 9216, .inl (upd (fun _ => (-1)) 0 0)))] := hD
            refine lv_goto (tgt := 203) hx hb dX7_most_196 (by decide) ?_
            exact k_ri B hP hD hS dX7_most_203 (45, (fun _ => 0)) [4, 0, 1, 5, 3, 2] rfl rfl rfl (Nat.le_of_ble_eq_true rfl) (Nat.le_of_ble_eq_true rfl) ⟨c_1, c_149, c_150, c_157, c_158, c_159, rfl⟩
        · have c_158 : p2.toInt = 1 := k_eqT rfl (by decide +kernel) c_158
          refine lv_aload_n hx hb dX7_most_180 rfl (lv_at hl 6 rfl) ?_
          refine k_get (D := (dC, dI)) (ci := 7) (v := .int 0) (C := RX7) (T := TX7) (N := 92) hx hb hts hinX7 hown hK hP 4 rfl rfl 75 (by decide) w_0 rfl rfl dX7_most_181 ?_
          refine lv_goto (tgt := 203) hx hb dX7_most_184 (by decide) ?_
          exact k_ri B hP hD hS dX7_most_203 (46, (fun _ => 0)) [4, 0, 1, 2, 5, 3] rfl rfl rfl (Nat.le_of_ble_eq_true rfl) (Nat.le_of_ble_eq_true rfl) ⟨c_1, c_149, c_150, c_157, c_158, rfl⟩
      · have c_157 : p2.toInt = 0 := k_eqT rfl (by decide +kernel) c_157
        refine lv_iload hx hb dX7_most_170 (lv_at hl 3 rfl) ?_
        refine lv_goto (tgt := 203) hx hb dX7_most_172 (by decide) ?_
        exact k_ri B hP hD hS dX7_most_203 (47, (fun _ => 0)) [4, 0, 1, 2, 5, 3] rfl rfl rfl (Nat.le_of_ble_eq_true rfl) (Nat.le_of_ble_eq_true rfl) ⟨c_1, c_149, c_150, c_157, rfl⟩
    · exact False.elim hw
  · obtain rfl : p1 = 8 := k_eqL (by decide +kernel) c_1
    refine lv_iload_n hx hb dX7_most_0 rfl (lv_at hl 1 rfl) ?_
    refine lv_iconst (v := 0) hx hb dX7_most_1 (by decide +kernel) ?_
    refine lv_bipush (v := 8) hx hb dX7_most_2 (by decide +kernel) ?_
    refine k_ci (wc := []) (wr := [(p0, .inr (7, oM p3 i7 j7)), ((p3 49), .inl (cI, 22, .inl (fun _ => 0))), ((p3 50), .inl (cI, 22, .inl (fun _ => 0))), ((p3 72), .inl (cI, 9216, .inl (fun _ => 0))), ((p3 14), .inl (cI, 2, .inl (fun _ => 0))), ((p3 18), .inl (cI, 2, .inl (fun _ => 0)))]) (fun hPc hDc hFc => va_runS (As := [.int 8, .int 0, .int 8]) (rest := []) ⟨hx, hb, hml, hown, hts⟩ (c_X7_is_v14 l dC dI cI cJ cZ cM H.size) (va_cwS 3 hts gX7_most_X7_is rfl rfl rfl (by decide +kernel) ⟨(Nat.le_of_ble_eq_true rfl), (Nat.le_of_ble_eq_true rfl)⟩) (k_pS hPc hDc hK hN hC hS hFc) rfl rfl hl.1 rfl (lv_room (Nat.le_of_ble_eq_true rfl)) dX7_most_4 ⟨(Nat.le_of_ble_eq_true rfl), (Nat.le_of_ble_eq_true rfl)⟩) hP hD hS hA [] [0, 1, 2, 3, 4, 5] rfl rfl rfl rfl (by decide) (fun _ => rfl) 0 0 rfl rfl (fun r_162 u_163 H locs hw hP hD hS => ?_)
    obtain rfl : r_162 = 1 := hw
    have hP : va_P (dC, dI) vwCl [(p0, .inr (7, oM p3 i7 j7)), ((p3 49), .inl (cI, 22, .inl (fun _ => 0))), ((p3 50), .inl (cI, 22, .inl (fun _ => 0))), ((p3 72), .inl (cI, 9216, .inl (fun _ => 0))), ((p3 14), .inl (cI, 2, .inl (fun _ => 0))), ((p3 18), .inl (cI, 2, .inl (fun _ => 0)))] H := hP
    have hD : va_D A [(p0, .inr (7, oM p3 i7 j7)), ((p3 49), .inl (cI, 22, .inl (fun _ => 0))), ((p3 50), .inl (cI, 22, .inl (fun _ => 0))), ((p3 72), .inl (cI, 9216, .inl (fun _ => 0))), ((p3 14), .inl (cI, 2, .inl (fun _ => 0))), ((p3 18), .inl (cI, 2, .inl (fun _ => 0)))] := hD
    refine lv_if_eq (tgt := 19) hx hb dX7_most_7 (by decide) (fun q9 => absurd q9 (by decide +kernel)) (fun _ => ?_)
    refine lv_iload_n hx hb dX7_most_10 rfl (lv_at hl 2 rfl) ?_
    refine lv_iconst (v := 0) hx hb dX7_most_11 (by decide +kernel) ?_
    refine lv_iconst (v := 3) hx hb dX7_most_12 (by decide +kernel) ?_
    refine k_ci (wc := []) (wr := [(p0, .inr (7, oM p3 i7 j7)), ((p3 49), .inl (cI, 22, .inl (fun _ => 0))), ((p3 50), .inl (cI, 22, .inl (fun _ => 0))), ((p3 72), .inl (cI, 9216, .inl (fun _ => 0))), ((p3 14), .inl (cI, 2, .inl (fun _ => 0))), ((p3 18), .inl (cI, 2, .inl (fun _ => 0)))]) (fun hPc hDc hFc => va_runS (As := [.int p2, .int 0, .int 3]) (rest := []) ⟨hx, hb, hml, hown, hts⟩ (c_X7_is_v24 l dC dI cI cJ cZ cM p2 H.size) (va_cwS 3 hts gX7_most_X7_is rfl rfl rfl (by decide +kernel) ⟨(Nat.le_of_ble_eq_true rfl), (Nat.le_of_ble_eq_true rfl)⟩) (k_pS hPc hDc hK hN hC hS hFc) rfl rfl hl.1 rfl (lv_room (Nat.le_of_ble_eq_true rfl)) dX7_most_13 ⟨(Nat.le_of_ble_eq_true rfl), (Nat.le_of_ble_eq_true rfl)⟩) hP hD hS hA [] [0, 1, 2, 3, 4, 5] rfl rfl rfl rfl (by decide) (fun _ => rfl) 0 0 rfl rfl (fun r_164 u_165 H locs hw hP hD hS => ?_)
    obtain ⟨k_u_165, u_u_165⟩ := u_165
    rcases k_u_165 with _ | _ | _ | k_u_165
    · obtain ⟨c_166, rfl⟩ : (p2.toInt < 0) ∧ r_164 = 0 := hw
      have hP : va_P (dC, dI) vwCl [(p0, .inr (7, oM p3 i7 j7)), ((p3 49), .inl (cI, 22, .inl (fun _ => 0))), ((p3 50), .inl (cI, 22, .inl (fun _ => 0))), ((p3 72), .inl (cI, 9216, .inl (fun _ => 0))), ((p3 14), .inl (cI, 2, .inl (fun _ => 0))), ((p3 18), .inl (cI, 2, .inl (fun _ => 0)))] H := hP
      have hD : va_D A [(p0, .inr (7, oM p3 i7 j7)), ((p3 49), .inl (cI, 22, .inl (fun _ => 0))), ((p3 50), .inl (cI, 22, .inl (fun _ => 0))), ((p3 72), .inl (cI, 9216, .inl (fun _ => 0))), ((p3 14), .inl (cI, 2, .inl (fun _ => 0))), ((p3 18), .inl (cI, 2, .inl (fun _ => 0)))] := hD
      refine lv_if_ne (tgt := 21) hx hb dX7_most_16 (by decide) (fun q9 => absurd q9 (by decide +kernel)) (fun _ => ?_)
      refine lv_iconst (v := (-1)) hx hb dX7_most_19 (by decide +kernel) ?_
      exact k_ri B hP hD hS dX7_most_20 (48, (fun _ => 0)) [0, 1, 2, 3, 4, 5] rfl rfl rfl (Nat.le_of_ble_eq_true rfl) (Nat.le_of_ble_eq_true rfl) ⟨c_1, c_166, rfl⟩
    · obtain ⟨c_167, c_168, rfl⟩ : (0 ≤ p2.toInt) ∧ (3 < p2.toInt) ∧ r_164 = 0 := hw
      have hP : va_P (dC, dI) vwCl [(p0, .inr (7, oM p3 i7 j7)), ((p3 49), .inl (cI, 22, .inl (fun _ => 0))), ((p3 50), .inl (cI, 22, .inl (fun _ => 0))), ((p3 72), .inl (cI, 9216, .inl (fun _ => 0))), ((p3 14), .inl (cI, 2, .inl (fun _ => 0))), ((p3 18), .inl (cI, 2, .inl (fun _ => 0)))] H := hP
      have hD : va_D A [(p0, .inr (7, oM p3 i7 j7)), ((p3 49), .inl (cI, 22, .inl (fun _ => 0))), ((p3 50), .inl (cI, 22, .inl (fun _ => 0))), ((p3 72), .inl (cI, 9216, .inl (fun _ => 0))), ((p3 14), .inl (cI, 2, .inl (fun _ => 0))), ((p3 18), .inl (cI, 2, .inl (fun _ => 0)))] := hD
      refine lv_if_ne (tgt := 21) hx hb dX7_most_16 (by decide) (fun q9 => absurd q9 (by decide +kernel)) (fun _ => ?_)
      refine lv_iconst (v := (-1)) hx hb dX7_most_19 (by decide +kernel) ?_
      exact k_ri B hP hD hS dX7_most_20 (49, (fun _ => 0)) [0, 1, 2, 3, 4, 5] rfl rfl rfl (Nat.le_of_ble_eq_true rfl) (Nat.le_of_ble_eq_true rfl) ⟨c_1, c_167, c_168, rfl⟩
    · obtain ⟨c_169, c_170, rfl⟩ : (0 ≤ p2.toInt) ∧ (p2.toInt ≤ 3) ∧ r_164 = 1 := hw
      have hP : va_P (dC, dI) vwCl [(p0, .inr (7, oM p3 i7 j7)), ((p3 49), .inl (cI, 22, .inl (fun _ => 0))), ((p3 50), .inl (cI, 22, .inl (fun _ => 0))), ((p3 72), .inl (cI, 9216, .inl (fun _ => 0))), ((p3 14), .inl (cI, 2, .inl (fun _ => 0))), ((p3 18), .inl (cI, 2, .inl (fun _ => 0)))] H := hP
      have hD : va_D A [(p0, .inr (7, oM p3 i7 j7)), ((p3 49), .inl (cI, 22, .inl (fun _ => 0))), ((p3 50), .inl (cI, 22, .inl (fun _ => 0))), ((p3 72), .inl (cI, 9216, .inl (fun _ => 0))), ((p3 14), .inl (cI, 2, .inl (fun _ => 0))), ((p3 18), .inl (cI, 2, .inl (fun _ => 0)))] := hD
      refine lv_if_ne (tgt := 21) hx hb dX7_most_16 (by decide) (fun _ => ?_) (fun q9 => absurd q9 (by decide +kernel))
      refine lv_aload_n hx hb dX7_most_21 rfl (lv_at hl 0 rfl) ?_
      refine k_cv (wc := [(p0, .inr (7, oM p3 i7 j7)), ((p3 49), .inl (cI, 22, .inl (fun _ => 0))), ((p3 50), .inl (cI, 22, .inl (fun _ => 0))), ((p3 72), .inl (cI, 9216, .inl (fun _ => 0))), ((p3 14), .inl (cI, 2, .inl (fun _ => 0))), ((p3 18), .inl (cI, 2, .inl (fun _ => 0)))]) (wr := []) (fun hPc hDc hFc => va_runV (As := []) (rest := []) ⟨hx, hb, hml, hown, hts⟩ (c_X7_climbs_v0 l dC dI cI cJ cZ cM p0 p3 H.size) (cwV 0 hts gX7_most_X7_climbs rfl rfl rfl (by decide +kernel) ⟨(Nat.le_of_ble_eq_true rfl), (Nat.le_of_ble_eq_true rfl)⟩) (k_pV hPc hDc hK hN hC hS hFc hP (q0 := 0) (ci := 7) rfl rfl) rfl rfl hl.1 rfl (lv_room (Nat.le_of_ble_eq_true rfl)) dX7_most_22 ⟨(Nat.le_of_ble_eq_true rfl), (Nat.le_of_ble_eq_true rfl)⟩) hP hD hS hA [0, 1, 2, 3, 4, 5] [] rfl rfl rfl rfl (by decide) (fun _ => rfl) 0 0 rfl rfl (fun u_172 H locs hw hP hD hS => ?_)
      have hP : va_P (dC, dI) vwCl [(p0, .inr (7, oM p3 i7 j7)), ((p3 49), .inl (cI, 22, .inl (fun _ => 0))), ((p3 50), .inl (cI, 22, .inl (fun _ => 0))), ((p3 72), .inl (cI, 9216, .inl (upd (fun _ => (-1)) 0 0))), ((p3 14), .inl (cI, 2, .inl (fun _ => 0))), ((p3 18), .inl (cI, 2, .inl (fun _ => 0)))] H := hP
      have hD : va_D A [(p0, .inr (7, oM p3 i7 j7)), ((p3 49), .inl (cI, 22, .inl (fun _ => 0))), ((p3 50), .inl (cI, 22, .inl (fun _ => 0))), ((p3 72), .inl (cI, 9216, .inl (upd (fun _ => (-1)) 0 0))), ((p3 14), .inl (cI, 2, .inl (fun _ => 0))), ((p3 18), .inl (cI, 2, .inl (fun _ => 0)))] := hD
      refine lv_aload_n hx hb dX7_most_25 rfl (lv_at hl 0 rfl) ?_
      refine k_ci (wc := [(p0, .inr (7, oM p3 i7 j7)), ((p3 14), .inl (cI, 2, .inl (fun _ => 0)))]) (wr := [((p3 49), .inl (cI, 22, .inl (fun _ => 0))), ((p3 50), .inl (cI, 22, .inl (fun _ => 0))), ((p3 72), .inl (cI, 9216, .inl (upd (fun _ => (-1)) 0 0))), ((p3 18), .inl (cI, 2, .inl (fun _ => 0)))]) (fun hPc hDc hFc => va_runV (As := []) (rest := []) ⟨hx, hb, hml, hown, hts⟩ (c_X7_briefOnes_v2 l dC dI cI cJ cZ cM p0 p3 H.size) (cwV 0 hts gX7_most_X7_briefOnes rfl rfl rfl (by decide +kernel) ⟨(Nat.le_of_ble_eq_true rfl), (Nat.le_of_ble_eq_true rfl)⟩) (k_pV hPc hDc hK hN hC hS hFc hP (q0 := 0) (ci := 7) rfl rfl) rfl rfl hl.1 rfl (lv_room (Nat.le_of_ble_eq_true rfl)) dX7_most_26 ⟨(Nat.le_of_ble_eq_true rfl), (Nat.le_of_ble_eq_true rfl)⟩) hP hD hS hA [0, 4] [1, 2, 3, 5] rfl rfl rfl rfl (by decide) (fun _ => rfl) 0 0 rfl rfl (fun r_173 u_174 H locs hw hP hD hS => ?_)
      obtain rfl : r_173 = 0 := hw
      have hP : va_P (dC, dI) vwCl [((p3 49), .inl (cI, 22, .inl (fun _ => 0))), ((p3 50), .inl (cI, 22, .inl (fun _ => 0))), ((p3 72), .inl (cI, 9216, .inl (upd (fun _ => (-1)) 0 0))), ((p3 18), .inl (cI, 2, .inl (fun _ => 0))), (p0, .inr (7, oM p3 i7 j7)), ((p3 14), .inl (cI, 2, .inl (fun _ => 0)))] H := hP
      have hD : va_D A [((p3 49), .inl (cI, 22, .inl (fun _ => 0))), ((p3 50), .inl (cI, 22, .inl (fun _ => 0))), ((p3 72), .inl (cI, 9216, .inl (upd (fun _ => (-1)) 0 0))), ((p3 18), .inl (cI, 2, .inl (fun _ => 0))), (p0, .inr (7, oM p3 i7 j7)), ((p3 14), .inl (cI, 2, .inl (fun _ => 0)))] := hD
      refine lv_iconst (v := (-1)) hx hb dX7_most_29 (by decide +kernel) ?_
      refine lv_ixor hx hb dX7_most_30 ?_
      refine k_int (v := (-1)) (by decide +kernel) ?_
      refine lv_istore_n (lv' := [(3, .int (-1)), (0, .ref p0), (1, .int 8), (2, .int p2)]) hx hb dX7_most_31 rfl hl (by decide) rfl (fun ls hl => ?_)
      refine lv_aload_n hx hb dX7_most_32 rfl (lv_at hl 1 rfl) ?_
      refine lv_iconst (v := (-1)) hx hb dX7_most_33 (by decide +kernel) ?_
      refine k_put (D := (dC, dI)) (ci := 7) (v := .int (-1)) (C := RX7) (T := TX7) (N := 92) (ws' := [((p3 49), .inl (cI, 22, .inl (fun _ => 0))), ((p3 50), .inl (cI, 22, .inl (fun _ => 0))), ((p3 72), .inl (cI, 9216, .inl (upd (fun _ => (-1)) 0 0))), ((p3 18), .inl (cI, 2, .inl (fun _ => 0))), (p0, .inr (7, oM p3 (upd i7 75 (-1)) j7)), ((p3 14), .inl (cI, 2, .inl (fun _ => 0)))]) hx hb hts hinX7 tyX7 tyX7_ok nmX7 hown hK hP hD hS 4 rfl rfl 75 (by decide) w_0 rfl rfl rfl rfl (Nat.le_of_ble_eq_true rfl) rfl dX7_most_34 (fun H locs hP hD hS => ?_)
      refine lv_iconst (v := (-1)) hx hb dX7_most_37 (by decide +kernel) ?_
      refine lv_istore (lv' := [(4, .int (-1)), (3, .int (-1)), (0, .ref p0), (1, .int 8), (2, .int p2)]) hx hb dX7_most_38 hl (by decide) rfl (fun ls hl => ?_)
      refine lv_iconst (v := 0) hx hb dX7_most_40 (by decide +kernel) ?_
      refine lv_istore (lv' := [(5, .int 0), (4, .int (-1)), (3, .int (-1)), (0, .ref p0), (1, .int 8), (2, .int p2)]) hx hb dX7_most_41 hl (by decide) rfl (fun ls hl => ?_)
      refine lv_iload hx hb dX7_most_43 (lv_at hl 0 rfl) ?_
      refine lv_iload_n hx hb dX7_most_45 rfl (lv_at hl 4 rfl) ?_
      refine lv_icmp_gt (tgt := 166) hx hb dX7_most_46 (by decide) (fun q9 => absurd q9 (by decide +kernel)) (fun _ => ?_)
      refine lv_iconst (v := 0) hx hb dX7_most_49 (by decide +kernel) ?_
      refine lv_istore (lv' := [(6, .int 0), (5, .int 0), (4, .int (-1)), (3, .int (-1)), (0, .ref p0), (1, .int 8), (2, .int p2)]) hx hb dX7_most_50 hl (by decide) rfl (fun ls hl => ?_)
      refine lv_iload hx hb dX7_most_52 (lv_at hl 0 rfl) ?_
      refine lv_iconst (v := 1) hx hb dX7_most_54 (by decide +kernel) ?_
      refine lv_aload_n hx hb dX7_most_55 rfl (lv_at hl 4 rfl) ?_
      refine k_get (D := (dC, dI)) (ci := 7) (v := .ref (p3 14)) (C := RX7) (T := TX7) (N := 92) hx hb hts hinX7 hown hK hP 4 rfl rfl 14 (by decide) w_1 rfl rfl dX7_most_56 ?_
      refine lv_aload_n hx hb dX7_most_59 rfl (lv_at hl 4 rfl) ?_
      refine k_get (D := (dC, dI)) (ci := 7) (v := .int 0) (C := RX7) (T := TX7) (N := 92) hx hb hts hinX7 hown hK hP 4 rfl rfl 13 (by decide) w_2 rfl rfl dX7_most_60 ?_
      refine k_iald (v := 0) hx hb hK hP 5 0 0 rfl rfl rfl (Nat.le_of_ble_eq_true rfl) (Nat.le_of_ble_eq_true rfl) rfl dX7_most_63 ?_
      refine lv_ishl hx hb dX7_most_64 ?_
      refine k_int (v := 1) (by decide +kernel) ?_
      refine lv_icmp_ge (tgt := 160) hx hb dX7_most_65 (by decide) (fun q9 => absurd q9 (by decide +kernel)) (fun _ => ?_)
      refine lv_aload_n hx hb dX7_most_68 rfl (lv_at hl 4 rfl) ?_
      refine k_get (D := (dC, dI)) (ci := 7) (v := .ref (p3 72)) (C := RX7) (T := TX7) (N := 92) hx hb hts hinX7 hown hK hP 4 rfl rfl 72 (by decide) w_3 rfl rfl dX7_most_69 ?_
      refine lv_sipush (v := 1024) hx hb dX7_most_72 (by decide +kernel) ?_
      refine lv_iload hx hb dX7_most_75 (lv_at hl 1 rfl) ?_
      refine lv_imul hx hb dX7_most_77 ?_
      refine k_int (v := 0) (by decide +kernel) ?_
      refine lv_iload hx hb dX7_most_78 (lv_at hl 0 rfl) ?_
      refine lv_iadd hx hb dX7_most_80 ?_
      refine k_int (v := 0) (by decide +kernel) ?_
      refine k_iald (v := 0) hx hb hK hP 2 0 0 rfl rfl rfl (Nat.le_of_ble_eq_true rfl) (Nat.le_of_ble_eq_true rfl) rfl dX7_most_81 ?_
      refine lv_istore (lv' := [(7, .int 0), (6, .int 0), (5, .int 0), (4, .int (-1)), (3, .int (-1)), (0, .ref p0), (1, .int 8), (2, .int p2)]) hx hb dX7_most_82 hl (by decide) rfl (fun ls hl => ?_)
      refine lv_iload hx hb dX7_most_84 (lv_at hl 0 rfl) ?_
      refine lv_iconst (v := (-1)) hx hb dX7_most_86 (by decide +kernel) ?_
      refine lv_icmp_ne (tgt := 93) hx hb dX7_most_87 (by decide) (fun _ => ?_) (fun q9 => absurd q9 (by decide +kernel))
      refine lv_aload_n hx hb dX7_most_93 rfl (lv_at hl 5 rfl) ?_
      refine lv_iload hx hb dX7_most_94 (lv_at hl 1 rfl) ?_
      refine lv_iload_n hx hb dX7_most_96 rfl (lv_at hl 4 rfl) ?_
      refine lv_iand hx hb dX7_most_97 ?_
      refine k_int (v := 0) (by decide +kernel) ?_
      refine k_ci (wc := [(p0, .inr (7, oM p3 (upd i7 75 (-1)) j7)), ((p3 14), .inl (cI, 2, .inl (fun _ => 0)))]) (wr := [((p3 49), .inl (cI, 22, .inl (fun _ => 0))), ((p3 50), .inl (cI, 22, .inl (fun _ => 0))), ((p3 72), .inl (cI, 9216, .inl (upd (fun _ => (-1)) 0 0))), ((p3 18), .inl (cI, 2, .inl (fun _ => 0)))]) (fun hPc hDc hFc => va_runV (As := [.int 0]) (rest := []) ⟨hx, hb, hml, hown, hts⟩ (c_X7_worthOf_v1 l dC dI cI cJ cZ cM p0 p3 H.size) (cwV 1 hts gX7_most_X7_worthOf rfl rfl rfl (by decide +kernel) ⟨(Nat.le_of_ble_eq_true rfl), (Nat.le_of_ble_eq_true rfl)⟩) (k_pV hPc hDc hK hN hC hS hFc hP (q0 := 4) (ci := 7) rfl rfl) rfl rfl hl.1 rfl (lv_room (Nat.le_of_ble_eq_true rfl)) dX7_most_98 ⟨(Nat.le_of_ble_eq_true rfl), (Nat.le_of_ble_eq_true rfl)⟩) hP hD hS hA [4, 5] [0, 1, 2, 3] rfl rfl rfl rfl (by decide) (fun _ => rfl) 0 0 rfl rfl (fun r_175 u_176 H locs hw hP hD hS => ?_)
      obtain rfl : r_175 = 0 := hw
      have hP : va_P (dC, dI) vwCl [((p3 49), .inl (cI, 22, .inl (fun _ => 0))), ((p3 50), .inl (cI, 22, .inl (fun _ => 0))), ((p3 72), .inl (cI, 9216, .inl (upd (fun _ => (-1)) 0 0))), ((p3 18), .inl (cI, 2, .inl (fun _ => 0))), (p0, .inr (7, oM p3 (upd i7 75 (-1)) j7)), ((p3 14), .inl (cI, 2, .inl (fun _ => 0)))] H := hP
      have hD : va_D A [((p3 49), .inl (cI, 22, .inl (fun _ => 0))), ((p3 50), .inl (cI, 22, .inl (fun _ => 0))), ((p3 72), .inl (cI, 9216, .inl (upd (fun _ => (-1)) 0 0))), ((p3 18), .inl (cI, 2, .inl (fun _ => 0))), (p0, .inr (7, oM p3 (upd i7 75 (-1)) j7)), ((p3 14), .inl (cI, 2, .inl (fun _ => 0)))] := hD
      refine lv_istore (lv' := [(8, .int 0), (7, .int 0), (6, .int 0), (5, .int 0), (4, .int (-1)), (3, .int (-1)), (0, .ref p0), (1, .int 8), (2, .int p2)]) hx hb dX7_most_101 hl (by decide) rfl (fun ls hl => ?_)
      refine lv_iload hx hb dX7_most_103 (lv_at hl 0 rfl) ?_
      refine lv_iload hx hb dX7_most_105 (lv_at hl 4 rfl) ?_
      refine lv_icmp_lt (tgt := 154) hx hb dX7_most_107 (by decide) (fun q9 => absurd q9 (by decide +kernel)) (fun _ => ?_)
      refine lv_iload hx hb dX7_most_110 (lv_at hl 0 rfl) ?_
      refine lv_iload hx hb dX7_most_112 (lv_at hl 4 rfl) ?_
      refine lv_icmp_ne (tgt := 138) hx hb dX7_most_114 (by decide) (fun _ => ?_) (fun q9 => absurd q9 (by decide +kernel))
      refine lv_iload hx hb dX7_most_138 (lv_at hl 0 rfl) ?_
      refine lv_istore (lv' := [(4, .int 0), (8, .int 0), (7, .int 0), (6, .int 0), (5, .int 0), (3, .int (-1)), (0, .ref p0), (1, .int 8), (2, .int p2)]) hx hb dX7_most_140 hl (by decide) rfl (fun ls hl => ?_)
      refine lv_aload_n hx hb dX7_most_142 rfl (lv_at hl 6 rfl) ?_
      refine lv_iload hx hb dX7_most_143 (lv_at hl 4 rfl) ?_
      refine k_put (D := (dC, dI)) (ci := 7) (v := .int 0) (C := RX7) (T := TX7) (N := 92) (ws' := [((p3 49), .inl (cI, 22, .inl (fun _ => 0))), ((p3 50), .inl (cI, 22, .inl (fun _ => 0))), ((p3 72), .inl (cI, 9216, .inl (upd (fun _ => (-1)) 0 0))), ((p3 18), .inl (cI, 2, .inl (fun _ => 0))), (p0, .inr (7, oM p3 (upd i7 75 0) j7)), ((p3 14), .inl (cI, 2, .inl (fun _ => 0)))]) hx hb hts hinX7 tyX7 tyX7_ok nmX7 hown hK hP hD hS 4 rfl rfl 75 (by decide) w_0 rfl rfl rfl rfl (Nat.le_of_ble_eq_true rfl) rfl dX7_most_145 (fun H locs hP hD hS => ?_)
      refine lv_aload_n hx hb dX7_most_148 rfl (lv_at hl 6 rfl) ?_
      refine lv_iload hx hb dX7_most_149 (lv_at hl 3 rfl) ?_
      refine k_put (D := (dC, dI)) (ci := 7) (v := .int 0) (C := RX7) (T := TX7) (N := 92) (ws' := [((p3 49), .inl (cI, 22, .inl (fun _ => 0))), ((p3 50), .inl (cI, 22, .inl (fun _ => 0))), ((p3 72), .inl (cI, 9216, .inl (upd (fun _ => (-1)) 0 0))), ((p3 18), .inl (cI, 2, .inl (fun _ => 0))), (p0, .inr (7, oM p3 (upd (upd i7 75 0) 76 0) j7)), ((p3 14), .inl (cI, 2, .inl (fun _ => 0)))]) hx hb hts hinX7 tyX7 tyX7_ok nmX7 hown hK hP hD hS 4 rfl rfl 76 (by decide) w_4 rfl rfl rfl rfl (Nat.le_of_ble_eq_true rfl) rfl dX7_most_151 (fun H locs hP hD hS => ?_)
      refine lv_iinc (v := 1) (lv' := [(6, .int 1), (4, .int 0), (8, .int 0), (7, .int 0), (5, .int 0), (3, .int (-1)), (0, .ref p0), (1, .int 8), (2, .int p2)]) hx hb dX7_most_154 hl (k := 3) rfl (by decide +kernel) (by decide) rfl (fun ls hl => ?_)
      refine lv_goto (tgt := 52) hx hb dX7_most_157 (by decide) ?_
      refine lv_iload hx hb dX7_most_52 (lv_at hl 0 rfl) ?_
      refine lv_iconst (v := 1) hx hb dX7_most_54 (by decide +kernel) ?_
      refine lv_aload_n hx hb dX7_most_55 rfl (lv_at hl 6 rfl) ?_
      refine k_get (D := (dC, dI)) (ci := 7) (v := .ref (p3 14)) (C := RX7) (T := TX7) (N := 92) hx hb hts hinX7 hown hK hP 4 rfl rfl 14 (by decide) w_1 rfl rfl dX7_most_56 ?_
      refine lv_aload_n hx hb dX7_most_59 rfl (lv_at hl 6 rfl) ?_
      refine k_get (D := (dC, dI)) (ci := 7) (v := .int 0) (C := RX7) (T := TX7) (N := 92) hx hb hts hinX7 hown hK hP 4 rfl rfl 13 (by decide) w_2 rfl rfl dX7_most_60 ?_
      refine k_iald (v := 0) hx hb hK hP 5 0 0 rfl rfl rfl (Nat.le_of_ble_eq_true rfl) (Nat.le_of_ble_eq_true rfl) rfl dX7_most_63 ?_
      refine lv_ishl hx hb dX7_most_64 ?_
      refine k_int (v := 1) (by decide +kernel) ?_
      refine lv_icmp_ge (tgt := 160) hx hb dX7_most_65 (by decide) (fun _ => ?_) (fun q9 => absurd q9 (by decide +kernel))
      refine lv_iinc (v := 1) (lv' := [(5, .int 1), (6, .int 1), (4, .int 0), (8, .int 0), (7, .int 0), (3, .int (-1)), (0, .ref p0), (1, .int 8), (2, .int p2)]) hx hb dX7_most_160 hl (k := 4) rfl (by decide +kernel) (by decide) rfl (fun ls hl => ?_)
      refine lv_goto (tgt := 43) hx hb dX7_most_163 (by decide) ?_
      refine lv_iload hx hb dX7_most_43 (lv_at hl 0 rfl) ?_
      refine lv_iload_n hx hb dX7_most_45 rfl (lv_at hl 7 rfl) ?_
      refine lv_icmp_gt (tgt := 166) hx hb dX7_most_46 (by decide) (fun q9 => absurd q9 (by decide +kernel)) (fun _ => ?_)
      refine lv_iconst (v := 0) hx hb dX7_most_49 (by decide +kernel) ?_
      refine lv_istore (lv' := [(6, .int 0), (5, .int 1), (4, .int 0), (8, .int 0), (7, .int 0), (3, .int (-1)), (0, .ref p0), (1, .int 8), (2, .int p2)]) hx hb dX7_most_50 hl (by decide) rfl (fun ls hl => ?_)
      refine lv_iload hx hb dX7_most_52 (lv_at hl 0 rfl) ?_
      refine lv_iconst (v := 1) hx hb dX7_most_54 (by decide +kernel) ?_
      refine lv_aload_n hx hb dX7_most_55 rfl (lv_at hl 6 rfl) ?_
      refine k_get (D := (dC, dI)) (ci := 7) (v := .ref (p3 14)) (C := RX7) (T := TX7) (N := 92) hx hb hts hinX7 hown hK hP 4 rfl rfl 14 (by decide) w_1 rfl rfl dX7_most_56 ?_
      refine lv_aload_n hx hb dX7_most_59 rfl (lv_at hl 6 rfl) ?_
      refine k_get (D := (dC, dI)) (ci := 7) (v := .int 0) (C := RX7) (T := TX7) (N := 92) hx hb hts hinX7 hown hK hP 4 rfl rfl 13 (by decide) w_2 rfl rfl dX7_most_60 ?_
      refine k_iald (v := 0) hx hb hK hP 5 0 0 rfl rfl rfl (Nat.le_of_ble_eq_true rfl) (Nat.le_of_ble_eq_true rfl) rfl dX7_most_63 ?_
      refine lv_ishl hx hb dX7_most_64 ?_
      refine k_int (v := 1) (by decide +kernel) ?_
      refine lv_icmp_ge (tgt := 160) hx hb dX7_most_65 (by decide) (fun q9 => absurd q9 (by decide +kernel)) (fun _ => ?_)
      refine lv_aload_n hx hb dX7_most_68 rfl (lv_at hl 6 rfl) ?_
      refine k_get (D := (dC, dI)) (ci := 7) (v := .ref (p3 72)) (C := RX7) (T := TX7) (N := 92) hx hb hts hinX7 hown hK hP 4 rfl rfl 72 (by decide) w_3 rfl rfl dX7_most_69 ?_
      refine lv_sipush (v := 1024) hx hb dX7_most_72 (by decide +kernel) ?_
      refine lv_iload hx hb dX7_most_75 (lv_at hl 1 rfl) ?_
      refine lv_imul hx hb dX7_most_77 ?_
      refine k_int (v := 1024) (by decide +kernel) ?_
      refine lv_iload hx hb dX7_most_78 (lv_at hl 0 rfl) ?_
      refine lv_iadd hx hb dX7_most_80 ?_
      refine k_int (v := 1024) (by decide +kernel) ?_
      refine k_iald (v := (-1)) hx hb hK hP 2 0 1024 rfl rfl rfl (Nat.le_of_ble_eq_true rfl) (Nat.le_of_ble_eq_true rfl) rfl dX7_most_81 ?_
      refine lv_istore (lv' := [(7, .int (-1)), (6, .int 0), (5, .int 1), (4, .int 0), (8, .int 0), (3, .int (-1)), (0, .ref p0), (1, .int 8), (2, .int p2)]) hx hb dX7_most_82 hl (by decide) rfl (fun ls hl => ?_)
      refine lv_iload hx hb dX7_most_84 (lv_at hl 0 rfl) ?_
      refine lv_iconst (v := (-1)) hx hb dX7_most_86 (by decide +kernel) ?_
      refine lv_icmp_ne (tgt := 93) hx hb dX7_most_87 (by decide) (fun q9 => absurd q9 (by decide +kernel)) (fun _ => ?_)
      refine lv_goto (tgt := 154) hx hb dX7_most_90 (by decide) ?_
      refine lv_iinc (v := 1) (lv' := [(6, .int 1), (7, .int (-1)), (5, .int 1), (4, .int 0), (8, .int 0), (3, .int (-1)), (0, .ref p0), (1, .int 8), (2, .int p2)]) hx hb dX7_most_154 hl (k := 1) rfl (by decide +kernel) (by decide) rfl (fun ls hl => ?_)
      refine lv_goto (tgt := 52) hx hb dX7_most_157 (by decide) ?_
      refine lv_iload hx hb dX7_most_52 (lv_at hl 0 rfl) ?_
      refine lv_iconst (v := 1) hx hb dX7_most_54 (by decide +kernel) ?_
      refine lv_aload_n hx hb dX7_most_55 rfl (lv_at hl 6 rfl) ?_
      refine k_get (D := (dC, dI)) (ci := 7) (v := .ref (p3 14)) (C := RX7) (T := TX7) (N := 92) hx hb hts hinX7 hown hK hP 4 rfl rfl 14 (by decide) w_1 rfl rfl dX7_most_56 ?_
      refine lv_aload_n hx hb dX7_most_59 rfl (lv_at hl 6 rfl) ?_
      refine k_get (D := (dC, dI)) (ci := 7) (v := .int 0) (C := RX7) (T := TX7) (N := 92) hx hb hts hinX7 hown hK hP 4 rfl rfl 13 (by decide) w_2 rfl rfl dX7_most_60 ?_
      refine k_iald (v := 0) hx hb hK hP 5 0 0 rfl rfl rfl (Nat.le_of_ble_eq_true rfl) (Nat.le_of_ble_eq_true rfl) rfl dX7_most_63 ?_
      refine lv_ishl hx hb dX7_most_64 ?_
      refine k_int (v := 1) (by decide +kernel) ?_
      refine lv_icmp_ge (tgt := 160) hx hb dX7_most_65 (by decide) (fun _ => ?_) (fun q9 => absurd q9 (by decide +kernel))
      refine lv_iinc (v := 2) (lv' := [(5, .int 2), (6, .int 1), (7, .int (-1)), (4, .int 0), (8, .int 0), (3, .int (-1)), (0, .ref p0), (1, .int 8), (2, .int p2)]) hx hb dX7_most_160 hl (k := 2) rfl (by decide +kernel) (by decide) rfl (fun ls hl => ?_)
      refine lv_goto (tgt := 43) hx hb dX7_most_163 (by decide) ?_
      refine lv_iload hx hb dX7_most_43 (lv_at hl 0 rfl) ?_
      refine lv_iload_n hx hb dX7_most_45 rfl (lv_at hl 7 rfl) ?_
      refine lv_icmp_gt (tgt := 166) hx hb dX7_most_46 (by decide) (fun q9 => absurd q9 (by decide +kernel)) (fun _ => ?_)
      refine lv_iconst (v := 0) hx hb dX7_most_49 (by decide +kernel) ?_
      refine lv_istore (lv' := [(6, .int 0), (5, .int 2), (7, .int (-1)), (4, .int 0), (8, .int 0), (3, .int (-1)), (0, .ref p0), (1, .int 8), (2, .int p2)]) hx hb dX7_most_50 hl (by decide) rfl (fun ls hl => ?_)
      refine lv_iload hx hb dX7_most_52 (lv_at hl 0 rfl) ?_
      refine lv_iconst (v := 1) hx hb dX7_most_54 (by decide +kernel) ?_
      refine lv_aload_n hx hb dX7_most_55 rfl (lv_at hl 6 rfl) ?_
      refine k_get (D := (dC, dI)) (ci := 7) (v := .ref (p3 14)) (C := RX7) (T := TX7) (N := 92) hx hb hts hinX7 hown hK hP 4 rfl rfl 14 (by decide) w_1 rfl rfl dX7_most_56 ?_
      refine lv_aload_n hx hb dX7_most_59 rfl (lv_at hl 6 rfl) ?_
      refine k_get (D := (dC, dI)) (ci := 7) (v := .int 0) (C := RX7) (T := TX7) (N := 92) hx hb hts hinX7 hown hK hP 4 rfl rfl 13 (by decide) w_2 rfl rfl dX7_most_60 ?_
      refine k_iald (v := 0) hx hb hK hP 5 0 0 rfl rfl rfl (Nat.le_of_ble_eq_true rfl) (Nat.le_of_ble_eq_true rfl) rfl dX7_most_63 ?_
      refine lv_ishl hx hb dX7_most_64 ?_
      refine k_int (v := 1) (by decide +kernel) ?_
      refine lv_icmp_ge (tgt := 160) hx hb dX7_most_65 (by decide) (fun q9 => absurd q9 (by decide +kernel)) (fun _ => ?_)
      refine lv_aload_n hx hb dX7_most_68 rfl (lv_at hl 6 rfl) ?_
      refine k_get (D := (dC, dI)) (ci := 7) (v := .ref (p3 72)) (C := RX7) (T := TX7) (N := 92) hx hb hts hinX7 hown hK hP 4 rfl rfl 72 (by decide) w_3 rfl rfl dX7_most_69 ?_
      refine lv_sipush (v := 1024) hx hb dX7_most_72 (by decide +kernel) ?_
      refine lv_iload hx hb dX7_most_75 (lv_at hl 1 rfl) ?_
      refine lv_imul hx hb dX7_most_77 ?_
      refine k_int (v := 2048) (by decide +kernel) ?_
      refine lv_iload hx hb dX7_most_78 (lv_at hl 0 rfl) ?_
      refine lv_iadd hx hb dX7_most_80 ?_
      refine k_int (v := 2048) (by decide +kernel) ?_
      refine k_iald (v := (-1)) hx hb hK hP 2 0 2048 rfl rfl rfl (Nat.le_of_ble_eq_true rfl) (Nat.le_of_ble_eq_true rfl) rfl dX7_most_81 ?_
      refine lv_istore (lv' := [(7, .int (-1)), (6, .int 0), (5, .int 2), (4, .int 0), (8, .int 0), (3, .int (-1)), (0, .ref p0), (1, .int 8), (2, .int p2)]) hx hb dX7_most_82 hl (by decide) rfl (fun ls hl => ?_)
      refine lv_iload hx hb dX7_most_84 (lv_at hl 0 rfl) ?_
      refine lv_iconst (v := (-1)) hx hb dX7_most_86 (by decide +kernel) ?_
      refine lv_icmp_ne (tgt := 93) hx hb dX7_most_87 (by decide) (fun q9 => absurd q9 (by decide +kernel)) (fun _ => ?_)
      refine lv_goto (tgt := 154) hx hb dX7_most_90 (by decide) ?_
      refine lv_iinc (v := 1) (lv' := [(6, .int 1), (7, .int (-1)), (5, .int 2), (4, .int 0), (8, .int 0), (3, .int (-1)), (0, .ref p0), (1, .int 8), (2, .int p2)]) hx hb dX7_most_154 hl (k := 1) rfl (by decide +kernel) (by decide) rfl (fun ls hl => ?_)
      refine lv_goto (tgt := 52) hx hb dX7_most_157 (by decide) ?_
      refine lv_iload hx hb dX7_most_52 (lv_at hl 0 rfl) ?_
      refine lv_iconst (v := 1) hx hb dX7_most_54 (by decide +kernel) ?_
      refine lv_aload_n hx hb dX7_most_55 rfl (lv_at hl 6 rfl) ?_
      refine k_get (D := (dC, dI)) (ci := 7) (v := .ref (p3 14)) (C := RX7) (T := TX7) (N := 92) hx hb hts hinX7 hown hK hP 4 rfl rfl 14 (by decide) w_1 rfl rfl dX7_most_56 ?_
      refine lv_aload_n hx hb dX7_most_59 rfl (lv_at hl 6 rfl) ?_
      refine k_get (D := (dC, dI)) (ci := 7) (v := .int 0) (C := RX7) (T := TX7) (N := 92) hx hb hts hinX7 hown hK hP 4 rfl rfl 13 (by decide) w_2 rfl rfl dX7_most_60 ?_
      refine k_iald (v := 0) hx hb hK hP 5 0 0 rfl rfl rfl (Nat.le_of_ble_eq_true rfl) (Nat.le_of_ble_eq_true rfl) rfl dX7_most_63 ?_
      refine lv_ishl hx hb dX7_most_64 ?_
      refine k_int (v := 1) (by decide +kernel) ?_
      refine lv_icmp_ge (tgt := 160) hx hb dX7_most_65 (by decide) (fun _ => ?_) (fun q9 => absurd q9 (by decide +kernel))
      refine lv_iinc (v := 3) (lv' := [(5, .int 3), (6, .int 1), (7, .int (-1)), (4, .int 0), (8, .int 0), (3, .int (-1)), (0, .ref p0), (1, .int 8), (2, .int p2)]) hx hb dX7_most_160 hl (k := 2) rfl (by decide +kernel) (by decide) rfl (fun ls hl => ?_)
      refine lv_goto (tgt := 43) hx hb dX7_most_163 (by decide) ?_
      refine lv_iload hx hb dX7_most_43 (lv_at hl 0 rfl) ?_
      refine lv_iload_n hx hb dX7_most_45 rfl (lv_at hl 7 rfl) ?_
      refine lv_icmp_gt (tgt := 166) hx hb dX7_most_46 (by decide) (fun q9 => absurd q9 (by decide +kernel)) (fun _ => ?_)
      refine lv_iconst (v := 0) hx hb dX7_most_49 (by decide +kernel) ?_
      refine lv_istore (lv' := [(6, .int 0), (5, .int 3), (7, .int (-1)), (4, .int 0), (8, .int 0), (3, .int (-1)), (0, .ref p0), (1, .int 8), (2, .int p2)]) hx hb dX7_most_50 hl (by decide) rfl (fun ls hl => ?_)
      refine lv_iload hx hb dX7_most_52 (lv_at hl 0 rfl) ?_
      refine lv_iconst (v := 1) hx hb dX7_most_54 (by decide +kernel) ?_
      refine lv_aload_n hx hb dX7_most_55 rfl (lv_at hl 6 rfl) ?_
      refine k_get (D := (dC, dI)) (ci := 7) (v := .ref (p3 14)) (C := RX7) (T := TX7) (N := 92) hx hb hts hinX7 hown hK hP 4 rfl rfl 14 (by decide) w_1 rfl rfl dX7_most_56 ?_
      refine lv_aload_n hx hb dX7_most_59 rfl (lv_at hl 6 rfl) ?_
      refine k_get (D := (dC, dI)) (ci := 7) (v := .int 0) (C := RX7) (T := TX7) (N := 92) hx hb hts hinX7 hown hK hP 4 rfl rfl 13 (by decide) w_2 rfl rfl dX7_most_60 ?_
      refine k_iald (v := 0) hx hb hK hP 5 0 0 rfl rfl rfl (Nat.le_of_ble_eq_true rfl) (Nat.le_of_ble_eq_true rfl) rfl dX7_most_63 ?_
      refine lv_ishl hx hb dX7_most_64 ?_
      refine k_int (v := 1) (by decide +kernel) ?_
      refine lv_icmp_ge (tgt := 160) hx hb dX7_most_65 (by decide) (fun q9 => absurd q9 (by decide +kernel)) (fun _ => ?_)
      refine lv_aload_n hx hb dX7_most_68 rfl (lv_at hl 6 rfl) ?_
      refine k_get (D := (dC, dI)) (ci := 7) (v := .ref (p3 72)) (C := RX7) (T := TX7) (N := 92) hx hb hts hinX7 hown hK hP 4 rfl rfl 72 (by decide) w_3 rfl rfl dX7_most_69 ?_
      refine lv_sipush (v := 1024) hx hb dX7_most_72 (by decide +kernel) ?_
      refine lv_iload hx hb dX7_most_75 (lv_at hl 1 rfl) ?_
      refine lv_imul hx hb dX7_most_77 ?_
      refine k_int (v := 3072) (by decide +kernel) ?_
      refine lv_iload hx hb dX7_most_78 (lv_at hl 0 rfl) ?_
      refine lv_iadd hx hb dX7_most_80 ?_
      refine k_int (v := 3072) (by decide +kernel) ?_
      refine k_iald (v := (-1)) hx hb hK hP 2 0 3072 rfl rfl rfl (Nat.le_of_ble_eq_true rfl) (Nat.le_of_ble_eq_true rfl) rfl dX7_most_81 ?_
      refine lv_istore (lv' := [(7, .int (-1)), (6, .int 0), (5, .int 3), (4, .int 0), (8, .int 0), (3, .int (-1)), (0, .ref p0), (1, .int 8), (2, .int p2)]) hx hb dX7_most_82 hl (by decide) rfl (fun ls hl => ?_)
      refine lv_iload hx hb dX7_most_84 (lv_at hl 0 rfl) ?_
      refine lv_iconst (v := (-1)) hx hb dX7_most_86 (by decide +kernel) ?_
      refine lv_icmp_ne (tgt := 93) hx hb dX7_most_87 (by decide) (fun q9 => absurd q9 (by decide +kernel)) (fun _ => ?_)
      refine lv_goto (tgt := 154) hx hb dX7_most_90 (by decide) ?_
      refine lv_iinc (v := 1) (lv' := [(6, .int 1), (7, .int (-1)), (5, .int 3), (4, .int 0), (8, .int 0), (3, .int (-1)), (0, .ref p0), (1, .int 8), (2, .int p2)]) hx hb dX7_most_154 hl (k := 1) rfl (by decide +kernel) (by decide) rfl (fun ls hl => ?_)
      refine lv_goto (tgt := 52) hx hb dX7_most_157 (by decide) ?_
      refine lv_iload hx hb dX7_most_52 (lv_at hl 0 rfl) ?_
      refine lv_iconst (v := 1) hx hb dX7_most_54 (by decide +kernel) ?_
      refine lv_aload_n hx hb dX7_most_55 rfl (lv_at hl 6 rfl) ?_
      refine k_get (D := (dC, dI)) (ci := 7) (v := .ref (p3 14)) (C := RX7) (T := TX7) (N := 92) hx hb hts hinX7 hown hK hP 4 rfl rfl 14 (by decide) w_1 rfl rfl dX7_most_56 ?_
      refine lv_aload_n hx hb dX7_most_59 rfl (lv_at hl 6 rfl) ?_
      refine k_get (D := (dC, dI)) (ci := 7) (v := .int 0) (C := RX7) (T := TX7) (N := 92) hx hb hts hinX7 hown hK hP 4 rfl rfl 13 (by decide) w_2 rfl rfl dX7_most_60 ?_
      refine k_iald (v := 0) hx hb hK hP 5 0 0 rfl rfl rfl (Nat.le_of_ble_eq_true rfl) (Nat.le_of_ble_eq_true rfl) rfl dX7_most_63 ?_
      refine lv_ishl hx hb dX7_most_64 ?_
      refine k_int (v := 1) (by decide +kernel) ?_
      refine lv_icmp_ge (tgt := 160) hx hb dX7_most_65 (by decide) (fun _ => ?_) (fun q9 => absurd q9 (by decide +kernel))
      refine lv_iinc (v := 4) (lv' := [(5, .int 4), (6, .int 1), (7, .int (-1)), (4, .int 0), (8, .int 0), (3, .int (-1)), (0, .ref p0), (1, .int 8), (2, .int p2)]) hx hb dX7_most_160 hl (k := 2) rfl (by decide +kernel) (by decide) rfl (fun ls hl => ?_)
      refine lv_goto (tgt := 43) hx hb dX7_most_163 (by decide) ?_
      refine lv_iload hx hb dX7_most_43 (lv_at hl 0 rfl) ?_
      refine lv_iload_n hx hb dX7_most_45 rfl (lv_at hl 7 rfl) ?_
      refine lv_icmp_gt (tgt := 166) hx hb dX7_most_46 (by decide) (fun q9 => absurd q9 (by decide +kernel)) (fun _ => ?_)
      refine lv_iconst (v := 0) hx hb dX7_most_49 (by decide +kernel) ?_
      refine lv_istore (lv' := [(6, .int 0), (5, .int 4), (7, .int (-1)), (4, .int 0), (8, .int 0), (3, .int (-1)), (0, .ref p0), (1, .int 8), (2, .int p2)]) hx hb dX7_most_50 hl (by decide) rfl (fun ls hl => ?_)
      refine lv_iload hx hb dX7_most_52 (lv_at hl 0 rfl) ?_
      refine lv_iconst (v := 1) hx hb dX7_most_54 (by decide +kernel) ?_
      refine lv_aload_n hx hb dX7_most_55 rfl (lv_at hl 6 rfl) ?_
      refine k_get (D := (dC, dI)) (ci := 7) (v := .ref (p3 14)) (C := RX7) (T := TX7) (N := 92) hx hb hts hinX7 hown hK hP 4 rfl rfl 14 (by decide) w_1 rfl rfl dX7_most_56 ?_
      refine lv_aload_n hx hb dX7_most_59 rfl (lv_at hl 6 rfl) ?_
      refine k_get (D := (dC, dI)) (ci := 7) (v := .int 0) (C := RX7) (T := TX7) (N := 92) hx hb hts hinX7 hown hK hP 4 rfl rfl 13 (by decide) w_2 rfl rfl dX7_most_60 ?_
      refine k_iald (v := 0) hx hb hK hP 5 0 0 rfl rfl rfl (Nat.le_of_ble_eq_true rfl) (Nat.le_of_ble_eq_true rfl) rfl dX7_most_63 ?_
      refine lv_ishl hx hb dX7_most_64 ?_
      refine k_int (v := 1) (by decide +kernel) ?_
      refine lv_icmp_ge (tgt := 160) hx hb dX7_most_65 (by decide) (fun q9 => absurd q9 (by decide +kernel)) (fun _ => ?_)
      refine lv_aload_n hx hb dX7_most_68 rfl (lv_at hl 6 rfl) ?_
      refine k_get (D := (dC, dI)) (ci := 7) (v := .ref (p3 72)) (C := RX7) (T := TX7) (N := 92) hx hb hts hinX7 hown hK hP 4 rfl rfl 72 (by decide) w_3 rfl rfl dX7_most_69 ?_
      refine lv_sipush (v := 1024) hx hb dX7_most_72 (by decide +kernel) ?_
      refine lv_iload hx hb dX7_most_75 (lv_at hl 1 rfl) ?_
      refine lv_imul hx hb dX7_most_77 ?_
      refine k_int (v := 4096) (by decide +kernel) ?_
      refine lv_iload hx hb dX7_most_78 (lv_at hl 0 rfl) ?_
      refine lv_iadd hx hb dX7_most_80 ?_
      refine k_int (v := 4096) (by decide +kernel) ?_
      refine k_iald (v := (-1)) hx hb hK hP 2 0 4096 rfl rfl rfl (Nat.le_of_ble_eq_true rfl) (Nat.le_of_ble_eq_true rfl) rfl dX7_most_81 ?_
      refine lv_istore (lv' := [(7, .int (-1)), (6, .int 0), (5, .int 4), (4, .int 0), (8, .int 0), (3, .int (-1)), (0, .ref p0), (1, .int 8), (2, .int p2)]) hx hb dX7_most_82 hl (by decide) rfl (fun ls hl => ?_)
      refine lv_iload hx hb dX7_most_84 (lv_at hl 0 rfl) ?_
      refine lv_iconst (v := (-1)) hx hb dX7_most_86 (by decide +kernel) ?_
      refine lv_icmp_ne (tgt := 93) hx hb dX7_most_87 (by decide) (fun q9 => absurd q9 (by decide +kernel)) (fun _ => ?_)
      refine lv_goto (tgt := 154) hx hb dX7_most_90 (by decide) ?_
      refine lv_iinc (v := 1) (lv' := [(6, .int 1), (7, .int (-1)), (5, .int 4), (4, .int 0), (8, .int 0), (3, .int (-1)), (0, .ref p0), (1, .int 8), (2, .int p2)]) hx hb dX7_most_154 hl (k := 1) rfl (by decide +kernel) (by decide) rfl (fun ls hl => ?_)
      refine lv_goto (tgt := 52) hx hb dX7_most_157 (by decide) ?_
      refine lv_iload hx hb dX7_most_52 (lv_at hl 0 rfl) ?_
      refine lv_iconst (v := 1) hx hb dX7_most_54 (by decide +kernel) ?_
      refine lv_aload_n hx hb dX7_most_55 rfl (lv_at hl 6 rfl) ?_
      refine k_get (D := (dC, dI)) (ci := 7) (v := .ref (p3 14)) (C := RX7) (T := TX7) (N := 92) hx hb hts hinX7 hown hK hP 4 rfl rfl 14 (by decide) w_1 rfl rfl dX7_most_56 ?_
      refine lv_aload_n hx hb dX7_most_59 rfl (lv_at hl 6 rfl) ?_
      refine k_get (D := (dC, dI)) (ci := 7) (v := .int 0) (C := RX7) (T := TX7) (N := 92) hx hb hts hinX7 hown hK hP 4 rfl rfl 13 (by decide) w_2 rfl rfl dX7_most_60 ?_
      refine k_iald (v := 0) hx hb hK hP 5 0 0 rfl rfl rfl (Nat.le_of_ble_eq_true rfl) (Nat.le_of_ble_eq_true rfl) rfl dX7_most_63 ?_
      refine lv_ishl hx hb dX7_most_64 ?_
      refine k_int (v := 1) (by decide +kernel) ?_
      refine lv_icmp_ge (tgt := 160) hx hb dX7_most_65 (by decide) (fun _ => ?_) (fun q9 => absurd q9 (by decide +kernel))
      refine lv_iinc (v := 5) (lv' := [(5, .int 5), (6, .int 1), (7, .int (-1)), (4, .int 0), (8, .int 0), (3, .int (-1)), (0, .ref p0), (1, .int 8), (2, .int p2)]) hx hb dX7_most_160 hl (k := 2) rfl (by decide +kernel) (by decide) rfl (fun ls hl => ?_)
      refine lv_goto (tgt := 43) hx hb dX7_most_163 (by decide) ?_
      refine lv_iload hx hb dX7_most_43 (lv_at hl 0 rfl) ?_
      refine lv_iload_n hx hb dX7_most_45 rfl (lv_at hl 7 rfl) ?_
      refine lv_icmp_gt (tgt := 166) hx hb dX7_most_46 (by decide) (fun q9 => absurd q9 (by decide +kernel)) (fun _ => ?_)
      refine lv_iconst (v := 0) hx hb dX7_most_49 (by decide +kernel) ?_
      refine lv_istore (lv' := [(6, .int 0), (5, .int 5), (7, .int (-1)), (4, .int 0), (8, .int 0), (3, .int (-1)), (0, .ref p0), (1, .int 8), (2, .int p2)]) hx hb dX7_most_50 hl (by decide) rfl (fun ls hl => ?_)
      refine lv_iload hx hb dX7_most_52 (lv_at hl 0 rfl) ?_
      refine lv_iconst (v := 1) hx hb dX7_most_54 (by decide +kernel) ?_
      refine lv_aload_n hx hb dX7_most_55 rfl (lv_at hl 6 rfl) ?_
      refine k_get (D := (dC, dI)) (ci := 7) (v := .ref (p3 14)) (C := RX7) (T := TX7) (N := 92) hx hb hts hinX7 hown hK hP 4 rfl rfl 14 (by decide) w_1 rfl rfl dX7_most_56 ?_
      refine lv_aload_n hx hb dX7_most_59 rfl (lv_at hl 6 rfl) ?_
      refine k_get (D := (dC, dI)) (ci := 7) (v := .int 0) (C := RX7) (T := TX7) (N := 92) hx hb hts hinX7 hown hK hP 4 rfl rfl 13 (by decide) w_2 rfl rfl dX7_most_60 ?_
      refine k_iald (v := 0) hx hb hK hP 5 0 0 rfl rfl rfl (Nat.le_of_ble_eq_true rfl) (Nat.le_of_ble_eq_true rfl) rfl dX7_most_63 ?_
      refine lv_ishl hx hb dX7_most_64 ?_
      refine k_int (v := 1) (by decide +kernel) ?_
      refine lv_icmp_ge (tgt := 160) hx hb dX7_most_65 (by decide) (fun q9 => absurd q9 (by decide +kernel)) (fun _ => ?_)
      refine lv_aload_n hx hb dX7_most_68 rfl (lv_at hl 6 rfl) ?_
      refine k_get (D := (dC, dI)) (ci := 7) (v := .ref (p3 72)) (C := RX7) (T := TX7) (N := 92) hx hb hts hinX7 hown hK hP 4 rfl rfl 72 (by decide) w_3 rfl rfl dX7_most_69 ?_
      refine lv_sipush (v := 1024) hx hb dX7_most_72 (by decide +kernel) ?_
      refine lv_iload hx hb dX7_most_75 (lv_at hl 1 rfl) ?_
      refine lv_imul hx hb dX7_most_77 ?_
      refine k_int (v := 5120) (by decide +kernel) ?_
      refine lv_iload hx hb dX7_most_78 (lv_at hl 0 rfl) ?_
      refine lv_iadd hx hb dX7_most_80 ?_
      refine k_int (v := 5120) (by decide +kernel) ?_
      refine k_iald (v := (-1)) hx hb hK hP 2 0 5120 rfl rfl rfl (Nat.le_of_ble_eq_true rfl) (Nat.le_of_ble_eq_true rfl) rfl dX7_most_81 ?_
      refine lv_istore (lv' := [(7, .int (-1)), (6, .int 0), (5, .int 5), (4, .int 0), (8, .int 0), (3, .int (-1)), (0, .ref p0), (1, .int 8), (2, .int p2)]) hx hb dX7_most_82 hl (by decide) rfl (fun ls hl => ?_)
      refine lv_iload hx hb dX7_most_84 (lv_at hl 0 rfl) ?_
      refine lv_iconst (v := (-1)) hx hb dX7_most_86 (by decide +kernel) ?_
      refine lv_icmp_ne (tgt := 93) hx hb dX7_most_87 (by decide) (fun q9 => absurd q9 (by decide +kernel)) (fun _ => ?_)
      refine lv_goto (tgt := 154) hx hb dX7_most_90 (by decide) ?_
      refine lv_iinc (v := 1) (lv' := [(6, .int 1), (7, .int (-1)), (5, .int 5), (4, .int 0), (8, .int 0), (3, .int (-1)), (0, .ref p0), (1, .int 8), (2, .int p2)]) hx hb dX7_most_154 hl (k := 1) rfl (by decide +kernel) (by decide) rfl (fun ls hl => ?_)
      refine lv_goto (tgt := 52) hx hb dX7_most_157 (by decide) ?_
      refine lv_iload hx hb dX7_most_52 (lv_at hl 0 rfl) ?_
      refine lv_iconst (v := 1) hx hb dX7_most_54 (by decide +kernel) ?_
      refine lv_aload_n hx hb dX7_most_55 rfl (lv_at hl 6 rfl) ?_
      refine k_get (D := (dC, dI)) (ci := 7) (v := .ref (p3 14)) (C := RX7) (T := TX7) (N := 92) hx hb hts hinX7 hown hK hP 4 rfl rfl 14 (by decide) w_1 rfl rfl dX7_most_56 ?_
      refine lv_aload_n hx hb dX7_most_59 rfl (lv_at hl 6 rfl) ?_
      refine k_get (D := (dC, dI)) (ci := 7) (v := .int 0) (C := RX7) (T := TX7) (N := 92) hx hb hts hinX7 hown hK hP 4 rfl rfl 13 (by decide) w_2 rfl rfl dX7_most_60 ?_
      refine k_iald (v := 0) hx hb hK hP 5 0 0 rfl rfl rfl (Nat.le_of_ble_eq_true rfl) (Nat.le_of_ble_eq_true rfl) rfl dX7_most_63 ?_
      refine lv_ishl hx hb dX7_most_64 ?_
      refine k_int (v := 1) (by decide +kernel) ?_
      refine lv_icmp_ge (tgt := 160) hx hb dX7_most_65 (by decide) (fun _ => ?_) (fun q9 => absurd q9 (by decide +kernel))
      refine lv_iinc (v := 6) (lv' := [(5, .int 6), (6, .int 1), (7, .int (-1)), (4, .int 0), (8, .int 0), (3, .int (-1)), (0, .ref p0), (1, .int 8), (2, .int p2)]) hx hb dX7_most_160 hl (k := 2) rfl (by decide +kernel) (by decide) rfl (fun ls hl => ?_)
      refine lv_goto (tgt := 43) hx hb dX7_most_163 (by decide) ?_
      refine lv_iload hx hb dX7_most_43 (lv_at hl 0 rfl) ?_
      refine lv_iload_n hx hb dX7_most_45 rfl (lv_at hl 7 rfl) ?_
      refine lv_icmp_gt (tgt := 166) hx hb dX7_most_46 (by decide) (fun q9 => absurd q9 (by decide +kernel)) (fun _ => ?_)
      refine lv_iconst (v := 0) hx hb dX7_most_49 (by decide +kernel) ?_
      refine lv_istore (lv' := [(6, .int 0), (5, .int 6), (7, .int (-1)), (4, .int 0), (8, .int 0), (3, .int (-1)), (0, .ref p0), (1, .int 8), (2, .int p2)]) hx hb dX7_most_50 hl (by decide) rfl (fun ls hl => ?_)
      refine lv_iload hx hb dX7_most_52 (lv_at hl 0 rfl) ?_
      refine lv_iconst (v := 1) hx hb dX7_most_54 (by decide +kernel) ?_
      refine lv_aload_n hx hb dX7_most_55 rfl (lv_at hl 6 rfl) ?_
      refine k_get (D := (dC, dI)) (ci := 7) (v := .ref (p3 14)) (C := RX7) (T := TX7) (N := 92) hx hb hts hinX7 hown hK hP 4 rfl rfl 14 (by decide) w_1 rfl rfl dX7_most_56 ?_
      refine lv_aload_n hx hb dX7_most_59 rfl (lv_at hl 6 rfl) ?_
      refine k_get (D := (dC, dI)) (ci := 7) (v := .int 0) (C := RX7) (T := TX7) (N := 92) hx hb hts hinX7 hown hK hP 4 rfl rfl 13 (by decide) w_2 rfl rfl dX7_most_60 ?_
      refine k_iald (v := 0) hx hb hK hP 5 0 0 rfl rfl rfl (Nat.le_of_ble_eq_true rfl) (Nat.le_of_ble_eq_true rfl) rfl dX7_most_63 ?_
      refine lv_ishl hx hb dX7_most_64 ?_
      refine k_int (v := 1) (by decide +kernel) ?_
      refine lv_icmp_ge (tgt := 160) hx hb dX7_most_65 (by decide) (fun q9 => absurd q9 (by decide +kernel)) (fun _ => ?_)
      refine lv_aload_n hx hb dX7_most_68 rfl (lv_at hl 6 rfl) ?_
      refine k_get (D := (dC, dI)) (ci := 7) (v := .ref (p3 72)) (C := RX7) (T := TX7) (N := 92) hx hb hts hinX7 hown hK hP 4 rfl rfl 72 (by decide) w_3 rfl rfl dX7_most_69 ?_
      refine lv_sipush (v := 1024) hx hb dX7_most_72 (by decide +kernel) ?_
      refine lv_iload hx hb dX7_most_75 (lv_at hl 1 rfl) ?_
      refine lv_imul hx hb dX7_most_77 ?_
      refine k_int (v := 6144) (by decide +kernel) ?_
      refine lv_iload hx hb dX7_most_78 (lv_at hl 0 rfl) ?_
      refine lv_iadd hx hb dX7_most_80 ?_
      refine k_int (v := 6144) (by decide +kernel) ?_
      refine k_iald (v := (-1)) hx hb hK hP 2 0 6144 rfl rfl rfl (Nat.le_of_ble_eq_true rfl) (Nat.le_of_ble_eq_true rfl) rfl dX7_most_81 ?_
      refine lv_istore (lv' := [(7, .int (-1)), (6, .int 0), (5, .int 6), (4, .int 0), (8, .int 0), (3, .int (-1)), (0, .ref p0), (1, .int 8), (2, .int p2)]) hx hb dX7_most_82 hl (by decide) rfl (fun ls hl => ?_)
      refine lv_iload hx hb dX7_most_84 (lv_at hl 0 rfl) ?_
      refine lv_iconst (v := (-1)) hx hb dX7_most_86 (by decide +kernel) ?_
      refine lv_icmp_ne (tgt := 93) hx hb dX7_most_87 (by decide) (fun q9 => absurd q9 (by decide +kernel)) (fun _ => ?_)
      refine lv_goto (tgt := 154) hx hb dX7_most_90 (by decide) ?_
      refine lv_iinc (v := 1) (lv' := [(6, .int 1), (7, .int (-1)), (5, .int 6), (4, .int 0), (8, .int 0), (3, .int (-1)), (0, .ref p0), (1, .int 8), (2, .int p2)]) hx hb dX7_most_154 hl (k := 1) rfl (by decide +kernel) (by decide) rfl (fun ls hl => ?_)
      refine lv_goto (tgt := 52) hx hb dX7_most_157 (by decide) ?_
      refine lv_iload hx hb dX7_most_52 (lv_at hl 0 rfl) ?_
      refine lv_iconst (v := 1) hx hb dX7_most_54 (by decide +kernel) ?_
      refine lv_aload_n hx hb dX7_most_55 rfl (lv_at hl 6 rfl) ?_
      refine k_get (D := (dC, dI)) (ci := 7) (v := .ref (p3 14)) (C := RX7) (T := TX7) (N := 92) hx hb hts hinX7 hown hK hP 4 rfl rfl 14 (by decide) w_1 rfl rfl dX7_most_56 ?_
      refine lv_aload_n hx hb dX7_most_59 rfl (lv_at hl 6 rfl) ?_
      refine k_get (D := (dC, dI)) (ci := 7) (v := .int 0) (C := RX7) (T := TX7) (N := 92) hx hb hts hinX7 hown hK hP 4 rfl rfl 13 (by decide) w_2 rfl rfl dX7_most_60 ?_
      refine k_iald (v := 0) hx hb hK hP 5 0 0 rfl rfl rfl (Nat.le_of_ble_eq_true rfl) (Nat.le_of_ble_eq_true rfl) rfl dX7_most_63 ?_
      refine lv_ishl hx hb dX7_most_64 ?_
      refine k_int (v := 1) (by decide +kernel) ?_
      refine lv_icmp_ge (tgt := 160) hx hb dX7_most_65 (by decide) (fun _ => ?_) (fun q9 => absurd q9 (by decide +kernel))
      refine lv_iinc (v := 7) (lv' := [(5, .int 7), (6, .int 1), (7, .int (-1)), (4, .int 0), (8, .int 0), (3, .int (-1)), (0, .ref p0), (1, .int 8), (2, .int p2)]) hx hb dX7_most_160 hl (k := 2) rfl (by decide +kernel) (by decide) rfl (fun ls hl => ?_)
      refine lv_goto (tgt := 43) hx hb dX7_most_163 (by decide) ?_
      refine lv_iload hx hb dX7_most_43 (lv_at hl 0 rfl) ?_
      refine lv_iload_n hx hb dX7_most_45 rfl (lv_at hl 7 rfl) ?_
      refine lv_icmp_gt (tgt := 166) hx hb dX7_most_46 (by decide) (fun q9 => absurd q9 (by decide +kernel)) (fun _ => ?_)
      refine lv_iconst (v := 0) hx hb dX7_most_49 (by decide +kernel) ?_
      refine lv_istore (lv' := [(6, .int 0), (5, .int 7), (7, .int (-1)), (4, .int 0), (8, .int 0), (3, .int (-1)), (0, .ref p0), (1, .int 8), (2, .int p2)]) hx hb dX7_most_50 hl (by decide) rfl (fun ls hl => ?_)
      refine lv_iload hx hb dX7_most_52 (lv_at hl 0 rfl) ?_
      refine lv_iconst (v := 1) hx hb dX7_most_54 (by decide +kernel) ?_
      refine lv_aload_n hx hb dX7_most_55 rfl (lv_at hl 6 rfl) ?_
      refine k_get (D := (dC, dI)) (ci := 7) (v := .ref (p3 14)) (C := RX7) (T := TX7) (N := 92) hx hb hts hinX7 hown hK hP 4 rfl rfl 14 (by decide) w_1 rfl rfl dX7_most_56 ?_
      refine lv_aload_n hx hb dX7_most_59 rfl (lv_at hl 6 rfl) ?_
      refine k_get (D := (dC, dI)) (ci := 7) (v := .int 0) (C := RX7) (T := TX7) (N := 92) hx hb hts hinX7 hown hK hP 4 rfl rfl 13 (by decide) w_2 rfl rfl dX7_most_60 ?_
      refine k_iald (v := 0) hx hb hK hP 5 0 0 rfl rfl rfl (Nat.le_of_ble_eq_true rfl) (Nat.le_of_ble_eq_true rfl) rfl dX7_most_63 ?_
      refine lv_ishl hx hb dX7_most_64 ?_
      refine k_int (v := 1) (by decide +kernel) ?_
      refine lv_icmp_ge (tgt := 160) hx hb dX7_most_65 (by decide) (fun q9 => absurd q9 (by decide +kernel)) (fun _ => ?_)
      refine lv_aload_n hx hb dX7_most_68 rfl (lv_at hl 6 rfl) ?_
      refine k_get (D := (dC, dI)) (ci := 7) (v := .ref (p3 72)) (C := RX7) (T := TX7) (N := 92) hx hb hts hinX7 hown hK hP 4 rfl rfl 72 (by decide) w_3 rfl rfl dX7_most_69 ?_
      refine lv_sipush (v := 1024) hx hb dX7_most_72 (by decide +kernel) ?_
      refine lv_iload hx hb dX7_most_75 (lv_at hl 1 rfl) ?_
      refine lv_imul hx hb dX7_most_77 ?_
      refine k_int (v := 7168) (by decide +kernel) ?_
      refine lv_iload hx hb dX7_most_78 (lv_at hl 0 rfl) ?_
      refine lv_iadd hx hb dX7_most_80 ?_
      refine k_int (v := 7168) (by decide +kernel) ?_
      refine k_iald (v := (-1)) hx hb hK hP 2 0 7168 rfl rfl rfl (Nat.le_of_ble_eq_true rfl) (Nat.le_of_ble_eq_true rfl) rfl dX7_most_81 ?_
      refine lv_istore (lv' := [(7, .int (-1)), (6, .int 0), (5, .int 7), (4, .int 0), (8, .int 0), (3, .int (-1)), (0, .ref p0), (1, .int 8), (2, .int p2)]) hx hb dX7_most_82 hl (by decide) rfl (fun ls hl => ?_)
      refine lv_iload hx hb dX7_most_84 (lv_at hl 0 rfl) ?_
      refine lv_iconst (v := (-1)) hx hb dX7_most_86 (by decide +kernel) ?_
      refine lv_icmp_ne (tgt := 93) hx hb dX7_most_87 (by decide) (fun q9 => absurd q9 (by decide +kernel)) (fun _ => ?_)
      refine lv_goto (tgt := 154) hx hb dX7_most_90 (by decide) ?_
      refine lv_iinc (v := 1) (lv' := [(6, .int 1), (7, .int (-1)), (5, .int 7), (4, .int 0), (8, .int 0), (3, .int (-1)), (0, .ref p0), (1, .int 8), (2, .int p2)]) hx hb dX7_most_154 hl (k := 1) rfl (by decide +kernel) (by decide) rfl (fun ls hl => ?_)
      refine lv_goto (tgt := 52) hx hb dX7_most_157 (by decide) ?_
      refine lv_iload hx hb dX7_most_52 (lv_at hl 0 rfl) ?_
      refine lv_iconst (v := 1) hx hb dX7_most_54 (by decide +kernel) ?_
      refine lv_aload_n hx hb dX7_most_55 rfl (lv_at hl 6 rfl) ?_
      refine k_get (D := (dC, dI)) (ci := 7) (v := .ref (p3 14)) (C := RX7) (T := TX7) (N := 92) hx hb hts hinX7 hown hK hP 4 rfl rfl 14 (by decide) w_1 rfl rfl dX7_most_56 ?_
      refine lv_aload_n hx hb dX7_most_59 rfl (lv_at hl 6 rfl) ?_
      refine k_get (D := (dC, dI)) (ci := 7) (v := .int 0) (C := RX7) (T := TX7) (N := 92) hx hb hts hinX7 hown hK hP 4 rfl rfl 13 (by decide) w_2 rfl rfl dX7_most_60 ?_
      refine k_iald (v := 0) hx hb hK hP 5 0 0 rfl rfl rfl (Nat.le_of_ble_eq_true rfl) (Nat.le_of_ble_eq_true rfl) rfl dX7_most_63 ?_
      refine lv_ishl hx hb dX7_most_64 ?_
      refine k_int (v := 1) (by decide +kernel) ?_
      refine lv_icmp_ge (tgt := 160) hx hb dX7_most_65 (by decide) (fun _ => ?_) (fun q9 => absurd q9 (by decide +kernel))
      refine lv_iinc (v := 8) (lv' := [(5, .int 8), (6, .int 1), (7, .int (-1)), (4, .int 0), (8, .int 0), (3, .int (-1)), (0, .ref p0), (1, .int 8), (2, .int p2)]) hx hb dX7_most_160 hl (k := 2) rfl (by decide +kernel) (by decide) rfl (fun ls hl => ?_)
      refine lv_goto (tgt := 43) hx hb dX7_most_163 (by decide) ?_
      refine lv_iload hx hb dX7_most_43 (lv_at hl 0 rfl) ?_
      refine lv_iload_n hx hb dX7_most_45 rfl (lv_at hl 7 rfl) ?_
      refine lv_icmp_gt (tgt := 166) hx hb dX7_most_46 (by decide) (fun q9 => absurd q9 (by decide +kernel)) (fun _ => ?_)
      refine lv_iconst (v := 0) hx hb dX7_most_49 (by decide +kernel) ?_
      refine lv_istore (lv' := [(6, .int 0), (5, .int 8), (7, .int (-1)), (4, .int 0), (8, .int 0), (3, .int (-1)), (0, .ref p0), (1, .int 8), (2, .int p2)]) hx hb dX7_most_50 hl (by decide) rfl (fun ls hl => ?_)
      refine lv_iload hx hb dX7_most_52 (lv_at hl 0 rfl) ?_
      refine lv_iconst (v := 1) hx hb dX7_most_54 (by decide +kernel) ?_
      refine lv_aload_n hx hb dX7_most_55 rfl (lv_at hl 6 rfl) ?_
      refine k_get (D := (dC, dI)) (ci := 7) (v := .ref (p3 14)) (C := RX7) (T := TX7) (N := 92) hx hb hts hinX7 hown hK hP 4 rfl rfl 14 (by decide) w_1 rfl rfl dX7_most_56 ?_
      refine lv_aload_n hx hb dX7_most_59 rfl (lv_at hl 6 rfl) ?_
      refine k_get (D := (dC, dI)) (ci := 7) (v := .int 0) (C := RX7) (T := TX7) (N := 92) hx hb hts hinX7 hown hK hP 4 rfl rfl 13 (by decide) w_2 rfl rfl dX7_most_60 ?_
      refine k_iald (v := 0) hx hb hK hP 5 0 0 rfl rfl rfl (Nat.le_of_ble_eq_true rfl) (Nat.le_of_ble_eq_true rfl) rfl dX7_most_63 ?_
      refine lv_ishl hx hb dX7_most_64 ?_
      refine k_int (v := 1) (by decide +kernel) ?_
      refine lv_icmp_ge (tgt := 160) hx hb dX7_most_65 (by decide) (fun q9 => absurd q9 (by decide +kernel)) (fun _ => ?_)
      refine lv_aload_n hx hb dX7_most_68 rfl (lv_at hl 6 rfl) ?_
      refine k_get (D := (dC, dI)) (ci := 7) (v := .ref (p3 72)) (C := RX7) (T := TX7) (N := 92) hx hb hts hinX7 hown hK hP 4 rfl rfl 72 (by decide) w_3 rfl rfl dX7_most_69 ?_
      refine lv_sipush (v := 1024) hx hb dX7_most_72 (by decide +kernel) ?_
      refine lv_iload hx hb dX7_most_75 (lv_at hl 1 rfl) ?_
      refine lv_imul hx hb dX7_most_77 ?_
      refine k_int (v := 8192) (by decide +kernel) ?_
      refine lv_iload hx hb dX7_most_78 (lv_at hl 0 rfl) ?_
      refine lv_iadd hx hb dX7_most_80 ?_
      refine k_int (v := 8192) (by decide +kernel) ?_
      refine k_iald (v := (-1)) hx hb hK hP 2 0 8192 rfl rfl rfl (Nat.le_of_ble_eq_true rfl) (Nat.le_of_ble_eq_true rfl) rfl dX7_most_81 ?_
      refine lv_istore (lv' := [(7, .int (-1)), (6, .int 0), (5, .int 8), (4, .int 0), (8, .int 0), (3, .int (-1)), (0, .ref p0), (1, .int 8), (2, .int p2)]) hx hb dX7_most_82 hl (by decide) rfl (fun ls hl => ?_)
      refine lv_iload hx hb dX7_most_84 (lv_at hl 0 rfl) ?_
      refine lv_iconst (v := (-1)) hx hb dX7_most_86 (by decide +kernel) ?_
      refine lv_icmp_ne (tgt := 93) hx hb dX7_most_87 (by decide) (fun q9 => absurd q9 (by decide +kernel)) (fun _ => ?_)
      refine lv_goto (tgt := 154) hx hb dX7_most_90 (by decide) ?_
      refine lv_iinc (v := 1) (lv' := [(6, .int 1), (7, .int (-1)), (5, .int 8), (4, .int 0), (8, .int 0), (3, .int (-1)), (0, .ref p0), (1, .int 8), (2, .int p2)]) hx hb dX7_most_154 hl (k := 1) rfl (by decide +kernel) (by decide) rfl (fun ls hl => ?_)
      refine lv_goto (tgt := 52) hx hb dX7_most_157 (by decide) ?_
      refine lv_iload hx hb dX7_most_52 (lv_at hl 0 rfl) ?_
      refine lv_iconst (v := 1) hx hb dX7_most_54 (by decide +kernel) ?_
      refine lv_aload_n hx hb dX7_most_55 rfl (lv_at hl 6 rfl) ?_
      refine k_get (D := (dC, dI)) (ci := 7) (v := .ref (p3 14)) (C := RX7) (T := TX7) (N := 92) hx hb hts hinX7 hown hK hP 4 rfl rfl 14 (by decide) w_1 rfl rfl dX7_most_56 ?_
      refine lv_aload_n hx hb dX7_most_59 rfl (lv_at hl 6 rfl) ?_
      refine k_get (D := (dC, dI)) (ci := 7) (v := .int 0) (C := RX7) (T := TX7) (N := 92) hx hb hts hinX7 hown hK hP 4 rfl rfl 13 (by decide) w_2 rfl rfl dX7_most_60 ?_
      refine k_iald (v := 0) hx hb hK hP 5 0 0 rfl rfl rfl (Nat.le_of_ble_eq_true rfl) (Nat.le_of_ble_eq_true rfl) rfl dX7_most_63 ?_
      refine lv_ishl hx hb dX7_most_64 ?_
      refine k_int (v := 1) (by decide +kernel) ?_
      refine lv_icmp_ge (tgt := 160) hx hb dX7_most_65 (by decide) (fun _ => ?_) (fun q9 => absurd q9 (by decide +kernel))
      refine lv_iinc (v := 9) (lv' := [(5, .int 9), (6, .int 1), (7, .int (-1)), (4, .int 0), (8, .int 0), (3, .int (-1)), (0, .ref p0), (1, .int 8), (2, .int p2)]) hx hb dX7_most_160 hl (k := 2) rfl (by decide +kernel) (by decide) rfl (fun ls hl => ?_)
      refine lv_goto (tgt := 43) hx hb dX7_most_163 (by decide) ?_
      refine lv_iload hx hb dX7_most_43 (lv_at hl 0 rfl) ?_
      refine lv_iload_n hx hb dX7_most_45 rfl (lv_at hl 7 rfl) ?_
      refine lv_icmp_gt (tgt := 166) hx hb dX7_most_46 (by decide) (fun _ => ?_) (fun q9 => absurd q9 (by decide +kernel))
      refine lv_iload_n hx hb dX7_most_166 rfl (lv_at hl 8 rfl) ?_
      refine lv_if_ne (tgt := 175) hx hb dX7_most_167 (by decide) (fun c_177 => ?_) (fun c_177 => ?_)
      · have c_177 : ¬ p2.toInt = 0 := k_eqF rfl (by decide +kernel) c_177
        refine lv_iload_n hx hb dX7_most_175 rfl (lv_at hl 8 rfl) ?_
        refine lv_iconst (v := 1) hx hb dX7_most_176 (by decide +kernel) ?_
        refine lv_icmp_ne (tgt := 187) hx hb dX7_most_177 (by decide) (fun c_178 => ?_) (fun c_178 => ?_)
        · have c_178 : ¬ p2.toInt = 1 := k_eqF rfl (by decide +kernel) c_178
          refine lv_iload_n hx hb dX7_most_187 rfl (lv_at hl 8 rfl) ?_
          refine lv_iconst (v := 2) hx hb dX7_most_188 (by decide +kernel) ?_
          refine lv_icmp_ne (tgt := 199) hx hb dX7_most_189 (by decide) (fun c_179 => ?_) (fun c_179 => ?_)
          · have c_179 : ¬ p2.toInt = 2 := k_eqF rfl (by decide +kernel) c_179
            refine lv_aload_n hx hb dX7_most_199 rfl (lv_at hl 6 rfl) ?_
            refine k_get (D := (dC, dI)) (ci := 7) (v := .int 0) (C := RX7) (T := TX7) (N := 92) hx hb hts hinX7 hown hK hP 4 rfl rfl 76 (by decide) w_4 rfl rfl dX7_most_200 ?_
            exact k_ri B hP hD hS dX7_most_203 (50, (fun _ => 0)) [4, 0, 1, 2, 5, 3] rfl rfl rfl (Nat.le_of_ble_eq_true rfl) (Nat.le_of_ble_eq_true rfl) ⟨c_1, c_169, c_170, c_177, c_178, c_179, rfl⟩
          · have c_179 : p2.toInt = 2 := k_eqT rfl (by decide +kernel) c_179
            refine lv_aload_n hx hb dX7_most_192 rfl (lv_at hl 6 rfl) ?_
            refine k_ci (wc := [(p0, .inr (7, oM p3 (upd (upd i7 75 0) 76 0) j7)), ((p3 72), .inl (cI, 9216, .inl (upd (fun _ => (-1)) 0 0)))]) (wr := [((p3 49), .inl (cI, 22, .inl (fun _ => 0))), ((p3 50), .inl (cI, 22, .inl (fun _ => 0))), ((p3 18), .inl (cI, 2, .inl (fun _ => 0))), ((p3 14), .inl (cI, 2, .inl (fun _ => 0)))]) (fun hPc hDc hFc => va_runV (As := []) (rest := []) ⟨hx, hb, hml, hown, hts⟩ (c_X7_foundSea_v0 l dC dI cI cJ cZ cM p0 p3 H.size) (cwV 0 hts gX7_most_X7_foundSea rfl rfl rfl (by decide +kernel) ⟨(Nat.le_of_ble_eq_true rfl), (Nat.le_of_ble_eq_true rfl)⟩) (k_pV hPc hDc hK hN hC hS hFc hP (q0 := 4) (ci := 7) rfl rfl) rfl rfl hl.1 rfl (lv_room (Nat.le_of_ble_eq_true rfl)) dX7_most_193 ⟨(Nat.le_of_ble_eq_true rfl), (Nat.le_of_ble_eq_true rfl)⟩) hP hD hS hA [4, 2] [0, 1, 3, 5] rfl rfl rfl rfl (by decide) (fun _ => rfl) 0 0 rfl rfl (fun r_180 u_181 H locs hw hP hD hS => ?_)
            obtain rfl : r_180 = 0 := hw
            have hP : va_P (dC, dI) vwCl [((p3 49), .inl (cI, 22, .inl (fun _ => 0))), ((p3 50), .inl (cI, 22, .inl (fun _ => 0))), ((p3 18), .inl (cI, 2, .inl (fun _ => 0))), ((p3 14), .inl (cI, 2, .inl (fun _ => 0))), (p0, .inr (7, oM p3 (upd (upd i7 75 0) 76 0) j7)), ((p3 72), .inl (cI, 9216, .inl (upd (fun _ => (-1)) 0 0)))] H := hP
            have hD : va_D A [((p3 49), .inl (cI, 22, .inl (fun _ => 0))), ((p3 50), .inl (cI, 22, .inl (fun _ => 0))), ((p3 18), .inl (cI, 2, .inl (fun _ => 0))), ((p3 14), .inl (cI, 2, .inl (fun _ => 0))), (p0, .inr (7, oM p3 (upd (upd i7 75 0) 76 0) j7)), ((p3 72), .inl (cI, 9216, .inl (upd (fun _ => (-1)) 0 0)))] := hD
            refine lv_goto (tgt := 203) hx hb dX7_most_196 (by decide) ?_
            exact k_ri B hP hD hS dX7_most_203 (51, (fun _ => 0)) [4, 0, 1, 5, 3, 2] rfl rfl rfl (Nat.le_of_ble_eq_true rfl) (Nat.le_of_ble_eq_true rfl) ⟨c_1, c_169, c_170, c_177, c_178, c_179, rfl⟩
        · have c_178 : p2.toInt = 1 := k_eqT rfl (by decide +kernel) c_178
          refine lv_aload_n hx hb dX7_most_180 rfl (lv_at hl 6 rfl) ?_
          refine k_get (D := (dC, dI)) (ci := 7) (v := .int 0) (C := RX7) (T := TX7) (N := 92) hx hb hts hinX7 hown hK hP 4 rfl rfl 75 (by decide) w_0 rfl rfl dX7_most_181 ?_
          refine lv_goto (tgt := 203) hx hb dX7_most_184 (by decide) ?_
          exact k_ri B hP hD hS dX7_most_203 (52, (fun _ => 0)) [4, 0, 1, 2, 5, 3] rfl rfl rfl (Nat.le_of_ble_eq_true rfl) (Nat.le_of_ble_eq_true rfl) ⟨c_1, c_169, c_170, c_177, c_178, rfl⟩
      · have c_177 : p2.toInt = 0 := k_eqT rfl (by decide +kernel) c_177
        refine lv_iload hx hb dX7_most_170 (lv_at hl 3 rfl) ?_
        refine lv_goto (tgt := 203) hx hb dX7_most_172 (by decide) ?_
        exact k_ri B hP hD hS dX7_most_203 (53, (fun _ => 0)) [4, 0, 1, 2, 5, 3] rfl rfl rfl (Nat.le_of_ble_eq_true rfl) (Nat.le_of_ble_eq_true rfl) ⟨c_1, c_169, c_170, c_177, rfl⟩
    · exact False.elim hw
