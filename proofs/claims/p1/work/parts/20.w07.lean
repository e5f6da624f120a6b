set_option maxHeartbeats 4000000 in
set_option maxRecDepth 100000 in
theorem c_X6_ladder_v0 (l : Launch) (dC : Nat → ClassId) (dI : Nat → Nat → Nat) (cI cJ cZ cM : ClassId) (p0 : Nat) (p1 : Int32) (p2 : Nat → Nat)   : k_Mi l yX6_ladder wsX6_ladder ({ frames := 6, cells := 4, slots := 9230, locals := 154 }) (dC, dI) vwCl (tyy cI cJ cZ cM) [(p0, .inr (6, [.ref (p2 0), .int 0, .ref (p2 1), .ref (p2 14), .ref (p2 27), .ref (p2 28), .ref (p2 29), .ref (p2 30), .ref (p2 54), .null, .int 1, .int 1, .int 999, .ref (p2 61), .ref (p2 62), .ref (p2 63), .ref (p2 60)])), ((p2 28), .inr (0, [.int 0, .int 0, .int 0, .int 0])), ((p2 1), .inr (5, [.ref (p2 2), .ref (p2 3), .ref (p2 4), .ref (p2 5), .ref (p2 6), .ref (p2 7), .ref (p2 8), .ref (p2 9), .ref (p2 10), .ref (p2 11), .ref (p2 12), .ref (p2 13), .int 0, .int 0, .int 0, .int 0, .int 0, .int 100, .int 0, .int 0])), ((p2 12), .inl (cI, 3, .inl (fun _ => 0))), ((p2 11), .inl (cI, 3, .inl (fun _ => 0)))] [.ref p0, .int p1] 4 9230 (fun (u9 : (Nat × (Nat → Nat))) => match u9.1 with | 0 => [(p0, .inr (6, [.ref (p2 0), .int 0, .ref (p2 1), .ref (p2 14), .ref (p2 27), .ref (p2 28), .ref (p2 29), .ref (p2 30), .ref (p2 54), .null, .int 1, .int 1, .int 999, .ref (p2 61), .ref (p2 62), .ref (p2 63), .ref (p2 60)])), ((p2 28), .inr (0, [.int 0, .int 0, .int 0, .int 0])), ((p2 1), .inr (5, [.ref (p2 2), .ref (p2 3), .ref (p2 4), .ref (p2 5), .ref (p2 6), .ref (p2 7), .ref (p2 8), .ref (p2 9), .ref (p2 10), .ref (p2 11), .ref (p2 12), .ref (p2 13), .int 0, .int 0, .int 0, .int 0, .int 0, .int 100, .int 0, .int 0])), ((p2 12), .inl (cI, 3, .inl (fun _ => 0))), ((p2 11), .inl (cI, 3, .inl (fun _ => 0)))] | 1 => [(p0, .inr (6, [.ref (p2 0), .int 0, .ref (p2 1), .ref (p2 14), .ref (p2 27), .ref (p2 28), .ref (p2 29), .ref (p2 30), .ref (p2 54), .ref (u9.2 2), .int 1, .int 1, .int 999, .ref (p2 61), .ref (p2 62), .ref (p2 63), .ref (p2 60)])), ((p2 28), .inr (0, [.int 0, .int 0, .int 0, .int 0])), ((p2 1), .inr (5, [.ref (p2 2), .ref (p2 3), .ref (p2 4), .ref (p2 5), .ref (p2 6), .ref (p2 7), .ref (p2 8), .ref (p2 9), .ref (p2 10), .ref (p2 11), .ref (p2 12), .ref (p2 13), .int 0, .int 0, .int 0, .int 0, .int 0, .int 100, .int 0, .int 0])), ((p2 12), .inl (cI, 3, .inl (fun _ => 0))), ((p2 11), .inl (cI, 3, .inl (fun _ => 0))), ((u9.2 0), .inr (0, [.int 0, .int 0, .int 0, .int 0])), ((u9.2 1), .inr (0, [.int 0, .int 0, .int 0, .int 0])), ((u9.2 2), .inr (4, [.ref (u9.2 3), .ref (u9.2 0), .ref (u9.2 1), .ref (p2 1), .int 1, .int 1])), ((u9.2 3), .inl (cI, 9216, .inl (upd (fun k => if 0 ≤ k ∧ k < 9 then 2147483647 else 0) 0 0)))] | 2 => [(p0, .inr (6, [.ref (p2 0), .int 0, .ref (p2 1), .ref (p2 14), .ref (p2 27), .ref (p2 28), .ref (p2 29), .ref (p2 30), .ref (p2 54), .ref (u9.2 2), .int 1, .int 1, .int 999, .ref (p2 61), .ref (p2 62), .ref (p2 63), .ref (p2 60)])), ((p2 28), .inr (0, [.int 0, .int 0, .int 0, .int 0])), ((p2 1), .inr (5, [.ref (p2 2), .ref (p2 3), .ref (p2 4), .ref (p2 5), .ref (p2 6), .ref (p2 7), .ref (p2 8), .ref (p2 9), .ref (p2 10), .ref (p2 11), .ref (p2 12), .ref (p2 13), .int 0, .int 0, .int 0, .int 0, .int 0, .int 100, .int 0, .int 0])), ((p2 12), .inl (cI, 3, .inl (fun _ => 0))), ((p2 11), .inl (cI, 3, .inl (fun _ => 0))), ((u9.2 0), .inr (0, [.int 0, .int 0, .int 0, .int 0])), ((u9.2 1), .inr (0, [.int 0, .int 0, .int 0, .int 0])), ((u9.2 2), .inr (4, [.ref (u9.2 3), .ref (u9.2 0), .ref (u9.2 1), .ref (p2 1), .int 1, .int 1])), ((u9.2 3), .inl (cI, 9216, .inl (upd (fun k => if 0 ≤ k ∧ k < 9 then 2147483647 else 0) 0 0)))] | 3 => [(p0, .inr (6, [.ref (p2 0), .int 0, .ref (p2 1), .ref (p2 14), .ref (p2 27), .ref (p2 28), .ref (p2 29), .ref (p2 30), .ref (p2 54), .ref (u9.2 2), .int 1, .int 1, .int 999, .ref (p2 61), .ref (p2 62), .ref (p2 63), .ref (p2 60)])), ((p2 28), .inr (0, [.int 0, .int 0, .int 0, .int 0])), ((p2 1), .inr (5, [.ref (p2 2), .ref (p2 3), .ref (p2 4), .ref (p2 5), .ref (p2 6), .ref (p2 7), .ref (p2 8), .ref (p2 9), .ref (p2 10), .ref (p2 11), .ref (p2 12), .ref (p2 13), .int 0, .int 0, .int 0, .int 0, .int 0, .int 100, .int 0, .int 0])), ((p2 12), .inl (cI, 3, .inl (fun _ => 0))), ((p2 11), .inl (cI, 3, .inl (fun _ => 0))), ((u9.2 0), .inr (0, [.int 0, .int 0, .int 0, .int 0])), ((u9.2 1), .inr (0, [.int 0, .int 0, .int 0, .int 0])), ((u9.2 2), .inr (4, [.ref (u9.2 3), .ref (u9.2 0), .ref (u9.2 1), .ref (p2 1), .int 1, .int 1])), ((u9.2 3), .inl (cI, 9216, .inl (upd (fun k => if 0 ≤ k ∧ k < 9 then 2147483647 else 0) 0 0)))] | 4 => [(p0, .inr (6, [.ref (p2 0), .int 0, .ref (p2 1), .ref (p2 14), .ref (p2 27), .ref (p2 28), .ref (p2 29), .ref (p2 30), .ref (p2 54), .ref (u9.2 2), .int 1, .int 1, .int 999, .ref (p2 61), .ref (p2 62), .ref (p2 63), .ref (p2 60)])), ((p2 28), .inr (0, [.int 0, .int 0, .int 0, .int 0])), ((p2 1), .inr (5, [.ref (p2 2), .ref (p2 3), .ref (p2 4), .ref (p2 5), .ref (p2 6), .ref (p2 7), .ref (p2 8), .ref (p2 9), .ref (p2 10), .ref (p2 11), .ref (p2 12), .ref (p2 13), .int 0, .int 0, .int 0, .int 0, .int 0, .int 100, .int 0, .int 0])), ((p2 12), .inl (cI, 3, .inl (fun _ => 0))), ((p2 11), .inl (cI, 3, .inl (fun _ => 0))), ((u9.2 0), .inr (0, [.int 0, .int 0, .int 0, .int 0])), ((u9.2 1), .inr (0, [.int 0, .int 0, .int 0, .int 0])), ((u9.2 2), .inr (4, [.ref (u9.2 3), .ref (u9.2 0), .ref (u9.2 1), .ref (p2 1), .int 1, .int 1])), ((u9.2 3), .inl (cI, 9216, .inl (upd (fun k => if 0 ≤ k ∧ k < 9 then 2147483647 else 0) 0 0)))] | 5 => [(p0, .inr (6, [.ref (p2 0), .int 0, .ref (p2 1), .ref (p2 14), .ref (p2 27), .ref (p2 28), .ref (p2 29), .ref (p2 30), .ref (p2 54), .ref (u9.2 2), .int 1, .int 1, .int 999, .ref (p2 61), .ref (p2 62), .ref (p2 63), .ref (p2 60)])), ((p2 28), .inr (0, [.int 0, .int 0, .int 0, .int 0])), ((p2 1), .inr (5, [.ref (p2 2), .ref (p2 3), .ref (p2 4), .ref (p2 5), .ref (p2 6), .ref (p2 7), .ref (p2 8), .ref (p2 9), .ref (p2 10), .ref (p2 11), .ref (p2 12), .ref (p2 13), .int 0, .int 0, .int 0, .int 0, .int 0, .int 100, .int 0, .int 0])), ((p2 12), .inl (cI, 3, .inl (fun _ => 0))), ((p2 11), .inl (cI, 3, .inl (fun _ => 0))), ((u9.2 0), .inr (0, [.int 0, .int 0, .int 0, .int 0])), ((u9.2 1), .inr (0, [.int 0, .int 0, .int 0, .int 0])), ((u9.2 2), .inr (4, [.ref (u9.2 3), .ref (u9.2 0), .ref (u9.2 1), .ref (p2 1), .int 1, .int 1])), ((u9.2 3), .inl (cI, 9216, .inl (upd (fun k => if 0 ≤ k ∧ k < 9 then 2147483647 else 0) 0 0)))] | 6 => [(p0, .inr (6, [.ref (p2 0), .int 0, .ref (p2 1), .ref (p2 14), .ref (p2 27), .ref (p2 28), .ref (p2 29), .ref (p2 30), .ref (p2 54), .ref (u9.2 2), .int 1, .int 1, .int 999, .ref (p2 61), .ref (p2 62), .ref (p2 63), .ref (p2 60)])), ((p2 28), .inr (0, [.int 0, .int 0, .int 0, .int 0])), ((p2 1), .inr (5, [.ref (p2 2), .ref (p2 3), .ref (p2 4), .ref (p2 5), .ref (p2 6), .ref (p2 7), .ref (p2 8), .ref (p2 9), .ref (p2 10), .ref (p2 11), .ref (p2 12), .ref (p2 13), .int 0, .int 0, .int 0, .int 0, .int 0, .int 100, .int 0, .int 0])), ((p2 12), .inl (cI, 3, .inl (fun _ => 0))), ((p2 11), .inl (cI, 3, .inl (fun _ => 0))), ((u9.2 0), .inr (0, [.int 0, .int 0, .int 0, .int 0])), ((u9.2 1), .inr (0, [.int 0, .int 0, .int 0, .int 0])), ((u9.2 2), .inr (4, [.ref (u9.2 3), .ref (u9.2 0), .ref (u9.2 1), .ref (p2 1), .int 1, .int 1])), ((u9.2 3), .inl (cI, 9216, .inl (upd (fun k => if 0 ≤ k ∧ k < 9 then 2147483647 else 0) 0 0)))] | 7 => [(p0, .inr (6, [.ref (p2 0), .int 0, .ref (p2 1), .ref (p2 14), .ref (p2 27), .ref (p2 28), .ref (p2 29), .ref (p2 30), .ref (p2 54), .ref (u9.2 2), .int 1, .int 1, .int 999, .ref (p2 61), .ref (p2 62), .ref (p2 63), .ref (p2 60)])), ((p2 28), .inr (0, [.int 0, .int 0, .int 0, .int 0])), ((p2 1), .inr (5, [.ref (p2 2), .ref (p2 3), .ref (p2 4), .ref (p2 5), .ref (p2 6), .ref (p2 7), .ref (p2 8), .ref (p2 9), .ref (p2 10), .ref (p2 11), .ref (p2 12), .ref (p2 13), .int 0, .int 0, .int 0, .int 0, .int 0, .int 100, .int 0, .int 0])), ((p2 12), .inl (cI, 3, .inl (fun _ => 0))), ((p2 11), .inl (cI, 3, .inl (fun _ => 0))), ((u9.2 0), .inr (0, [.int 0, .int 0, .int 0, .int 0])), ((u9.2 1), .inr (0, [.int 0, .int 0, .int 0, .int 0])), ((u9.2 2), .inr (4, [.ref (u9.2 3), .ref (u9.2 0), .ref (u9.2 1), .ref (p2 1), .int 1, .int 1])), ((u9.2 3), .inl (cI, 9216, .inl (upd (fun k => if 0 ≤ k ∧ k < 9 then 2147483647 else 0) 0 0)))] | 8 => [(p0, .inr (6, [.ref (p2 0), .int 0, .ref (p2 1), .ref (p2 14), .ref (p2 27), .ref (p2 28), .ref (p2 29), .ref (p2 30), .ref (p2 54), .ref (u9.2 2), .int 1, .int 1, .int 999, .ref (p2 61), .ref (p2 62), .ref (p2 63), .ref (p2 60)])), ((p2 28), .inr (0, [.int 0, .int 0, .int 0, .int 0])), ((p2 1), .inr (5, [.ref (p2 2), .ref (p2 3), .ref (p2 4), .ref (p2 5), .ref (p2 6), .ref (p2 7), .ref (p2 8), .ref (p2 9), .ref (p2 10), .ref (p2 11), .ref (p2 12), .ref (p2 13), .int 0, .int 0, .int 0, .int 0, .int 0, .int 100, .int 0, .int 0])), ((p2 12), .inl (cI, 3, .inl (fun _ => 0))), ((p2 11), .inl (cI, 3, .inl (fun _ => 0))), ((u9.2 0), .inr (0, [.int 0, .int 0, .int 0, .int 0])), ((u9.2 1), .inr (0, [.int 0, .int 0, .int 0, .int 0])), ((u9.2 2), .inr (4, [.ref (u9.2 3), .ref (u9.2 0), .ref (u9.2 1), .ref (p2 1), .int 1, .int 1])), ((u9.2 3), .inl (cI, 9216, .inl (upd (fun k => if 0 ≤ k ∧ k < 9 then 2147483647 else 0) 0 0)))] | 9 => [(p0, .inr (6, [.ref (p2 0), .int 0, .ref (p2 1), .ref (p2 14), .ref (p2 27), .ref (p2 28), .ref (p2 29), .ref (p2 30), .ref (p2 54), .ref (u9.2 2), .int 1, .int 1, .int 999, .ref (p2 61), .ref (p2 62), .ref (p2 63), .ref (p2 60)])), ((p2 28), .inr (0, [.int 0, .int 0, .int 0, .int 0])), ((p2 1), .inr (5, [.ref (p2 2), .ref (p2 3), .ref (p2 4), .ref (p2 5), .ref (p2 6), .ref (p2 7), .ref (p2 8), .ref (p2 9), .ref (p2 10), .ref (p2 11), .ref (p2 12), .ref (p2 13), .int 0, .int 0, .int 0, .int 0, .int 0, .int 100, .int 0, .int 0])), ((p2 12), .inl (cI, 3, .inl (fun _ => 0))), ((p2 11), .inl (cI, 3, .inl (fun _ => 0))), ((u9.2 0), .inr (0, [.int 0, .int 0, .int 0, .int 0])), ((u9.2 1), .inr (0, [.int 0, .int 0, .int 0, .int 0])), ((u9.2 2), .inr (4, [.ref (u9.2 3), .ref (u9.2 0), .ref (u9.2 1), .ref (p2 1), .int 1, .int 1])), ((u9.2 3), .inl (cI, 9216, .inl (upd (fun k => if 0 ≤ k ∧ k < 9 then 2147483647 else 0) 0 0)))] | 10 => [(p0, .inr (6, [.ref (p2 0), .int 0, .ref (p2 1), .ref (p2 14), .ref (p2 27), .ref (p2 28), .ref (p2 29), .ref (p2 30), .ref (p2 54), .null, .int 1, .int 1, .int 999, .ref (p2 61), .ref (p2 62), .ref (p2 63), .ref (p2 60)])), ((p2 28), .inr (0, [.int 0, .int 0, .int 0, .int 0])), ((p2 1), .inr (5, [.ref (p2 2), .ref (p2 3), .ref (p2 4), .ref (p2 5), .ref (p2 6), .ref (p2 7), .ref (p2 8), .ref (p2 9), .ref (p2 10), .ref (p2 11), .ref (p2 12), .ref (p2 13), .int 0, .int 0, .int 0, .int 0, .int 0, .int 100, .int 0, .int 0])), ((p2 12), .inl (cI, 3, .inl (fun _ => 0))), ((p2 11), .inl (cI, 3, .inl (fun _ => 0)))] | _ => []) (fun (r9 : Int32) (u9 : (Nat × (Nat → Nat))) => match u9.1 with | 0 => (p1.toInt < 0) ∧ r9 = (-1) | 1 => (0 ≤ p1.toInt) ∧ (p1.toInt ≤ 8) ∧ (p1.toInt = 0) ∧ r9 = 1 | 2 => (0 ≤ p1.toInt) ∧ (p1.toInt ≤ 8) ∧ (p1.toInt = 1) ∧ r9 = 0 | 3 => (0 ≤ p1.toInt) ∧ (p1.toInt ≤ 8) ∧ (p1.toInt = 2) ∧ r9 = 0 | 4 => (0 ≤ p1.toInt) ∧ (p1.toInt ≤ 8) ∧ (p1.toInt = 3) ∧ r9 = 0 | 5 => (0 ≤ p1.toInt) ∧ (p1.toInt ≤ 8) ∧ (p1.toInt = 4) ∧ r9 = 0 | 6 => (0 ≤ p1.toInt) ∧ (p1.toInt ≤ 8) ∧ (p1.toInt = 5) ∧ r9 = 0 | 7 => (0 ≤ p1.toInt) ∧ (p1.toInt ≤ 8) ∧ (p1.toInt = 6) ∧ r9 = 0 | 8 => (0 ≤ p1.toInt) ∧ (p1.toInt ≤ 8) ∧ (p1.toInt = 7) ∧ r9 = 0 | 9 => (0 ≤ p1.toInt) ∧ (p1.toInt ≤ 8) ∧ (p1.toInt = 8) ∧ r9 = 0 | 10 => (0 ≤ p1.toInt) ∧ (8 < p1.toInt) ∧ r9 = (-1) | _ => False) := by
  refine fun sz => k_enter (cc := cX6_ladder) (maxL := 2) (ret := some (.int)) (Qc := fun A => va_Qi (fun (r9 : Int32) (u9 : (Nat × (Nat → Nat))) => match u9.1 with | 0 => (p1.toInt < 0) ∧ r9 = (-1) | 1 => (0 ≤ p1.toInt) ∧ (p1.toInt ≤ 8) ∧ (p1.toInt = 0) ∧ r9 = 1 | 2 => (0 ≤ p1.toInt) ∧ (p1.toInt ≤ 8) ∧ (p1.toInt = 1) ∧ r9 = 0 | 3 => (0 ≤ p1.toInt) ∧ (p1.toInt ≤ 8) ∧ (p1.toInt = 2) ∧ r9 = 0 | 4 => (0 ≤ p1.toInt) ∧ (p1.toInt ≤ 8) ∧ (p1.toInt = 3) ∧ r9 = 0 | 5 => (0 ≤ p1.toInt) ∧ (p1.toInt ≤ 8) ∧ (p1.toInt = 4) ∧ r9 = 0 | 6 => (0 ≤ p1.toInt) ∧ (p1.toInt ≤ 8) ∧ (p1.toInt = 5) ∧ r9 = 0 | 7 => (0 ≤ p1.toInt) ∧ (p1.toInt ≤ 8) ∧ (p1.toInt = 6) ∧ r9 = 0 | 8 => (0 ≤ p1.toInt) ∧ (p1.toInt ≤ 8) ∧ (p1.toInt = 7) ∧ r9 = 0 | 9 => (0 ≤ p1.toInt) ∧ (p1.toInt ≤ 8) ∧ (p1.toInt = 8) ∧ r9 = 0 | 10 => (0 ≤ p1.toInt) ∧ (8 < p1.toInt) ∧ r9 = (-1) | _ => False) (fun u => k_B (dC, dI) vwCl (tyy cI cJ cZ cM) A ((fun (u9 : (Nat × (Nat → Nat))) => match u9.1 with | 0 => [(p0, .inr (6, [.ref (p2 0), .int 0, .ref (p2 1), .ref (p2 14), .ref (p2 27), .ref (p2 28), .ref (p2 29), .ref (p2 30), .ref (p2 54), .null, .int 1, .int 1, .int 999, .ref (p2 61), .ref (p2 62), .ref (p2 63), .ref (p2 60)])), ((p2 28), .inr (0, [.int 0, .int 0, .int 0, .int 0])), ((p2 1), .inr (5, [.ref (p2 2), .ref (p2 3), .ref (p2 4), .ref (p2 5), .ref (p2 6), .ref (p2 7), .ref (p2 8), .ref (p2 9), .ref (p2 10), .ref (p2 11), .ref (p2 12), .ref (p2 13), .int 0, .int 0, .int 0, .int 0, .int 0, .int 100, .int 0, .int 0])), ((p2 12), .inl (cI, 3, .inl (fun _ => 0))), ((p2 11), .inl (cI, 3, .inl (fun _ => 0)))] | 1 => [(p0, .inr (6, [.ref (p2 0), .int 0, .ref (p2 1), .ref (p2 14), .ref (p2 27), .ref (p2 28), .ref (p2 29), .ref (p2 30), .ref (p2 54), .ref (u9.2 2), .int 1, .int 1, .int 999, .ref (p2 61), .ref (p2 62), .ref (p2 63), .ref (p2 60)])), ((p2 28), .inr (0, [.int 0, .int 0, .int 0, .int 0])), ((p2 1), .inr (5, [.ref (p2 2), .ref (p2 3), .ref (p2 4), .ref (p2 5), .ref (p2 6), .ref (p2 7), .ref (p2 8), .ref (p2 9), .ref (p2 10), .ref (p2 11), .ref (p2 12), .ref (p2 13), .int 0, .int 0, .int 0, .int 0, .int 0, .int 100, .int 0, .int 0])), ((p2 12), .inl (cI, 3, .inl (fun _ => 0))), ((p2 11), .inl (cI, 3, .inl (fun _ => 0))), ((u9.2 0), .inr (0, [.int 0, .int 0, .int 0, .int 0])), ((u9.2 1), .inr (0, [.int 0, .int 0, .int 0, .int 0])), ((u9.2 2), .inr (4, [.ref (u9.2 3), .ref (u9.2 0), .ref (u9.2 1), .ref (p2 1), .int 1, .int 1])), ((u9.2 3), .inl (cI, 9216, .inl (upd (fun k => if 0 ≤ k ∧ k < 9 then 2147483647 else 0) 0 0)))] | 2 => [(p0, .inr (6, [.ref (p2 0), .int 0, .ref (p2 1), .ref (p2 14), .ref (p2 27), .ref (p2 28), .ref (p2 29), .ref (p2 30), .ref (p2 54), .ref (u9.2 2), .int 1, .int 1, .int 999, .ref (p2 61), .ref (p2 62), .ref (p2 63), .ref (p2 60)])), ((p2 28), .inr (0, [.int 0, .int 0, .int 0, .int 0])), ((p2 1), .inr (5, [.ref (p2 2), .ref (p2 3), .ref (p2 4), .ref (p2 5), .ref (p2 6), .ref (p2 7), .ref (p2 8), .ref (p2 9), .ref (p2 10), .ref (p2 11), .ref (p2 12), .ref (p2 13), .int 0, .int 0, .int 0, .int 0, .int 0, .int 100, .int 0, .int 0])), ((p2 12), .inl (cI, 3, .inl (fun _ => 0))), ((p2 11), .inl (cI, 3, .inl (fun _ => 0))), ((u9.2 0), .inr (0, [.int 0, .int 0, .int 0, .int 0])), ((u9.2 1), .inr (0, [.int 0, .int 0, .int 0, .int 0])), ((u9.2 2), .inr (4, [.ref (u9.2 3), .ref (u9.2 0), .ref (u9.2 1), .ref (p2 1), .int 1, .int 1])), ((u9.2 3), .inl (cI, 9216, .inl (upd (fun k => if 0 ≤ k ∧ k < 9 then 2147483647 else 0) 0 0)))] | 3 => [(p0, .inr (6, [.ref (p2 0), .int 0, .ref (p2 1), .ref (p2 14), .ref (p2 27), .ref (p2 28), .ref (p2 29), .ref (p2 30), .ref (p2 54), .ref (u9.2 2), .int 1, .int 1, .int 999, .ref (p2 61), .ref (p2 62), .ref (p2 63), .ref (p2 60)])), ((p2 28), .inr (0, [.int 0, .int 0, .int 0, .int 0])), ((p2 1), .inr (5, [.ref (p2 2), .ref (p2 3), .ref (p2 4), .ref (p2 5), .ref (p2 6), .ref (p2 7), .ref (p2 8), .ref (p2 9), .ref (p2 10), .ref (p2 11), .ref (p2 12), .ref (p2 13), .int 0, .int 0, .int 0, .int 0, .int 0, .int 100, .int 0, .int 0])), ((p2 12), .inl (cI, 3, .inl (fun _ => 0))), ((p2 11), .inl (cI, 3, .inl (fun _ => 0))), ((u9.2 0), .inr (0, [.int 0, .int 0, .int 0, .int 0])), ((u9.2 1), .inr (0, [.int 0, .int 0, .int 0, .int 0])), ((u9.2 2), .inr (4, [.ref (u9.2 3), .ref (u9.2 0), .ref (u9.2 1), .ref (p2 1), .int 1, .int 1])), ((u9.2 3), .inl (cI, 9216, .inl (upd (fun k => if 0 ≤ k ∧ k < 9 then 2147483647 else 0) 0 0)))] | 4 => [(p0, .inr (6, [.ref (p2 0), .int 0, .ref (p2 1), .ref (p2 14), .ref (p2 27), .ref (p2 28), .ref (p2 29), .ref (p2 30), .ref (p2 54), .ref (u9.2 2), .int 1, .int 1, .int 999, .ref (p2 61), .ref (p2 62), .ref (p2 63), .ref (p2 60)])), ((p2 28), .inr (0, [.int 0, .int 0, .int 0, .int 0])), ((p2 1), .inr (5, [.ref (p2 2), .ref (p2 3), .ref (p2 4), .ref (p2 5), .ref (p2 6), .ref (p2 7), .ref (p2 8), .ref (p2 9), .ref (p2 10), .ref (p2 11), .ref (p2 12), .ref (p2 13), .int 0, .int 0, .int 0, .int 0, .int 0, .int 100, .int 0, .int 0])), ((p2 12), .inl (cI, 3, .inl (fun _ => 0))), ((p2 11), .inl (cI, 3, .inl (fun _ => 0))), ((u9.2 0), .inr (0, [.int 0, .int 0, .int 0, .int 0])), ((u9.2 1), .inr (0, [.int 0, .int 0, .int 0, .int 0])), ((u9.2 2), .inr (4, [.ref (u9.2 3), .ref (u9.2 0), .ref (u9.2 1), .ref (p2 1), .int 1, .int 1])), ((u9.2 3), .inl (cI, 9216, .inl (upd (fun k => if 0 ≤ k ∧ k < 9 then 2147483647 else 0) 0 0)))] | 5 => [(p0, .inr (6, [.ref (p2 0), .int 0, .ref (p2 1), .ref (p2 14), .ref (p2 27), .ref (p2 28), .ref (p2 29), .ref (p2 30), .ref (p2 54), .ref (u9.2 2), .int 1, .int 1, .int 999, .ref (p2 61), .ref (p2 62), .ref (p2 63), .ref (p2 60)])), ((p2 28), .inr (0, [.int 0, .int 0, .int 0, .int 0])), ((p2 1), .inr (5, [.ref (p2 2), .ref (p2 3), .ref (p2 4), .ref (p2 5), .ref (p2 6), .ref (p2 7), .ref (p2 8), .ref (p2 9), .ref (p2 10), .ref (p2 11), .ref (p2 12), .ref (p2 13), .int 0, .int 0, .int 0, .int 0, .int 0, .int 100, .int 0, .int 0])), ((p2 12), .inl (cI, 3, .inl (fun _ => 0))), ((p2 11), .inl (cI, 3, .inl (fun _ => 0))), ((u9.2 0), .inr (0, [.int 0, .int 0, .int 0, .int 0])), ((u9.2 1), .inr (0, [.int 0, .int 0, .int 0, .int 0])), ((u9.2 2), .inr (4, [.ref (u9.2 3), .ref (u9.2 0), .ref (u9.2 1), .ref (p2 1), .int 1, .int 1])), ((u9.2 3), .inl (cI, 9216, .inl (upd (fun k => if 0 ≤ k ∧ k < 9 then 2147483647 else 0) 0 0)))] | 6 => [(p0, .inr (6, [.ref (p2 0), .int 0, .ref (p2 1), .ref (p2 14), .ref (p2 27), .ref (p2 28), .ref (p2 29), .ref (p2 30), .ref (p2 54), .ref (u9.2 2), .int 1, .int 1, .int 999, .ref (p2 61), .ref (p2 62), .ref (p2 63), .ref (p2 60)])), ((p2 28), .inr (0, [.int 0, .int 0, .int 0, .int 0])), ((p2 1), .inr (5, [.ref (p2 2), .ref (p2 3), .ref (p2 4), .ref (p2 5), .ref (p2 6), .ref (p2 7), .ref (p2 8), .ref (p2 9), .ref (p2 10), .ref (p2 11), .ref (p2 12), .ref (p2 13), .int 0, .int 0, .int 0, .int 0, .int 0, .int 100, .int 0, .int 0])), ((p2 12), .inl (cI, 3, .inl (fun _ => 0))), ((p2 11), .inl (cI, 3, .inl (fun _ => 0))), ((u9.2 0), .inr (0, [.int 0, .int 0, .int 0, .int 0])), ((u9.2 1), .inr (0, [.int 0, .int 0, .int 0, .int 0])), ((u9.2 2), .inr (4, [.ref (u9.2 3), .ref (u9.2 0), .ref (u9.2 1), .ref (p2 1), .int 1, .int 1])), ((u9.2 3), .inl (cI, 9216, .inl (upd (fun k => if 0 ≤ k ∧ k < 9 then 2147483647 else 0) 0 0)))] | 7 => [(p0, .inr (6, [.ref (p2 0), .int 0, .ref (p2 1), .ref (p2 14), .ref (p2 27), .ref (p2 28), .ref (p2 29), .ref (p2 30), .ref (p2 54), .ref (u9.2 2), .int 1, .int 1, .int 999, .ref (p2 61), .ref (p2 62), .ref (p2 63), .ref (p2 60)])), ((p2 28), .inr (0, [.int 0, .int 0, .int 0, .int 0])), ((p2 1), .inr (5, [.ref (p2 2), .ref (p2 3), .ref (p2 4), .ref (p2 5), .ref (p2 6), .ref (p2 7), .ref (p2 8), .ref (p2 9), .ref (p2 10), .ref (p2 11), .ref (p2 12), .ref (p2 13), .int 0, .int 0, .int 0, .int 0, .int 0, .int 100, .int 0, .int 0])), ((p2 12), .inl (cI, 3, .inl (fun _ => 0))), ((p2 11), .inl (cI, 3, .inl (fun _ => 0))), ((u9.2 0), .inr (0, [.int 0, .int 0, .int 0, .int 0])), ((u9.2 1), .inr (0, [.int 0, .int 0, .int 0, .int 0])), ((u9.2 2), .inr (4, [.ref (u9.2 3), .ref (u9.2 0), .ref (u9.2 1), .ref (p2 1), .int 1, .int 1])), ((u9.2 3), .inl (cI, 9216, .inl (upd (fun k => if 0 ≤ k ∧ k < 9 then 2147483647 else 0) 0 0)))] | 8 => [(p0, .inr (6, [.ref (p2 0), .int 0, .ref (p2 1), .ref (p2 14), .ref (p2 27), .ref (p2 28), .ref (p2 29), .ref (p2 30), .ref (p2 54), .ref (u9.2 2), .int 1, .int 1, .int 999, .ref (p2 61), .ref (p2 62), .ref (p2 63), .ref (p2 60)])), ((p2 28), .inr (0, [.int 0, .int 0, .int 0, .int 0])), ((p2 1), .inr (5, [.ref (p2 2), .ref (p2 3), .ref (p2 4), .ref (p2 5), .ref (p2 6), .ref (p2 7), .ref (p2 8), .ref (p2 9), .ref (p2 10), .ref (p2 11), .ref (p2 12), .ref (p2 13), .int 0, .int 0, .int 0, .int 0, .int 0, .int 100, .int 0, .int 0])), ((p2 12), .inl (cI, 3, .inl (fun _ => 0))), ((p2 11), .inl (cI, 3, .inl (fun _ => 0))), ((u9.2 0), .inr (0, [.int 0, .int 0, .int 0, .int 0])), ((u9.2 1), .inr (0, [.int 0, .int 0, .int 0, .int 0])), ((u9.2 2), .inr (4, [.ref (u9.2 3), .ref (u9.2 0), .ref (u9.2 1), .ref (p2 1), .int 1, .int 1])), ((u9.2 3), .inl (cI, 9216, .inl (upd (fun k => if 0 ≤ k ∧ k < 9 then 2147483647 else 0) 0 0)))] | 9 => [(p0, .inr (6, [.ref (p2 0), .int 0, .ref (p2 1), .ref (p2 14), .ref (p2 27), .ref (p2 28), .ref (p2 29), .ref (p2 30), .ref (p2 54), .ref (u9.2 2), .int 1, .int 1, .int 999, .ref (p2 61), .ref (p2 62), .ref (p2 63), .ref (p2 60)])), ((p2 28), .inr (0, [.int 0, .int 0, .int 0, .int 0])), ((p2 1), .inr (5, [.ref (p2 2), .ref (p2 3), .ref (p2 4), .ref (p2 5), .ref (p2 6), .ref (p2 7), .ref (p2 8), .ref (p2 9), .ref (p2 10), .ref (p2 11), .ref (p2 12), .ref (p2 13), .int 0, .int 0, .int 0, .int 0, .int 0, .int 100, .int 0, .int 0])), ((p2 12), .inl (cI, 3, .inl (fun _ => 0))), ((p2 11), .inl (cI, 3, .inl (fun _ => 0))), ((u9.2 0), .inr (0, [.int 0, .int 0, .int 0, .int 0])), ((u9.2 1), .inr (0, [.int 0, .int 0, .int 0, .int 0])), ((u9.2 2), .inr (4, [.ref (u9.2 3), .ref (u9.2 0), .ref (u9.2 1), .ref (p2 1), .int 1, .int 1])), ((u9.2 3), .inl (cI, 9216, .inl (upd (fun k => if 0 ≤ k ∧ k < 9 then 2147483647 else 0) 0 0)))] | 10 => [(p0, .inr (6, [.ref (p2 0), .int 0, .ref (p2 1), .ref (p2 14), .ref (p2 27), .ref (p2 28), .ref (p2 29), .ref (p2 30), .ref (p2 54), .null, .int 1, .int 1, .int 999, .ref (p2 61), .ref (p2 62), .ref (p2 63), .ref (p2 60)])), ((p2 28), .inr (0, [.int 0, .int 0, .int 0, .int 0])), ((p2 1), .inr (5, [.ref (p2 2), .ref (p2 3), .ref (p2 4), .ref (p2 5), .ref (p2 6), .ref (p2 7), .ref (p2 8), .ref (p2 9), .ref (p2 10), .ref (p2 11), .ref (p2 12), .ref (p2 13), .int 0, .int 0, .int 0, .int 0, .int 0, .int 100, .int 0, .int 0])), ((p2 12), .inl (cI, 3, .inl (fun _ => 0))), ((p2 11), .inl (cI, 3, .inl (fun _ => 0)))] | _ => []) u)) A) sz (by decide +kernel) rfl (Nat.le_of_ble_eq_true rfl) (fun p e s m args below meth c A ls H locs B hP hD hS hl => ?_)
  obtain ⟨hx, hb, hml, hown, hts, hr, hlk, hnm, hK, hA, hN, hC⟩ := id B
  have hown : s.vm.findClass RX6 = some m.cls := hown
  have hl : lv_has ls 2 [(0, .ref p0), (1, .int p1)] := hl
  have w_0 : (Cond.fieldLink RX6 16 "WishSea" "live" "LWishSea$Shore;").before args s = true := hts _ (List.mem_of_getElem? (i := 1) rfl)
  have w_1 : (Cond.fieldLink RX6 35 "WishSea" "now" "LWishSea$Moment;").before args s = true := hts _ (List.mem_of_getElem? (i := 2) rfl)
  have hinX6 : ∀ w ∈ u_ws RX6 TX6 17, w ∈ wsX6_ladder := fun _ h => List.mem_cons_of_mem _ (List.mem_append_left _ (List.mem_append_left _ (List.mem_append_left _ (List.mem_append_right _ h))))
  refine lv_iload_n hx hb dX6_ladder_0 rfl (lv_at hl 1 rfl) ?_
  refine lv_if_lt (tgt := 10) hx hb dX6_ladder_1 (by decide) (fun c_1 => ?_) (fun c_1 => ?_)
  · have c_1 : p1.toInt < 0 := k_ltT rfl (by decide +kernel) c_1
    refine lv_iconst (v := (-1)) hx hb dX6_ladder_10 (by decide +kernel) ?_
    exact k_ri B hP hD hS dX6_ladder_11 (0, (fun _ => 0)) [0, 1, 2, 3, 4] rfl rfl rfl (Nat.le_of_ble_eq_true rfl) (Nat.le_of_ble_eq_true rfl) ⟨c_1, rfl⟩
  · have c_1 : 0 ≤ p1.toInt := k_ltF rfl (by decide +kernel) c_1
    refine lv_iload_n hx hb dX6_ladder_4 rfl (lv_at hl 1 rfl) ?_
    refine lv_bipush (v := 8) hx hb dX6_ladder_5 (by decide +kernel) ?_
    refine lv_icmp_le (tgt := 12) hx hb dX6_ladder_7 (by decide) (fun c_2 => ?_) (fun c_2 => ?_)
    · have c_2 : p1.toInt ≤ 8 := k_leT rfl (by decide +kernel) c_2
      refine lv_aload_n hx hb dX6_ladder_12 rfl (lv_at hl 0 rfl) ?_
      refine k_cr (wc := [(p0, .inr (6, [.ref (p2 0), .int 0, .ref (p2 1), .ref (p2 14), .ref (p2 27), .ref (p2 28), .ref (p2 29), .ref (p2 30), .ref (p2 54), .null, .int 1, .int 1, .int 999, .ref (p2 61), .ref (p2 62), .ref (p2 63), .ref (p2 60)]))]) (wr := [((p2 28), .inr (0, [.int 0, .int 0, .int 0, .int 0])), ((p2 1), .inr (5, [.ref (p2 2), .ref (p2 3), .ref (p2 4), .ref (p2 5), .ref (p2 6), .ref (p2 7), .ref (p2 8), .ref (p2 9), .ref (p2 10), .ref (p2 11), .ref (p2 12), .ref (p2 13), .int 0, .int 0, .int 0, .int 0, .int 0, .int 100, .int 0, .int 0])), ((p2 12), .inl (cI, 3, .inl (fun _ => 0))), ((p2 11), .inl (cI, 3, .inl (fun _ => 0)))]) (fun hPc hDc hFc => va_runV (As := []) (rest := []) ⟨hx, hb, hml, hown, hts⟩ (c_X6_theRungs_v0 l dC dI cI cJ cZ cM p0 p2 H.size) (cwV 0 hts gX6_ladder_X6_theRungs rfl rfl rfl (by decide +kernel) ⟨(Nat.le_of_ble_eq_true rfl), (Nat.le_of_ble_eq_true rfl)⟩) (k_pV hPc hDc hK hN hC hS hFc hP (q0 := 0) (ci := 6) rfl rfl) rfl rfl hl.1 rfl (lv_room (Nat.le_of_ble_eq_true rfl)) dX6_ladder_13 ⟨(Nat.le_of_ble_eq_true rfl), (Nat.le_of_ble_eq_true rfl)⟩) hP hD hS hA [0] [1, 2, 3, 4] rfl rfl rfl rfl (by decide) (fun _ => rfl) 4 9230 rfl rfl (fun r_3 u_4 H locs hw hP hD hS => ?_)
      obtain rfl : r_3 = (u_4 0) := hw
      have hP : va_P (dC, dI) vwCl [((p2 28), .inr (0, [.int 0, .int 0, .int 0, .int 0])), ((p2 1), .inr (5, [.ref (p2 2), .ref (p2 3), .ref (p2 4), .ref (p2 5), .ref (p2 6), .ref (p2 7), .ref (p2 8), .ref (p2 9), .ref (p2 10), .ref (p2 11), .ref (p2 12), .ref (p2 13), .int 0, .int 0, .int 0, .int 0, .int 0, .int 100, .int 0, .int 0])), ((p2 12), .inl (cI, 3, .inl (fun _ => 0))), ((p2 11), .inl (cI, 3, .inl (fun _ => 0))), (p0, .inr (6, [.ref (p2 0), .int 0, .ref (p2 1), .ref (p2 14), .ref (p2 27), .ref (p2 28), .ref (p2 29), .ref (p2 30), .ref (p2 54), .ref (u_4 0), .int 1, .int 1, .int 999, .ref (p2 61), .ref (p2 62), .ref (p2 63), .ref (p2 60)])), ((u_4 0), .inr (4, [.ref (u_4 1), .ref (u_4 2), .ref (u_4 3), .ref (p2 1), .int 0, .int 0])), ((u_4 1), .inl (cI, 9216, .inl (fun _ => 0))), ((u_4 2), .inr (0, [.int 0, .int 0, .int 0, .int 0])), ((u_4 3), .inr (0, [.int 0, .int 0, .int 0, .int 0]))] H := hP
      have hD : va_D A [((p2 28), .inr (0, [.int 0, .int 0, .int 0, .int 0])), ((p2 1), .inr (5, [.ref (p2 2), .ref (p2 3), .ref (p2 4), .ref (p2 5), .ref (p2 6), .ref (p2 7), .ref (p2 8), .ref (p2 9), .ref (p2 10), .ref (p2 11), .ref (p2 12), .ref (p2 13), .int 0, .int 0, .int 0, .int 0, .int 0, .int 100, .int 0, .int 0])), ((p2 12), .inl (cI, 3, .inl (fun _ => 0))), ((p2 11), .inl (cI, 3, .inl (fun _ => 0))), (p0, .inr (6, [.ref (p2 0), .int 0, .ref (p2 1), .ref (p2 14), .ref (p2 27), .ref (p2 28), .ref (p2 29), .ref (p2 30), .ref (p2 54), .ref (u_4 0), .int 1, .int 1, .int 999, .ref (p2 61), .ref (p2 62), .ref (p2 63), .ref (p2 60)])), ((u_4 0), .inr (4, [.ref (u_4 1), .ref (u_4 2), .ref (u_4 3), .ref (p2 1), .int 0, .int 0])), ((u_4 1), .inl (cI, 9216, .inl (fun _ => 0))), ((u_4 2), .inr (0, [.int 0, .int 0, .int 0, .int 0])), ((u_4 3), .inr (0, [.int 0, .int 0, .int 0, .int 0]))] := hD
      refine lv_aload_n hx hb dX6_ladder_16 rfl (lv_at hl 0 rfl) ?_
      refine k_get (D := (dC, dI)) (ci := 6) (v := .ref (p2 1)) (C := RX6) (T := TX6) (N := 17) hx hb hts hinX6 hown hK hP 4 rfl rfl 2 (by decide) w_0 rfl rfl dX6_ladder_17 ?_
      refine lv_aload_n hx hb dX6_ladder_20 rfl (lv_at hl 0 rfl) ?_
      refine k_get (D := (dC, dI)) (ci := 6) (v := .ref (p2 28)) (C := RX6) (T := TX6) (N := 17) hx hb hts hinX6 hown hK hP 4 rfl rfl 5 (by decide) w_1 rfl rfl dX6_ladder_21 ?_
      refine k_cr (wc := [((u_4 0), .inr (4, [.ref (u_4 1), .ref (u_4 2), .ref (u_4 3), .ref (p2 1), .int 0, .int 0])), ((p2 28), .inr (0, [.int 0, .int 0, .int 0, .int 0])), ((u_4 2), .inr (0, [.int 0, .int 0, .int 0, .int 0])), ((p2 1), .inr (5, [.ref (p2 2), .ref (p2 3), .ref (p2 4), .ref (p2 5), .ref (p2 6), .ref (p2 7), .ref (p2 8), .ref (p2 9), .ref (p2 10), .ref (p2 11), .ref (p2 12), .ref (p2 13), .int 0, .int 0, .int 0, .int 0, .int 0, .int 100, .int 0, .int 0])), ((u_4 1), .inl (cI, 9216, .inl (fun _ => 0))), ((u_4 3), .inr (0, [.int 0, .int 0, .int 0, .int 0])), ((p2 12), .inl (cI, 3, .inl (fun _ => 0))), ((p2 11), .inl (cI, 3, .inl (fun _ => 0)))]) (wr := [(p0, .inr (6, [.ref (p2 0), .int 0, .ref (p2 1), .ref (p2 14), .ref (p2 27), .ref (p2 28), .ref (p2 29), .ref (p2 30), .ref (p2 54), .ref (u_4 0), .int 1, .int 1, .int 999, .ref (p2 61), .ref (p2 62), .ref (p2 63), .ref (p2 60)]))]) (fun hPc hDc hFc => va_runV (As := [.ref (p2 1), .ref (p2 28)]) (rest := []) ⟨hx, hb, hml, hown, hts⟩ (c_X4_climb_v0 l dC dI cI cJ cZ cM u_4 p2 H.size) (cwV 2 hts gX6_ladder_X4_climb rfl rfl rfl (by decide +kernel) ⟨(Nat.le_of_ble_eq_true rfl), (Nat.le_of_ble_eq_true rfl)⟩) (k_pV hPc hDc hK hN hC hS hFc hP (q0 := 5) (ci := 4) rfl rfl) rfl rfl hl.1 rfl (lv_room (Nat.le_of_ble_eq_true rfl)) dX6_ladder_24 ⟨(Nat.le_of_ble_eq_true rfl), (Nat.le_of_ble_eq_true rfl)⟩) hP hD hS hA [5, 0, 7, 1, 6, 8, 2, 3] [4] rfl rfl rfl rfl (by decide) (fun _ => rfl) 4 9230 rfl rfl (fun r_5 u_6 H locs hw hP hD hS => ?_)
      obtain rfl : r_5 = (u_4 0) := hw
      have hP : va_P (dC, dI) vwCl [(p0, .inr (6, [.ref (p2 0), .int 0, .ref (p2 1), .ref (p2 14), .ref (p2 27), .ref (p2 28), .ref (p2 29), .ref (p2 30), .ref (p2 54), .ref (u_4 0), .int 1, .int 1, .int 999, .ref (p2 61), .ref (p2 62), .ref (p2 63), .ref (p2 60)])), ((u_4 0), .inr (4, [.ref (u_4 1), .ref (u_4 2), .ref (u_4 3), .ref (p2 1), .int 1, .int 1])), ((p2 28), .inr (0, [.int 0, .int 0, .int 0, .int 0])), ((u_4 2), .inr (0, [.int 0, .int 0, .int 0, .int 0])), ((p2 1), .inr (5, [.ref (p2 2), .ref (p2 3), .ref (p2 4), .ref (p2 5), .ref (p2 6), .ref (p2 7), .ref (p2 8), .ref (p2 9), .ref (p2 10), .ref (p2 11), .ref (p2 12), .ref (p2 13), .int 0, .int 0, .int 0, .int 0, .int 0, .int 100, .int 0, .int 0])), ((u_4 1), .inl (cI, 9216, .inl (upd (fun k => if 0 ≤ k ∧ k < 9 then 2147483647 else 0) 0 0))), ((u_4 3), .inr (0, [.int 0, .int 0, .int 0, .int 0])), ((p2 12), .inl (cI, 3, .inl (fun _ => 0))), ((p2 11), .inl (cI, 3, .inl (fun _ => 0)))] H := hP
      have hD : va_D A [(p0, .inr (6, [.ref (p2 0), .int 0, .ref (p2 1), .ref (p2 14), .ref (p2 27), .ref (p2 28), .ref (p2 29), .ref (p2 30), .ref (p2 54), .ref (u_4 0), .int 1, .int 1, .int 999, .ref (p2 61), .ref (p2 62), .ref (p2 63), .ref (p2 60)])), ((u_4 0), .inr (4, [.ref (u_4 1), .ref (u_4 2), .ref (u_4 3), .ref (p2 1), .int 1, .int 1])), ((p2 28), .inr (0, [.int 0, .int 0, .int 0, .int 0])), ((u_4 2), .inr (0, [.int 0, .int 0, .int 0, .int 0])), ((p2 1), .inr (5, [.ref (p2 2), .ref (p2 3), .ref (p2 4), .ref (p2 5), .ref (p2 6), .ref (p2 7), .ref (p2 8), .ref (p2 9), .ref (p2 10), .ref (p2 11), .ref (p2 12), .ref (p2 13), .int 0, .int 0, .int 0, .int 0, .int 0, .int 100, .int 0, .int 0])), ((u_4 1), .inl (cI, 9216, .inl (upd (fun k => if 0 ≤ k ∧ k < 9 then 2147483647 else 0) 0 0))), ((u_4 3), .inr (0, [.int 0, .int 0, .int 0, .int 0])), ((p2 12), .inl (cI, 3, .inl (fun _ => 0))), ((p2 11), .inl (cI, 3, .inl (fun _ => 0)))] := hD
      refine lv_iload_n hx hb dX6_ladder_27 rfl (lv_at hl 1 rfl) ?_
      refine k_ci (wc := [((u_4 0), .inr (4, [.ref (u_4 1), .ref (u_4 2), .ref (u_4 3), .ref (p2 1), .int 1, .int 1])), ((u_4 1), .inl (cI, 9216, .inl (upd (fun k => if 0 ≤ k ∧ k < 9 then 2147483647 else 0) 0 0)))]) (wr := [(p0, .inr (6, [.ref (p2 0), .int 0, .ref (p2 1), .ref (p2 14), .ref (p2 27), .ref (p2 28), .ref (p2 29), .ref (p2 30), .ref (p2 54), .ref (u_4 0), .int 1, .int 1, .int 999, .ref (p2 61), .ref (p2 62), .ref (p2 63), .ref (p2 60)])), ((p2 28), .inr (0, [.int 0, .int 0, .int 0, .int 0])), ((u_4 2), .inr (0, [.int 0, .int 0, .int 0, .int 0])), ((p2 1), .inr (5, [.ref (p2 2), .ref (p2 3), .ref (p2 4), .ref (p2 5), .ref (p2 6), .ref (p2 7), .ref (p2 8), .ref (p2 9), .ref (p2 10), .ref (p2 11), .ref (p2 12), .ref (p2 13), .int 0, .int 0, .int 0, .int 0, .int 0, .int 100, .int 0, .int 0])), ((u_4 3), .inr (0, [.int 0, .int 0, .int 0, .int 0])), ((p2 12), .inl (cI, 3, .inl (fun _ => 0))), ((p2 11), .inl (cI, 3, .inl (fun _ => 0)))]) (fun hPc hDc hFc => va_runV (As := [.int p1]) (rest := []) ⟨hx, hb, hml, hown, hts⟩ (c_X4_count_v0 l dC dI cI cJ cZ cM u_4 p1 p2 (by omega) (by omega) H.size) (cwV 1 hts gX6_ladder_X4_count rfl rfl rfl (by decide +kernel) ⟨(Nat.le_of_ble_eq_true rfl), (Nat.le_of_ble_eq_true rfl)⟩) (k_pV hPc hDc hK hN hC hS hFc hP (q0 := 1) (ci := 4) rfl rfl) rfl rfl hl.1 rfl (lv_room (Nat.le_of_ble_eq_true rfl)) dX6_ladder_28 ⟨(Nat.le_of_ble_eq_true rfl), (Nat.le_of_ble_eq_true rfl)⟩) hP hD hS hA [1, 5] [0, 2, 3, 4, 6, 7, 8] rfl rfl rfl rfl (by decide) (fun _ => rfl) 4 9230 rfl rfl (fun r_7 u_8 H locs hw hP hD hS => ?_)
      obtain ⟨k_u_8, u_u_8⟩ := u_8
      rcases k_u_8 with _ | _ | _ | _ | _ | _ | _ | _ | _ | k_u_8
      · obtain ⟨c_9, rfl⟩ : (p1.toInt = 0) ∧ r_7 = 1 := hw
        have hP : va_P (dC, dI) vwCl [(p0, .inr (6, [.ref (p2 0), .int 0, .ref (p2 1), .ref (p2 14), .ref (p2 27), .ref (p2 28), .ref (p2 29), .ref (p2 30), .ref (p2 54), .ref (u_4 0), .int 1, .int 1, .int 999, .ref (p2 61), .ref (p2 62), .ref (p2 63), .ref (p2 60)])), ((p2 28), .inr (0, [.int 0, .int 0, .int 0, .int 0])), ((u_4 2), .inr (0, [.int 0, .int 0, .int 0, .int 0])), ((p2 1), .inr (5, [.ref (p2 2), .ref (p2 3), .ref (p2 4), .ref (p2 5), .ref (p2 6), .ref (p2 7), .ref (p2 8), .ref (p2 9), .ref (p2 10), .ref (p2 11), .ref (p2 12), .ref (p2 13), .int 0, .int 0, .int 0, .int 0, .int 0, .int 100, .int 0, .int 0])), ((u_4 3), .inr (0, [.int 0, .int 0, .int 0, .int 0])), ((p2 12), .inl (cI, 3, .inl (fun _ => 0))), ((p2 11), .inl (cI, 3, .inl (fun _ => 0))), ((u_4 0), .inr (4, [.ref (u_4 1), .ref (u_4 2), .ref (u_4 3), .ref (p2 1), .int 1, .int 1])), ((u_4 1), .inl (cI, 9216, .inl (upd (fun k => if 0 ≤ k ∧ k < 9 then 2147483647 else 0) 0 0)))] H := hP
        have hD : va_D A [(p0, .inr (6, [.ref (p2 0), .int 0, .ref (p2 1), .ref (p2 14), .ref (p2 27), .ref (p2 28), .ref (p2 29), .ref (p2 30), .ref (p2 54), .ref (u_4 0), .int 1, .int 1, .int 999, .ref (p2 61), .ref (p2 62), .ref (p2 63), .ref (p2 60)])), ((p2 28), .inr (0, [.int 0, .int 0, .int 0, .int 0])), ((u_4 2), .inr (0, [.int 0, .int 0, .int 0, .int 0])), ((p2 1), .inr (5, [.ref (p2 2), .ref (p2 3), .ref (p2 4), .ref (p2 5), .ref (p2 6), .ref (p2 7), .ref (p2 8), .ref (p2 9), .ref (p2 10), .ref (p2 11), .ref (p2 12), .ref (p2 13), .int 0, .int 0, .int 0, .int 0, .int 0, .int 100, .int 0, .int 0])), ((u_4 3), .inr (0, [.int 0, .int 0, .int 0, .int 0])), ((p2 12), .inl (cI, 3, .inl (fun _ => 0))), ((p2 11), .inl (cI, 3, .inl (fun _ => 0))), ((u_4 0), .inr (4, [.ref (u_4 1), .ref (u_4 2), .ref (u_4 3), .ref (p2 1), .int 1, .int 1])), ((u_4 1), .inl (cI, 9216, .inl (upd (fun k => if 0 ≤ k ∧ k < 9 then 2147483647 else 0) 0 0)))] := hD
        exact k_ri B hP hD hS dX6_ladder_31 (1, (fun k9 => match k9 with | 0 => (u_4 2) | 1 => (u_4 3) | 2 => (u_4 0) | 3 => (u_4 1) | _ => 0)) [0, 1, 3, 5, 6, 2, 4, 7, 8] rfl rfl rfl (Nat.le_of_ble_eq_true rfl) (Nat.le_of_ble_eq_true rfl) ⟨c_1, c_2, c_9, rfl⟩
      · obtain ⟨c_10, rfl⟩ : (p1.toInt = 1) ∧ r_7 = 0 := hw
        have hP : va_P (dC, dI) vwCl [(p0, .inr (6, [.ref (p2 0), .int 0, .ref (p2 1), .ref (p2 14), .ref (p2 27), .ref (p2 28), .ref (p2 29), .ref (p2 30), .ref (p2 54), .ref (u_4 0), .int 1, .int 1, .int 999, .ref (p2 61), .ref (p2 62), .ref (p2 63), .ref (p2 60)])), ((p2 28), .inr (0, [.int 0, .int 0, .int 0, .int 0])), ((u_4 2), .inr (0, [.int 0, .int 0, .int 0, .int 0])), ((p2 1), .inr (5, [.ref (p2 2), .ref (p2 3), .ref (p2 4), .ref (p2 5), .ref (p2 6), .ref (p2 7), .ref (p2 8), .ref (p2 9), .ref (p2 10), .ref (p2 11), .ref (p2 12), .ref (p2 13), .int 0, .int 0, .int 0, .int 0, .int 0, .int 100, .int 0, .int 0])), ((u_4 3), .inr (0, [.int 0, .int 0, .int 0, .int 0])), ((p2 12), .inl (cI, 3, .inl (fun _ => 0))), ((p2 11), .inl (cI, 3, .inl (fun _ => 0))), ((u_4 0), .inr (4, [.ref (u_4 1), .ref (u_4 2), .ref (u_4 3), .ref (p2 1), .int 1, .int 1])), ((u_4 1), .inl (cI, 9216, .inl (upd (fun k => if 0 ≤ k ∧ k < 9 then 2147483647 else 0) 0 0)))] H := hP
        have hD : va_D A [(p0, .inr (6, [.ref (p2 0), .int 0, .ref (p2 1), .ref (p2 14), .ref (p2 27), .ref (p2 28), .ref (p2 29), .ref (p2 30), .ref (p2 54), .ref (u_4 0), .int 1, .int 1, .int 999, .ref (p2 61), .ref (p2 62), .ref (p2 63), .ref (p2 60)])), ((p2 28), .inr (0, [.int 0, .int 0, .int 0, .int 0])), ((u_4 2), .inr (0, [.int 0, .int 0, .int 0, .int 0])), ((p2 1), .inr (5, [.ref (p2 2), .ref (p2 3), .ref (p2 4), .ref (p2 5), .ref (p2 6), .ref (p2 7), .ref (p2 8), .ref (p2 9), .ref (p2 10), .ref (p2 11), .ref (p2 12), .ref (p2 13), .int 0, .int 0, .int 0, .int 0, .int 0, .int 100, .int 0, .int 0])), ((u_4 3), .inr (0, [.int 0, .int 0, .int 0, .int 0])), ((p2 12), .inl (cI, 3, .inl (fun _ => 0))), ((p2 11), .inl (cI, 3, .inl (fun _ => 0))), ((u_4 0), .inr (4, [.ref (u_4 1), .ref (u_4 2), .ref (u_4 3), .ref (p2 1), .int 1, .int 1])), ((u_4 1), .inl (cI, 9216, .inl (upd (fun k => if 0 ≤ k ∧ k < 9 then 2147483647 else 0) 0 0)))] := hD
        exact k_ri B hP hD hS dX6_ladder_31 (2, (fun k9 => match k9 with | 0 => (u_4 2) | 1 => (u_4 3) | 2 => (u_4 0) | 3 => (u_4 1) | _ => 0)) [0, 1, 3, 5, 6, 2, 4, 7, 8] rfl rfl rfl (Nat.le_of_ble_eq_true rfl) (Nat.le_of_ble_eq_true rfl) ⟨c_1, c_2, c_10, rfl⟩
      · obtain ⟨c_11, rfl⟩ : (p1.toInt = 2) ∧ r_7 = 0 := hw
        have hP : va_P (dC, dI) vwCl [(p0, .inr (6, [.ref (p2 0), .int 0, .ref (p2 1), .ref (p2 14), .ref (p2 27), .ref (p2 28), .ref (p2 29), .ref (p2 30), .ref (p2 54), .ref (u_4 0), .int 1, .int 1, .int 999, .ref (p2 61), .ref (p2 62), .ref (p2 63), .ref (p2 60)])), ((p2 28), .inr (0, [.int 0, .int 0, .int 0, .int 0])), ((u_4 2), .inr (0, [.int 0, .int 0, .int 0, .int 0])), ((p2 1), .inr (5, [.ref (p2 2), .ref (p2 3), .ref (p2 4), .ref (p2 5), .ref (p2 6), .ref (p2 7), .ref (p2 8), .ref (p2 9), .ref (p2 10), .ref (p2 11), .ref (p2 12), .ref (p2 13), .int 0, .int 0, .int 0, .int 0, .int 0, .int 100, .int 0, .int 0])), ((u_4 3), .inr (0, [.int 0, .int 0, .int 0, .int 0])), ((p2 12), .inl (cI, 3, .inl (fun _ => 0))), ((p2 11), .inl (cI, 3, .inl (fun _ => 0))), ((u_4 0), .inr (4, [.ref (u_4 1), .ref (u_4 2), .ref (u_4 3), .ref (p2 1), .int 1, .int 1])), ((u_4 1), .inl (cI, 9216, .inl (upd (fun k => if 0 ≤ k ∧ k < 9 then 2147483647 else 0) 0 0)))] H := hP
        have hD : va_D A [(p0, .inr (6, [.ref (p2 0), .int 0, .ref (p2 1), .ref (p2 14), .ref (p2 27), .ref (p2 28), .ref (p2 29), .ref (p2 30), .ref (p2 54), .ref (u_4 0), .int 1, .int 1, .int 999, .ref (p2 61), .ref (p2 62), .ref (p2 63), .ref (p2 60)])), ((p2 28), .inr (0, [.int 0, .int 0, .int 0, .int 0])), ((u_4 2), .inr (0, [.int 0, .int 0, .int 0, .int 0])), ((p2 1), .inr (5, [.ref (p2 2), .ref (p2 3), .ref (p2 4), .ref (p2 5), .ref (p2 6), .ref (p2 7), .ref (p2 8), .ref (p2 9), .ref (p2 10), .ref (p2 11), .ref (p2 12), .ref (p2 13), .int 0, .int 0, .int 0, .int 0, .int 0, .int 100, .int 0, .int 0])), ((u_4 3), .inr (0, [.int 0, .int 0, .int 0, .int 0])), ((p2 12), .inl (cI, 3, .inl (fun _ => 0))), ((p2 11), .inl (cI, 3, .inl (fun _ => 0))), ((u_4 0), .inr (4, [.ref (u_4 1), .ref (u_4 2), .ref (u_4 3), .ref (p2 1), .int 1, .int 1])), ((u_4 1), .inl (cI, 9216, .inl (upd (fun k => if 0 ≤ k ∧ k < 9 then 2147483647 else 0) 0 0)))] := hD
        exact k_ri B hP hD hS dX6_ladder_31 (3, (fun k9 => match k9 with | 0 => (u_4 2) | 1 => (u_4 3) | 2 => (u_4 0) | 3 => (u_4 1) | _ => 0)) [0, 1, 3, 5, 6, 2, 4, 7, 8] rfl rfl rfl (Nat.le_of_ble_eq_true rfl) (Nat.le_of_ble_eq_true rfl) ⟨c_1, c_2, c_11, rfl⟩
      · obtain ⟨c_12, rfl⟩ : (p1.toInt = 3) ∧ r_7 = 0 := hw
        have hP : va_P (dC, dI) vwCl [(p0, .inr (6, [.ref (p2 0), .int 0, .ref (p2 1), .ref (p2 14), .ref (p2 27), .ref (p2 28), .ref (p2 29), .ref (p2 30), .ref (p2 54), .ref (u_4 0), .int 1, .int 1, .int 999, .ref (p2 61), .ref (p2 62), .ref (p2 63), .ref (p2 60)])), ((p2 28), .inr (0, [.int 0, .int 0, .int 0, .int 0])), ((u_4 2), .inr (0, [.int 0, .int 0, .int 0, .int 0])), ((p2 1), .inr (5, [.ref (p2 2), .ref (p2 3), .ref (p2 4), .ref (p2 5), .ref (p2 6), .ref (p2 7), .ref (p2 8), .ref (p2 9), .ref (p2 10), .ref (p2 11), .ref (p2 12), .ref (p2 13), .int 0, .int 0, .int 0, .int 0, .int 0, .int 100, .int 0, .int 0])), ((u_4 3), .inr (0, [.int 0, .int 0, .int 0, .int 0])), ((p2 12), .inl (cI, 3, .inl (fun _ => 0))), ((p2 11), .inl (cI, 3, .inl (fun _ => 0))), ((u_4 0), .inr (4, [.ref (u_4 1), .ref (u_4 2), .ref (u_4 3), .ref (p2 1), .int 1, .int 1])), ((u_4 1), .inl (cI, 9216, .inl (upd (fun k => if 0 ≤ k ∧ k < 9 then 2147483647 else 0) 0 0)))] H := hP
        have hD : va_D A [(p0, .inr (6, [.ref (p2 0), .int 0, .ref (p2 1), .ref (p2 14), .ref (p2 27), .ref (p2 28), .ref (p2 29), .ref (p2 30), .ref (p2 54), .ref (u_4 0), .int 1, .int 1, .int 999, .ref (p2 61), .ref (p2 62), .ref (p2 63), .ref (p2 60)])), ((p2 28), .inr (0, [.int 0, .int 0, .int 0, .int 0])), ((u_4 2), .inr (0, [.int 0, .int 0, .int 0, .int 0])), ((p2 1), .inr (5, [.ref (p2 2), .ref (p2 3), .ref (p2 4), .ref (p2 5), .ref (p2 6), .ref (p2 7), .ref (p2 8), .ref (p2 9), .ref (p2 10), .ref (p2 11), .ref (p2 12), .ref (p2 13), .int 0, .int 0, .int 0, .int 0, .int 0, .int 100, .int 0, .int 0])), ((u_4 3), .inr (0, [.int 0, .int 0, .int 0, .int 0])), ((p2 12), .inl (cI, 3, .inl (fun _ => 0))), ((p2 11), .inl (cI, 3, .inl (fun _ => 0))), ((u_4 0), .inr (4, [.ref (u_4 1), .ref (u_4 2), .ref (u_4 3), .ref (p2 1), .int 1, .int 1])), ((u_4 1), .inl (cI, 9216, .inl (upd (fun k => if 0 ≤ k ∧ k < 9 then 2147483647 else 0) 0 0)))] := hD
        exact k_ri B hP hD hS dX6_ladder_31 (4, (fun k9 => match k9 with | 0 => (u_4 2) | 1 => (u_4 3) | 2 => (u_4 0) | 3 => (u_4 1) | _ => 0)) [0, 1, 3, 5, 6, 2, 4, 7, 8] rfl rfl rfl (Nat.le_of_ble_eq_true rfl) (Nat.le_of_ble_eq_true rfl) ⟨c_1, c_2, c_12, rfl⟩
      · obtain ⟨c_13, rfl⟩ : (p1.toInt = 4) ∧ r_7 = 0 := hw
        have hP : va_P (dC, dI) vwCl [(p0, .inr (6, [.ref (p2 0), .int 0, .ref (p2 1), .ref (p2 14), .ref (p2 27), .ref (p2 28), .ref (p2 29), .ref (p2 30), .ref (p2 54), .ref (u_4 0), .int 1, .int 1, .int 999, .ref (p2 61), .ref (p2 62), .ref (p2 63), .ref (p2 60)])), ((p2 28), .inr (0, [.int 0, .int 0, .int 0, .int 0])), ((u_4 2), .inr (0, [.int 0, .int 0, .int 0, .int 0])), ((p2 1), .inr (5, [.ref (p2 2), .ref (p2 3), .ref (p2 4), .ref (p2 5), .ref (p2 6), .ref (p2 7), .ref (p2 8), .ref (p2 9), .ref (p2 10), .ref (p2 11), .ref (p2 12), .ref (p2 13), .int 0, .int 0, .int 0, .int 0, .int 0, .int 100, .int 0, .int 0])), ((u_4 3), .inr (0, [.int 0, .int 0, .int 0, .int 0])), ((p2 12), .inl (cI, 3, .inl (fun _ => 0))), ((p2 11), .inl (cI, 3, .inl (fun _ => 0))), ((u_4 0), .inr (4, [.ref (u_4 1), .ref (u_4 2), .ref (u_4 3), .ref (p2 1), .int 1, .int 1])), ((u_4 1), .inl (cI, 9216, .inl (upd (fun k => if 0 ≤ k ∧ k < 9 then 2147483647 else 0) 0 0)))] H := hP
        have hD : va_D A [(p0, .inr (6, [.ref (p2 0), .int 0, .ref (p2 1), .ref (p2 14), .ref (p2 27), .ref (p2 28), .ref (p2 29), .ref (p2 30), .ref (p2 54), .ref (u_4 0), .int 1, .int 1, .int 999, .ref (p2 61), .ref (p2 62), .ref (p2 63), .ref (p2 60)])), ((p2 28), .inr (0, [.int 0, .int 0, .int 0, .int 0])), ((u_4 2), .inr (0, [.int 0, .int 0, .int 0, .int 0])), ((p2 1), .inr (5, [.ref (p2 2), .ref (p2 3), .ref (p2 4), .ref (p2 5), .ref (p2 6), .ref (p2 7), .ref (p2 8), .ref (p2 9), .ref (p2 10), .ref (p2 11), .ref (p2 12), .ref (p2 13), .int 0, .int 0, .int 0, .int 0, .int 0, .int 100, .int 0, .int 0])), ((u_4 3), .inr (0, [.int 0, .int 0, .int 0, .int 0])), ((p2 12), .inl (cI, 3, .inl (fun _ => 0))), ((p2 11), .inl (cI, 3, .inl (fun _ => 0))), ((u_4 0), .inr (4, [.ref (u_4 1), .ref (u_4 2), .ref (u_4 3), .ref (p2 1), .int 1, .int 1])), ((u_4 1), .inl (cI, 9216, .inl (upd (fun k => if 0 ≤ k ∧ k < 9 then 2147483647 else 0) 0 0)))] := hD
        exact k_ri B hP hD hS dX6_ladder_31 (5, (fun k9 => match k9 with | 0 => (u_4 2) | 1 => (u_4 3) | 2 => (u_4 0) | 3 => (u_4 1) | _ => 0)) [0, 1, 3, 5, 6, 2, 4, 7, 8] rfl rfl rfl (Nat.le_of_ble_eq_true rfl) (Nat.le_of_ble_eq_true rfl) ⟨c_1, c_2, c_13, rfl⟩
      · obtain ⟨c_14, rfl⟩ : (p1.toInt = 5) ∧ r_7 = 0 := hw
        have hP : va_P (dC, dI) vwCl [(p0, .inr (6, [.ref (p2 0), .int 0, .ref (p2 1), .ref (p2 14), .ref (p2 27), .ref (p2 28), .ref (p2 29), .ref (p2 30), .ref (p2 54), .ref (u_4 0), .int 1, .int 1, .int 999, .ref (p2 61), .ref (p2 62), .ref (p2 63), .ref (p2 60)])), ((p2 28), .inr (0, [.int 0, .int 0, .int 0, .int 0])), ((u_4 2), .inr (0, [.int 0, .int 0, .int 0, .int 0])), ((p2 1), .inr (5, [.ref (p2 2), .ref (p2 3), .ref (p2 4), .ref (p2 5), .ref (p2 6), .ref (p2 7), .ref (p2 8), .ref (p2 9), .ref (p2 10), .ref (p2 11), .ref (p2 12), .ref (p2 13), .int 0, .int 0, .int 0, .int 0, .int 0, .int 100, .int 0, .int 0])), ((u_4 3), .inr (0, [.int 0, .int 0, .int 0, .int 0])), ((p2 12), .inl (cI, 3, .inl (fun _ => 0))), ((p2 11), .inl (cI, 3, .inl (fun _ => 0))), ((u_4 0), .inr (4, [.ref (u_4 1), .ref (u_4 2), .ref (u_4 3), .ref (p2 1), .int 1, .int 1])), ((u_4 1), .inl (cI, 9216, .inl (upd (fun k => if 0 ≤ k ∧ k < 9 then 2147483647 else 0) 0 0)))] H := hP
        have hD : va_D A [(p0, .inr (6, [.ref (p2 0), .int 0, .ref (p2 1), .ref (p2 14), .ref (p2 27), .ref (p2 28), .ref (p2 29), .ref (p2 30), .ref (p2 54), .ref (u_4 0), .int 1, .int 1, .int 999, .ref (p2 61), .ref (p2 62), .ref (p2 63), .ref (p2 60)])), ((p2 28), .inr (0, [.int 0, .int 0, .int 0, .int 0])), ((u_4 2), .inr (0, [.int 0, .int 0, .int 0, .int 0])), ((p2 1), .inr (5, [.ref (p2 2), .ref (p2 3), .ref (p2 4), .ref (p2 5), .ref (p2 6), .ref (p2 7), .ref (p2 8), .ref (p2 9), .ref (p2 10), .ref (p2 11), .ref (p2 12), .ref (p2 13), .int 0, .int 0, .int 0, .int 0, .int 0, .int 100, .int 0, .int 0])), ((u_4 3), .inr (0, [.int 0, .int 0, .int 0, .int 0])), ((p2 12), .inl (cI, 3, .inl (fun _ => 0))), ((p2 11), .inl (cI, 3, .inl (fun _ => 0))), ((u_4 0), .inr (4, [.ref (u_4 1), .ref (u_4 2), .ref (u_4 3), .ref (p2 1), .int 1, .int 1])), ((u_4 1), .inl (cI, 9216, .inl (upd (fun k => if 0 ≤ k ∧ k < 9 then 2147483647 else 0) 0 0)))] := hD
        exact k_ri B hP hD hS dX6_ladder_31 (6, (fun k9 => match k9 with | 0 => (u_4 2) | 1 => (u_4 3) | 2 => (u_4 0) | 3 => (u_4 1) | _ => 0)) [0, 1, 3, 5, 6, 2, 4, 7, 8] rfl rfl rfl (Nat.le_of_ble_eq_true rfl) (Nat.le_of_ble_eq_true rfl) ⟨c_1, c_2, c_14, rfl⟩
      · obtain ⟨c_15, rfl⟩ : (p1.toInt = 6) ∧ r_7 = 0 := hw
        have hP : va_P (dC, dI) vwCl [(p0, .inr (6, [.ref (p2 0), .int 0, .ref (p2 1), .ref (p2 14), .ref (p2 27), .ref (p2 28), .ref (p2 29), .ref (p2 30), .ref (p2 54), .ref (u_4 0), .int 1, .int 1, .int 999, .ref (p2 61), .ref (p2 62), .ref (p2 63), .ref (p2 60)])), ((p2 28), .inr (0, [.int 0, .int 0, .int 0, .int 0])), ((u_4 2), .inr (0, [.int 0, .int 0, .int 0, .int 0])), ((p2 1), .inr (5, [.ref (p2 2), .ref (p2 3), .ref (p2 4), .ref (p2 5), .ref (p2 6), .ref (p2 7), .ref (p2 8), .ref (p2 9), .ref (p2 10), .ref (p2 11), .ref (p2 12), .ref (p2 13), .int 0, .int 0, .int 0, .int 0, .int 0, .int 100, .int 0, .int 0])), ((u_4 3), .inr (0, [.int 0, .int 0, .int 0, .int 0])), ((p2 12), .inl (cI, 3, .inl (fun _ => 0))), ((p2 11), .inl (cI, 3, .inl (fun _ => 0))), ((u_4 0), .inr (4, [.ref (u_4 1), .ref (u_4 2), .ref (u_4 3), .ref (p2 1), .int 1, .int 1])), ((u_4 1), .inl (cI, 9216, .inl (upd (fun k => if 0 ≤ k ∧ k < 9 then 2147483647 else 0) 0 0)))] H := hP
        have hD : va_D A [(p0, .inr (6, [.ref (p2 0), .int 0, .ref (p2 1), .ref (p2 14), .ref (p2 27), .ref (p2 28), .ref (p2 29), .ref (p2 30), .ref (p2 54), .ref (u_4 0), .int 1, .int 1, .int 999, .ref (p2 61), .ref (p2 62), .ref (p2 63), .ref (p2 60)])), ((p2 28), .inr (0, [.int 0, .int 0, .int 0, .int 0])), ((u_4 2), .inr (0, [.int 0, .int 0, .int 0, .int 0])), ((p2 1), .inr (5, [.ref (p2 2), .ref (p2 3), .ref (p2 4), .ref (p2 5), .ref (p2 6), .ref (p2 7), .ref (p2 8), .ref (p2 9), .ref (p2 10), .ref (p2 11), .ref (p2 12), .ref (p2 13), .int 0, .int 0, .int 0, .int 0, .int 0, .int 100, .int 0, .int 0])), ((u_4 3), .inr (0, [.int 0, .int 0, .int 0, .int 0])), ((p2 12), .inl (cI, 3, .inl (fun _ => 0))), ((p2 11), .inl (cI, 3, .inl (fun _ => 0))), ((u_4 0), .inr (4, [.ref (u_4 1), .ref (u_4 2), .ref (u_4 3), .ref (p2 1), .int 1, .int 1])), ((u_4 1), .inl (cI, 9216, .inl (upd (fun k => if 0 ≤ k ∧ k < 9 then 2147483647 else 0) 0 0)))] := hD
        exact k_ri B hP hD hS dX6_ladder_31 (7, (fun k9 => match k9 with | 0 => (u_4 2) | 1 => (u_4 3) | 2 => (u_4 0) | 3 => (u_4 1) | _ => 0)) [0, 1, 3, 5, 6, 2, 4, 7, 8] rfl rfl rfl (Nat.le_of_ble_eq_true rfl) (Nat.le_of_ble_eq_true rfl) ⟨c_1, c_2, c_15, rfl⟩
      · obtain ⟨c_16, rfl⟩ : (p1.toInt = 7) ∧ r_7 = 0 := hw
        have hP : va_P (dC, dI) vwCl [(p0, .inr (6, [.ref (p2 0), .int 0, .ref (p2 1), .ref (p2 14), .ref (p2 27), .ref (p2 28), .ref (p2 29), .ref (p2 30), .ref (p2 54), .ref (u_4 0), .int 1, .int 1, .int 999, .ref (p2 61), .ref (p2 62), .ref (p2 63), .ref (p2 60)])), ((p2 28), .inr (0, [.int 0, .int 0, .int 0, .int 0])), ((u_4 2), .inr (0, [.int 0, .int 0, .int 0, .int 0])), ((p2 1), .inr (5, [.ref (p2 2), .ref (p2 3), .ref (p2 4), .ref (p2 5), .ref (p2 6), .ref (p2 7), .ref (p2 8), .ref (p2 9), .ref (p2 10), .ref (p2 11), .ref (p2 12), .ref (p2 13), .int 0, .int 0, .int 0, .int 0, .int 0, .int 100, .int 0, .int 0])), ((u_4 3), .inr (0, [.int 0, .int 0, .int 0, .int 0])), ((p2 12), .inl (cI, 3, .inl (fun _ => 0))), ((p2 11), .inl (cI, 3, .inl (fun _ => 0))), ((u_4 0), .inr (4, [.ref (u_4 1), .ref (u_4 2), .ref (u_4 3), .ref (p2 1), .int 1, .int 1])), ((u_4 1), .inl (cI, 9216, .inl (upd (fun k => if 0 ≤ k ∧ k < 9 then 2147483647 else 0) 0 0)))] H := hP
        have hD : va_D A [(p0, .inr (6, [.ref (p2 0), .int 0, .ref (p2 1), .ref (p2 14), .ref (p2 27), .ref (p2 28), .ref (p2 29), .ref (p2 30), .ref (p2 54), .ref (u_4 0), .int 1, .int 1, .int 999, .ref (p2 61), .ref (p2 62), .ref (p2 63), .ref (p2 60)])), ((p2 28), .inr (0, [.int 0, .int 0, .int 0, .int 0])), ((u_4 2), .inr (0, [.int 0, .int 0, .int 0, .int 0])), ((p2 1), .inr (5, [.ref (p2 2), .ref (p2 3), .ref (p2 4), .ref (p2 5), .ref (p2 6), .ref (p2 7), .ref (p2 8), .ref (p2 9), .ref (p2 10), .ref (p2 11), .ref (p2 12), .ref (p2 13), .int 0, .int 0, .int 0, .int 0, .int 0, .int 100, .int 0, .int 0])), ((u_4 3), .inr (0, [.int 0, .int 0, .int 0, .int 0])), ((p2 12), .inl (cI, 3, .inl (fun _ => 0))), ((p2 11), .inl (cI, 3, .inl (fun _ => 0))), ((u_4 0), .inr (4, [.ref (u_4 1), .ref (u_4 2), .ref (u_4 3), .ref (p2 1), .int 1, .int 1])), ((u_4 1), .inl (cI, 9216, .inl (upd (fun k => if 0 ≤ k ∧ k < 9 then 2147483647 else 0) 0 0)))] := hD
        exact k_ri B hP hD hS dX6_ladder_31 (8, (fun k9 => match k9 with | 0 => (u_4 2) | 1 => (u_4 3) | 2 => (u_4 0) | 3 => (u_4 1) | _ => 0)) [0, 1, 3, 5, 6, 2, 4, 7, 8] rfl rfl rfl (Nat.le_of_ble_eq_true rfl) (Nat.le_of_ble_eq_true rfl) ⟨c_1, c_2, c_16, rfl⟩
      · obtain ⟨c_17, rfl⟩ : (p1.toInt = 8) ∧ r_7 = 0 := hw
        have hP : va_P (dC, dI) vwCl [(p0, .inr (6, [.ref (p2 0), .int 0, .ref (p2 1), .ref (p2 14), .ref (p2 27), .ref (p2 28), .ref (p2 29), .ref (p2 30), .ref (p2 54), .ref (u_4 0), .int 1, .int 1, .int 999, .ref (p2 61), .ref (p2 62), .ref (p2 63), .ref (p2 60)])), ((p2 28), .inr (0, [.int 0, .int 0, .int 0, .int 0])), ((u_4 2), .inr (0, [.int 0, .int 0, .int 0, .int 0])), ((p2 1), .inr (5, [.ref (p2 2), .ref (p2 3), .ref (p2 4), .ref (p2 5), .ref (p2 6), .ref (p2 7), .ref (p2 8), .ref (p2 9), .ref (p2 10), .ref (p2 11), .ref (p2 12), .ref (p2 13), .int 0, .int 0, .int 0, .int 0, .int 0, .int 100, .int 0, .int 0])), ((u_4 3), .inr (0, [.int 0, .int 0, .int 0, .int 0])), ((p2 12), .inl (cI, 3, .inl (fun _ => 0))), ((p2 11), .inl (cI, 3, .inl (fun _ => 0))), ((u_4 0), .inr (4, [.ref (u_4 1), .ref (u_4 2), .ref (u_4 3), .ref (p2 1), .int 1, .int 1])), ((u_4 1), .inl (cI, 9216, .inl (upd (fun k => if 0 ≤ k ∧ k < 9 then 2147483647 else 0) 0 0)))] H := hP
        have hD : va_D A [(p0, .inr (6, [.ref (p2 0), .int 0, .ref (p2 1), .ref (p2 14), .ref (p2 27), .ref (p2 28), .ref (p2 29), .ref (p2 30), .ref (p2 54), .ref (u_4 0), .int 1, .int 1, .int 999, .ref (p2 61), .ref (p2 62), .ref (p2 63), .ref (p2 60)])), ((p2 28), .inr (0, [.int 0, .int 0, .int 0, .int 0])), ((u_4 2), .inr (0, [.int 0, .int 0, .int 0, .int 0])), ((p2 1), .inr (5, [.ref (p2 2), .ref (p2 3), .ref (p2 4), .ref (p2 5), .ref (p2 6), .ref (p2 7), .ref (p2 8), .ref (p2 9), .ref (p2 10), .ref (p2 11), .ref (p2 12), .ref (p2 13), .int 0, .int 0, .int 0, .int 0, .int 0, .int 100, .int 0, .int 0])), ((u_4 3), .inr (0, [.int 0, .int 0, .int 0, .int 0])), ((p2 12), .inl (cI, 3, .inl (fun _ => 0))), ((p2 11), .inl (cI, 3, .inl (fun _ => 0))), ((u_4 0), .inr (4, [.ref (u_4 1), .ref (u_4 2), .ref (u_4 3), .ref (p2 1), .int 1, .int 1])), ((u_4 1), .inl (cI, 9216, .inl (upd (fun k => if 0 ≤ k ∧ k < 9 then 2147483647 else 0) 0 0)))] := hD
        exact k_ri B hP hD hS dX6_ladder_31 (9, (fun k9 => match k9 with | 0 => (u_4 2) | 1 => (u_4 3) | 2 => (u_4 0) | 3 => (u_4 1) | _ => 0)) [0, 1, 3, 5, 6, 2, 4, 7, 8] rfl rfl rfl (Nat.le_of_ble_eq_true rfl) (Nat.le_of_ble_eq_true rfl) ⟨c_1, c_2, c_17, rfl⟩
      · exact False.elim hw
    · have c_2 : 8 < p1.toInt := k_leF rfl (by decide +kernel) c_2
      refine lv_iconst (v := (-1)) hx hb dX6_ladder_10 (by decide +kernel) ?_
      exact k_ri B hP hD hS dX6_ladder_11 (10, (fun _ => 0)) [0, 1, 2, 3, 4] rfl rfl rfl (Nat.le_of_ble_eq_true rfl) (Nat.le_of_ble_eq_true rfl) ⟨c_1, c_2, rfl⟩
set_option maxHeartbeats 4000000 in
set_option maxRecDepth 100000 in
theorem c_X7_is_v5 (l : Launch) (dC : Nat → ClassId) (dI : Nat → Nat → Nat) (cI cJ cZ cM : ClassId) (p0 : Int32) (b_0 : -2147483648 ≤ p0.toInt) (t_0 : p0.toInt ≤ -1)  : k_Mi l yX7_is wsX7_is ({ frames := 1, cells := 0, slots := 0, locals := 40 }) (dC, dI) vwCl (tyy cI cJ cZ cM) [] [.int p0, .int 0, .int 8] 0 0 (fun (u9 : Unit) => []) (fun (r9 : Int32) (u9 : Unit) => r9 = 0) := by
  refine fun sz => k_enter (cc := cX7_is) (maxL := 3) (ret := some (.boolean)) (Qc := fun A => va_Qi (fun (r9 : Int32) (u9 : Unit) => r9 = 0) (fun u => k_B (dC, dI) vwCl (tyy cI cJ cZ cM) A ((fun (u9 : Unit) => []) u)) A) sz (by decide +kernel) rfl (Nat.le_of_ble_eq_true rfl) (fun p e s m args below meth c A ls H locs B hP hD hS hl => ?_)
  obtain ⟨hx, hb, hml, hown, hts, hr, hlk, hnm, hK, hA, hN, hC⟩ := id B
  have hown : s.vm.findClass RX7 = some m.cls := hown
  have hl : lv_has ls 3 [(0, .int p0), (1, .int 0), (2, .int 8)] := hl
  refine lv_iload_n hx hb dX7_is_0 rfl (lv_at hl 0 rfl) ?_
  refine lv_iload_n hx hb dX7_is_1 rfl (lv_at hl 1 rfl) ?_
  refine lv_icmp_lt (tgt := 14) hx hb dX7_is_2 (by decide) (fun c_1 => ?_) (fun c_1 => ?_)
  · have c_1 : p0.toInt < 0 := k_ltT rfl (by decide +kernel) c_1
    refine lv_iconst (v := 0) hx hb dX7_is_14 (by decide +kernel) ?_
    exact k_ri B hP hD hS dX7_is_15 () [] rfl rfl rfl (Nat.le_of_ble_eq_true rfl) (Nat.le_of_ble_eq_true rfl) rfl
  · have c_1 : 0 ≤ p0.toInt := k_ltF rfl (by decide +kernel) c_1
    exfalso; omega
set_option maxHeartbeats 4000000 in
set_option maxRecDepth 100000 in
theorem c_X7_ladder_v0 (l : Launch) (dC : Nat → ClassId) (dI : Nat → Nat → Nat) (cI cJ cZ cM : ClassId) (p0 : Nat) (p1 : Int32) (b_0 : -2147483648 ≤ p1.toInt) (t_0 : p1.toInt ≤ -1)  : k_Mi l yX7_ladder wsX7_ladder ({ frames := 2, cells := 0, slots := 0, locals := 62 }) (dC, dI) vwCl (tyy cI cJ cZ cM) [] [.ref p0, .int p1] 0 0 (fun (u9 : Unit) => []) (fun (r9 : Int32) (u9 : Unit) => r9 = (-1)) := by
  refine fun sz => k_enter (cc := cX7_ladder) (maxL := 4) (ret := some (.int)) (Qc := fun A => va_Qi (fun (r9 : Int32) (u9 : Unit) => r9 = (-1)) (fun u => k_B (dC, dI) vwCl (tyy cI cJ cZ cM) A ((fun (u9 : Unit) => []) u)) A) sz (by decide +kernel) rfl (Nat.le_of_ble_eq_true rfl) (fun p e s m args below meth c A ls H locs B hP hD hS hl => ?_)
  obtain ⟨hx, hb, hml, hown, hts, hr, hlk, hnm, hK, hA, hN, hC⟩ := id B
  have hown : s.vm.findClass RX7 = some m.cls := hown
  have hl : lv_has ls 4 [(0, .ref p0), (1, .int p1)] := hl
  refine lv_iload_n hx hb dX7_ladder_0 rfl (lv_at hl 1 rfl) ?_
  refine lv_iconst (v := 0) hx hb dX7_ladder_1 (by decide +kernel) ?_
  refine lv_bipush (v := 8) hx hb dX7_ladder_2 (by decide +kernel) ?_
  refine k_ci (wc := []) (wr := []) (fun hPc hDc hFc => va_runS (As := [.int p1, .int 0, .int 8]) (rest := []) ⟨hx, hb, hml, hown, hts⟩ (c_X7_is_v5 l dC dI cI cJ cZ cM p1 (by omega) (by omega) H.size) (va_cwS 3 hts gX7_ladder_X7_is rfl rfl rfl (by decide +kernel) ⟨(Nat.le_of_ble_eq_true rfl), (Nat.le_of_ble_eq_true rfl)⟩) (k_pS hPc hDc hK hN hC hS hFc) rfl rfl hl.1 rfl (lv_room (Nat.le_of_ble_eq_true rfl)) dX7_ladder_4 ⟨(Nat.le_of_ble_eq_true rfl), (Nat.le_of_ble_eq_true rfl)⟩) hP hD hS hA [] [] rfl rfl rfl rfl (by decide) (fun _ => rfl) 0 0 rfl rfl (fun r_1 u_2 H locs hw hP hD hS => ?_)
  obtain rfl : r_1 = 0 := hw
  have hP : va_P (dC, dI) vwCl [] H := hP
  have hD : va_D A [] := hD
  refine lv_if_ne (tgt := 12) hx hb dX7_ladder_7 (by decide) (fun q9 => absurd q9 (by decide +kernel)) (fun _ => ?_)
  refine lv_iconst (v := (-1)) hx hb dX7_ladder_10 (by decide +kernel) ?_
  exact k_ri B hP hD hS dX7_ladder_11 () [] rfl rfl rfl (Nat.le_of_ble_eq_true rfl) (Nat.le_of_ble_eq_true rfl) rfl
set_option maxHeartbeats 4000000 in
set_option maxRecDepth 100000 in
theorem c_X7_is_v6 (l : Launch) (dC : Nat → ClassId) (dI : Nat → Nat → Nat) (cI cJ cZ cM : ClassId)    : k_Mi l yX7_is wsX7_is ({ frames := 1, cells := 0, slots := 0, locals := 40 }) (dC, dI) vwCl (tyy cI cJ cZ cM) [] [.int 0, .int 0, .int 8] 0 0 (fun (u9 : Unit) => []) (fun (r9 : Int32) (u9 : Unit) => r9 = 1) := by
  refine fun sz => k_enter (cc := cX7_is) (maxL := 3) (ret := some (.boolean)) (Qc := fun A => va_Qi (fun (r9 : Int32) (u9 : Unit) => r9 = 1) (fun u => k_B (dC, dI) vwCl (tyy cI cJ cZ cM) A ((fun (u9 : Unit) => []) u)) A) sz (by decide +kernel) rfl (Nat.le_of_ble_eq_true rfl) (fun p e s m args below meth c A ls H locs B hP hD hS hl => ?_)
  obtain ⟨hx, hb, hml, hown, hts, hr, hlk, hnm, hK, hA, hN, hC⟩ := id B
  have hown : s.vm.findClass RX7 = some m.cls := hown
  have hl : lv_has ls 3 [(0, .int 0), (1, .int 0), (2, .int 8)] := hl
  refine lv_iload_n hx hb dX7_is_0 rfl (lv_at hl 0 rfl) ?_
  refine lv_iload_n hx hb dX7_is_1 rfl (lv_at hl 1 rfl) ?_
  refine lv_icmp_lt (tgt := 14) hx hb dX7_is_2 (by decide) (fun q9 => absurd q9 (by decide +kernel)) (fun _ => ?_)
  refine lv_iload_n hx hb dX7_is_5 rfl (lv_at hl 0 rfl) ?_
  refine lv_iload_n hx hb dX7_is_6 rfl (lv_at hl 2 rfl) ?_
  refine lv_icmp_gt (tgt := 14) hx hb dX7_is_7 (by decide) (fun q9 => absurd q9 (by decide +kernel)) (fun _ => ?_)
  refine lv_iconst (v := 1) hx hb dX7_is_10 (by decide +kernel) ?_
  refine lv_goto (tgt := 15) hx hb dX7_is_11 (by decide) ?_
  exact k_ri B hP hD hS dX7_is_15 () [] rfl rfl rfl (Nat.le_of_ble_eq_true rfl) (Nat.le_of_ble_eq_true rfl) rfl
set_option maxHeartbeats 4000000 in
set_option maxRecDepth 100000 in
theorem c_X7_climbsFrom_v0 (l : Launch) (dC : Nat → ClassId) (dI : Nat → Nat → Nat) (cI cJ cZ cM : ClassId) (p0 : Nat) (p1 : Nat → Nat)   : k_Mv l yX7_climbsFrom wsX7_climbsFrom ({ frames := 1, cells := 0, slots := 0, locals := 40 }) (dC, dI) vwCl (tyy cI cJ cZ cM) [(p0, .inr (7, oM p1 i7 j7)), ((p1 72), .inl (cI, 9216, .inl (upd (fun _ => (-1)) 0 0))), ((p1 18), .inl (cI, 2, .inl (fun _ => 0)))] [.ref p0, .int 0, .int 0] 0 0 (fun (u9 : Unit) => [(p0, .inr (7, oM p1 i7 j7)), ((p1 72), .inl (cI, 9216, .inl (upd (fun _ => (-1)) 0 0))), ((p1 18), .inl (cI, 2, .inl (fun _ => 0)))]) (fun (u9 : Unit) => True) := by
  refine fun sz => k_enter (cc := cX7_climbsFrom) (maxL := 7) (ret := none) (Qc := fun A => va_Qv (fun (u9 : Unit) => True) (fun u => k_B (dC, dI) vwCl (tyy cI cJ cZ cM) A ((fun (u9 : Unit) => [(p0, .inr (7, oM p1 i7 j7)), ((p1 72), .inl (cI, 9216, .inl (upd (fun _ => (-1)) 0 0))), ((p1 18), .inl (cI, 2, .inl (fun _ => 0)))]) u)) A) sz (by decide +kernel) rfl (Nat.le_of_ble_eq_true rfl) (fun p e s m args below meth c A ls H locs B hP hD hS hl => ?_)
  obtain ⟨hx, hb, hml, hown, hts, hr, hlk, hnm, hK, hA, hN, hC⟩ := id B
  have hown : s.vm.findClass RX7 = some m.cls := hown
  have hl : lv_has ls 7 [(0, .ref p0), (1, .int 0), (2, .int 0)] := hl
  have w_0 : (Cond.fieldLink RX7 231 "WishSeaModel" "rungSea" "[I").before args s = true := hts _ (List.mem_of_getElem? (i := 1) rfl)
  have w_1 : (Cond.fieldLink RX7 66 "WishSeaModel" "wishes" "[I").before args s = true := hts _ (List.mem_of_getElem? (i := 2) rfl)
  have w_2 : (Cond.fieldLink RX7 51 "WishSeaModel" "bank" "I").before args s = true := hts _ (List.mem_of_getElem? (i := 3) rfl)
  have hinX7 : ∀ w ∈ u_ws RX7 TX7 92, w ∈ wsX7_climbsFrom := fun _ h => List.mem_cons_of_mem _ (List.mem_append_right _ h)
  refine lv_aload_n hx hb dX7_climbsFrom_0 rfl (lv_at hl 0 rfl) ?_
  refine k_get (D := (dC, dI)) (ci := 7) (v := .ref (p1 72)) (C := RX7) (T := TX7) (N := 92) hx hb hts hinX7 hown hK hP 0 rfl rfl 72 (by decide) w_0 rfl rfl dX7_climbsFrom_1 ?_
  refine lv_sipush (v := 1024) hx hb dX7_climbsFrom_4 (by decide +kernel) ?_
  refine lv_iload_n hx hb dX7_climbsFrom_7 rfl (lv_at hl 1 rfl) ?_
  refine lv_imul hx hb dX7_climbsFrom_8 ?_
  refine k_int (v := 0) (by decide +kernel) ?_
  refine lv_iload_n hx hb dX7_climbsFrom_9 rfl (lv_at hl 2 rfl) ?_
  refine lv_iadd hx hb dX7_climbsFrom_10 ?_
  refine k_int (v := 0) (by decide +kernel) ?_
  refine k_iald (v := 0) hx hb hK hP 1 0 0 rfl rfl rfl (Nat.le_of_ble_eq_true rfl) (Nat.le_of_ble_eq_true rfl) rfl dX7_climbsFrom_11 ?_
  refine lv_istore_n (lv' := [(3, .int 0), (0, .ref p0), (1, .int 0), (2, .int 0)]) hx hb dX7_climbsFrom_12 rfl hl (by decide) rfl (fun ls hl => ?_)
  refine lv_iconst (v := 0) hx hb dX7_climbsFrom_13 (by decide +kernel) ?_
  refine lv_istore (lv' := [(4, .int 0), (3, .int 0), (0, .ref p0), (1, .int 0), (2, .int 0)]) hx hb dX7_climbsFrom_14 hl (by decide) rfl (fun ls hl => ?_)
  refine lv_iload hx hb dX7_climbsFrom_16 (lv_at hl 0 rfl) ?_
  refine lv_aload_n hx hb dX7_climbsFrom_18 rfl (lv_at hl 2 rfl) ?_
  refine k_get (D := (dC, dI)) (ci := 7) (v := .ref (p1 18)) (C := RX7) (T := TX7) (N := 92) hx hb hts hinX7 hown hK hP 0 rfl rfl 18 (by decide) w_1 rfl rfl dX7_climbsFrom_19 ?_
  refine lv_aload_n hx hb dX7_climbsFrom_22 rfl (lv_at hl 2 rfl) ?_
  refine k_get (D := (dC, dI)) (ci := 7) (v := .int 0) (C := RX7) (T := TX7) (N := 92) hx hb hts hinX7 hown hK hP 0 rfl rfl 13 (by decide) w_2 rfl rfl dX7_climbsFrom_23 ?_
  refine k_iald (v := 0) hx hb hK hP 2 0 0 rfl rfl rfl (Nat.le_of_ble_eq_true rfl) (Nat.le_of_ble_eq_true rfl) rfl dX7_climbsFrom_26 ?_
  refine lv_icmp_ge (tgt := 161) hx hb dX7_climbsFrom_27 (by decide) (fun _ => ?_) (fun q9 => absurd q9 (by decide +kernel))
  exact k_rv B hP hD hS dX7_climbsFrom_161 () [0, 1, 2] rfl rfl (Nat.le_of_ble_eq_true rfl) (Nat.le_of_ble_eq_true rfl) trivial
set_option maxHeartbeats 4000000 in
set_option maxRecDepth 100000 in
theorem c_X7_climbs_v0 (l : Launch) (dC : Nat → ClassId) (dI : Nat → Nat → Nat) (cI cJ cZ cM : ClassId) (p0 : Nat) (p1 : Nat → Nat)   : k_Mv l yX7_climbs wsX7_climbs ({ frames := 2, cells := 0, slots := 0, locals := 66 }) (dC, dI) vwCl (tyy cI cJ cZ cM) [(p0, .inr (7, oM p1 i7 j7)), ((p1 49), .inl (cI, 22, .inl (fun _ => 0))), ((p1 50), .inl (cI, 22, .inl (fun _ => 0))), ((p1 72), .inl (cI, 9216, .inl (fun _ => 0))), ((p1 14), .inl (cI, 2, .inl (fun _ => 0))), ((p1 18), .inl (cI, 2, .inl (fun _ => 0)))] [.ref p0] 0 0 (fun (u9 : Unit) => [(p0, .inr (7, oM p1 i7 j7)), ((p1 49), .inl (cI, 22, .inl (fun _ => 0))), ((p1 50), .inl (cI, 22, .inl (fun _ => 0))), ((p1 72), .inl (cI, 9216, .inl (upd (fun _ => (-1)) 0 0))), ((p1 14), .inl (cI, 2, .inl (fun _ => 0))), ((p1 18), .inl (cI, 2, .inl (fun _ => 0)))]) (fun (u9 : Unit) => True) := by
  refine fun sz => k_enter (cc := cX7_climbs) (maxL := 3) (ret := none) (Qc := fun A => va_Qv (fun (u9 : Unit) => True) (fun u => k_B (dC, dI) vwCl (tyy cI cJ cZ cM) A ((fun (u9 : Unit) => [(p0, .inr (7, oM p1 i7 j7)), ((p1 49), .inl (cI, 22, .inl (fun _ => 0))), ((p1 50), .inl (cI, 22, .inl (fun _ => 0))), ((p1 72), .inl (cI, 9216, .inl (upd (fun _ => (-1)) 0 0))), ((p1 14), .inl (cI, 2, .inl (fun _ => 0))), ((p1 18), .inl (cI, 2, .inl (fun _ => 0)))]) u)) A) sz (by decide +kernel) rfl (Nat.le_of_ble_eq_true rfl) (fun p e s m args below meth c A ls H locs B hP hD hS hl => ?_)
  obtain ⟨hx, hb, hml, hown, hts, hr, hlk, hnm, hK, hA, hN, hC⟩ := id B
  have hown : s.vm.findClass RX7 = some m.cls := hown
  have hl : lv_has ls 3 [(0, .ref p0)] := hl
  have w_0 : (Cond.fieldLink RX7 231 "WishSeaModel" "rungSea" "[I").before args s = true := hts _ (List.mem_of_getElem? (i := 1) rfl)
  have w_1 : (Cond.fieldLink RX7 162 "WishSeaModel" "hadOf" "[I").before args s = true := hts _ (List.mem_of_getElem? (i := 2) rfl)
  have w_2 : (Cond.fieldLink RX7 165 "WishSeaModel" "seaOf" "[I").before args s = true := hts _ (List.mem_of_getElem? (i := 3) rfl)
  have w_3 : (Cond.fieldLink RX7 54 "WishSeaModel" "things" "[I").before args s = true := hts _ (List.mem_of_getElem? (i := 4) rfl)
  have w_4 : (Cond.fieldLink RX7 51 "WishSeaModel" "bank" "I").before args s = true := hts _ (List.mem_of_getElem? (i := 5) rfl)
  have hinX7 : ∀ w ∈ u_ws RX7 TX7 92, w ∈ wsX7_climbs := fun _ h => List.mem_cons_of_mem _ (List.mem_append_right _ h)
  refine lv_iconst (v := 0) hx hb dX7_climbs_0 (by decide +kernel) ?_
  refine lv_istore_n (lv' := [(1, .int 0), (0, .ref p0)]) hx hb dX7_climbs_1 rfl hl (by decide) rfl (fun ls hl => ?_)
  have loop_k_1 : ∀ (n_k_1 : Nat) (kk_1 : Nat) (fk_1 : Nat → Int32) (h2k_1 : kk_1 ≤ 9216) (h3k_1 : ∀ j, j < kk_1 → fk_1 j = (-1)) (hn_k_1 : 9216 - kk_1 < n_k_1) (H : Heap) (locs : List Loc) (ls : Array Slot), va_P (dC, dI) vwCl [(p0, .inr (7, oM p1 i7 j7)), ((p1 49), .inl (cI, 22, .inl (fun _ => 0))), ((p1 50), .inl (cI, 22, .inl (fun _ => 0))), ((p1 72), .inl (cI, 9216, .inl fk_1)), ((p1 14), .inl (cI, 2, .inl (fun _ => 0))), ((p1 18), .inl (cI, 2, .inl (fun _ => 0)))] H → va_D A [(p0, .inr (7, oM p1 i7 j7)), ((p1 49), .inl (cI, 22, .inl (fun _ => 0))), ((p1 50), .inl (cI, 22, .inl (fun _ => 0))), ((p1 72), .inl (cI, 9216, .inl fk_1)), ((p1 14), .inl (cI, 2, .inl (fun _ => 0))), ((p1 18), .inl (cI, 2, .inl (fun _ => 0)))] → va_S A s.heap H locs → lv_has ls 3 [(1, .int (nI kk_1)), (0, .ref p0)] → W p l e ({ frames := 2, cells := 0, slots := 0, locals := 66 }) s m args below meth c H locs 0 0 (MQ below (va_Qv (fun (u9 : Unit) => True) (fun u => k_B (dC, dI) vwCl (tyy cI cJ cZ cM) A ((fun (u9 : Unit) => [(p0, .inr (7, oM p1 i7 j7)), ((p1 49), .inl (cI, 22, .inl (fun _ => 0))), ((p1 50), .inl (cI, 22, .inl (fun _ => 0))), ((p1 72), .inl (cI, 9216, .inl (upd (fun _ => (-1)) 0 0))), ((p1 14), .inl (cI, 2, .inl (fun _ => 0))), ((p1 18), .inl (cI, 2, .inl (fun _ => 0)))]) u)) A) args s 0 0 A) (F0 m 2 ls []) := by
    intro n_k_1
    induction n_k_1 with
    | zero => intro kk_1 fk_1 h2k_1 h3k_1 hn_k_1; exact absurd hn_k_1 (Nat.not_lt_zero _)
    | succ n_k_1 ih_k_1 =>
      intro kk_1 fk_1 h2k_1 h3k_1 hn_k_1 H locs ls hP hD hS hl
      refine lv_iload_n hx hb dX7_climbs_2 rfl (lv_at hl 0 rfl) ?_
      refine lv_sipush (v := 9216) hx hb dX7_climbs_3 (by decide +kernel) ?_
      refine lv_icmp_ge (tgt := 22) hx hb dX7_climbs_6 (by decide) (fun c_2 => ?_) (fun c_2 => ?_)
      · have c_2 : 9216 ≤ ((kk_1 : Nat) : Int) := k_leT (by decide +kernel) (nI_toInt (by omega)) c_2
        obtain rfl : kk_1 = 9216 := by omega
        have hl : lv_has ls 3 [(1, .int 9216), (0, .ref p0)] := hl
        have hP : va_P (dC, dI) vwCl [(p0, .inr (7, oM p1 i7 j7)), ((p1 49), .inl (cI, 22, .inl (fun _ => 0))), ((p1 50), .inl (cI, 22, .inl (fun _ => 0))), ((p1 72), .inl (cI, 9216, .inl fk_1)), ((p1 14), .inl (cI, 2, .inl (fun _ => 0))), ((p1 18), .inl (cI, 2, .inl (fun _ => 0)))] H := hP
        have hD : va_D A [(p0, .inr (7, oM p1 i7 j7)), ((p1 49), .inl (cI, 22, .inl (fun _ => 0))), ((p1 50), .inl (cI, 22, .inl (fun _ => 0))), ((p1 72), .inl (cI, 9216, .inl fk_1)), ((p1 14), .inl (cI, 2, .inl (fun _ => 0))), ((p1 18), .inl (cI, 2, .inl (fun _ => 0)))] := hD
        have hP : va_P (dC, dI) vwCl [(p0, .inr (7, oM p1 i7 j7)), ((p1 49), .inl (cI, 22, .inl (fun _ => 0))), ((p1 50), .inl (cI, 22, .inl (fun _ => 0))), ((p1 72), .inl (cI, 9216, .inl (fun _ => (-1)))), ((p1 14), .inl (cI, 2, .inl (fun _ => 0))), ((p1 18), .inl (cI, 2, .inl (fun _ => 0)))] H := k_contI (g := fun _ => (-1)) hP 3 rfl h3k_1 rfl
        have hD : va_D A [(p0, .inr (7, oM p1 i7 j7)), ((p1 49), .inl (cI, 22, .inl (fun _ => 0))), ((p1 50), .inl (cI, 22, .inl (fun _ => 0))), ((p1 72), .inl (cI, 9216, .inl (fun _ => (-1)))), ((p1 14), .inl (cI, 2, .inl (fun _ => 0))), ((p1 18), .inl (cI, 2, .inl (fun _ => 0)))] := k_contD hD 3 rfl rfl
        refine lv_aload_n hx hb dX7_climbs_22 rfl (lv_at hl 1 rfl) ?_
        refine k_get (D := (dC, dI)) (ci := 7) (v := .ref (p1 72)) (C := RX7) (T := TX7) (N := 92) hx hb hts hinX7 hown hK hP 0 rfl rfl 72 (by decide) w_0 rfl rfl dX7_climbs_23 ?_
        refine lv_aload_n hx hb dX7_climbs_26 rfl (lv_at hl 1 rfl) ?_
        refine k_get (D := (dC, dI)) (ci := 7) (v := .ref (p1 49)) (C := RX7) (T := TX7) (N := 92) hx hb hts hinX7 hown hK hP 0 rfl rfl 49 (by decide) w_1 rfl rfl dX7_climbs_27 ?_
        refine lv_iconst (v := 0) hx hb dX7_climbs_30 (by decide +kernel) ?_
        refine k_iald (v := 0) hx hb hK hP 1 0 0 rfl rfl rfl (Nat.le_of_ble_eq_true rfl) (Nat.le_of_ble_eq_true rfl) rfl dX7_climbs_31 ?_
        refine lv_aload_n hx hb dX7_climbs_32 rfl (lv_at hl 1 rfl) ?_
        refine k_get (D := (dC, dI)) (ci := 7) (v := .ref (p1 50)) (C := RX7) (T := TX7) (N := 92) hx hb hts hinX7 hown hK hP 0 rfl rfl 50 (by decide) w_2 rfl rfl dX7_climbs_33 ?_
        refine lv_iconst (v := 0) hx hb dX7_climbs_36 (by decide +kernel) ?_
        refine k_iald (v := 0) hx hb hK hP 2 0 0 rfl rfl rfl (Nat.le_of_ble_eq_true rfl) (Nat.le_of_ble_eq_true rfl) rfl dX7_climbs_37 ?_
        refine k_iast (g := (upd (fun _ => (-1)) 0 0)) (ws' := [(p0, .inr (7, oM p1 i7 j7)), ((p1 49), .inl (cI, 22, .inl (fun _ => 0))), ((p1 50), .inl (cI, 22, .inl (fun _ => 0))), ((p1 72), .inl (cI, 9216, .inl (upd (fun _ => (-1)) 0 0))), ((p1 14), .inl (cI, 2, .inl (fun _ => 0))), ((p1 18), .inl (cI, 2, .inl (fun _ => 0)))]) hx hb hK hP hD hS 3 0 0 rfl rfl rfl (Nat.le_of_ble_eq_true rfl) (Nat.le_of_ble_eq_true rfl) rfl rfl dX7_climbs_38 (fun H locs hP hD hS => ?_)
        refine lv_iconst (v := 0) hx hb dX7_climbs_39 (by decide +kernel) ?_
        refine lv_istore_n (lv' := [(1, .int 0), (0, .ref p0)]) hx hb dX7_climbs_40 rfl hl (by decide) rfl (fun ls hl => ?_)
        refine lv_iload_n hx hb dX7_climbs_41 rfl (lv_at hl 0 rfl) ?_
        refine lv_bipush (v := 8) hx hb dX7_climbs_42 (by decide +kernel) ?_
        refine lv_icmp_ge (tgt := 98) hx hb dX7_climbs_44 (by decide) (fun q9 => absurd q9 (by decide +kernel)) (fun _ => ?_)
        refine lv_iconst (v := 0) hx hb dX7_climbs_47 (by decide +kernel) ?_
        refine lv_istore_n (lv' := [(2, .int 0), (1, .int 0), (0, .ref p0)]) hx hb dX7_climbs_48 rfl hl (by decide) rfl (fun ls hl => ?_)
        refine lv_iload_n hx hb dX7_climbs_49 rfl (lv_at hl 0 rfl) ?_
        refine lv_iconst (v := 1) hx hb dX7_climbs_50 (by decide +kernel) ?_
        refine lv_aload_n hx hb dX7_climbs_51 rfl (lv_at hl 2 rfl) ?_
        refine k_get (D := (dC, dI)) (ci := 7) (v := .ref (p1 14)) (C := RX7) (T := TX7) (N := 92) hx hb hts hinX7 hown hK hP 0 rfl rfl 14 (by decide) w_3 rfl rfl dX7_climbs_52 ?_
        refine lv_aload_n hx hb dX7_climbs_55 rfl (lv_at hl 2 rfl) ?_
        refine k_get (D := (dC, dI)) (ci := 7) (v := .int 0) (C := RX7) (T := TX7) (N := 92) hx hb hts hinX7 hown hK hP 0 rfl rfl 13 (by decide) w_4 rfl rfl dX7_climbs_56 ?_
        refine k_iald (v := 0) hx hb hK hP 4 0 0 rfl rfl rfl (Nat.le_of_ble_eq_true rfl) (Nat.le_of_ble_eq_true rfl) rfl dX7_climbs_59 ?_
        refine lv_ishl hx hb dX7_climbs_60 ?_
        refine k_int (v := 1) (by decide +kernel) ?_
        refine lv_icmp_ge (tgt := 92) hx hb dX7_climbs_61 (by decide) (fun q9 => absurd q9 (by decide +kernel)) (fun _ => ?_)
        refine lv_aload_n hx hb dX7_climbs_64 rfl (lv_at hl 2 rfl) ?_
        refine k_get (D := (dC, dI)) (ci := 7) (v := .ref (p1 72)) (C := RX7) (T := TX7) (N := 92) hx hb hts hinX7 hown hK hP 0 rfl rfl 72 (by decide) w_0 rfl rfl dX7_climbs_65 ?_
        refine lv_sipush (v := 1024) hx hb dX7_climbs_68 (by decide +kernel) ?_
        refine lv_iload_n hx hb dX7_climbs_71 rfl (lv_at hl 1 rfl) ?_
        refine lv_imul hx hb dX7_climbs_72 ?_
        refine k_int (v := 0) (by decide +kernel) ?_
        refine lv_iload_n hx hb dX7_climbs_73 rfl (lv_at hl 0 rfl) ?_
        refine lv_iadd hx hb dX7_climbs_74 ?_
        refine k_int (v := 0) (by decide +kernel) ?_
        refine k_iald (v := 0) hx hb hK hP 3 0 0 rfl rfl rfl (Nat.le_of_ble_eq_true rfl) (Nat.le_of_ble_eq_true rfl) rfl dX7_climbs_75 ?_
        refine lv_iconst (v := (-1)) hx hb dX7_climbs_76 (by decide +kernel) ?_
        refine lv_icmp_eq (tgt := 86) hx hb dX7_climbs_77 (by decide) (fun q9 => absurd q9 (by decide +kernel)) (fun _ => ?_)
        refine lv_aload_n hx hb dX7_climbs_80 rfl (lv_at hl 2 rfl) ?_
        refine lv_iload_n hx hb dX7_climbs_81 rfl (lv_at hl 1 rfl) ?_
        refine lv_iload_n hx hb dX7_climbs_82 rfl (lv_at hl 0 rfl) ?_
        refine k_cv (wc := [(p0, .inr (7, oM p1 i7 j7)), ((p1 72), .inl (cI, 9216, .inl (upd (fun _ => (-1)) 0 0))), ((p1 18), .inl (cI, 2, .inl (fun _ => 0)))]) (wr := [((p1 49), .inl (cI, 22, .inl (fun _ => 0))), ((p1 50), .inl (cI, 22, .inl (fun _ => 0))), ((p1 14), .inl (cI, 2, .inl (fun _ => 0)))]) (fun hPc hDc hFc => va_runV (As := [.int 0, .int 0]) (rest := []) ⟨hx, hb, hml, hown, hts⟩ (c_X7_climbsFrom_v0 l dC dI cI cJ cZ cM p0 p1 H.size) (cwV 2 hts gX7_climbs_X7_climbsFrom rfl rfl rfl (by decide +kernel) ⟨(Nat.le_of_ble_eq_true rfl), (Nat.le_of_ble_eq_true rfl)⟩) (k_pV hPc hDc hK hN hC hS hFc hP (q0 := 0) (ci := 7) rfl rfl) rfl rfl hl.1 rfl (lv_room (Nat.le_of_ble_eq_true rfl)) dX7_climbs_83 ⟨(Nat.le_of_ble_eq_true rfl), (Nat.le_of_ble_eq_true rfl)⟩) hP hD hS hA [0, 3, 5] [1, 2, 4] rfl rfl rfl rfl (by decide) (fun _ => rfl) 0 0 rfl rfl (fun u_4 H locs hw hP hD hS => ?_)
        have hP : va_P (dC, dI) vwCl [((p1 49), .inl (cI, 22, .inl (fun _ => 0))), ((p1 50), .inl (cI, 22, .inl (fun _ => 0))), ((p1 14), .inl (cI, 2, .inl (fun _ => 0))), (p0, .inr (7, oM p1 i7 j7)), ((p1 72), .inl (cI, 9216, .inl (upd (fun _ => (-1)) 0 0))), ((p1 18), .inl (cI, 2, .inl (fun _ => 0)))] H := hP
        have hD : va_D A [((p1 49), .inl (cI, 22, .inl (fun _ => 0))), ((p1 50), .inl (cI, 22, .inl (fun _ => 0))), ((p1 14), .inl (cI, 2, .inl (fun _ => 0))), (p0, .inr (7, oM p1 i7 j7)), ((p1 72), .inl (cI, 9216, .inl (upd (fun _ => (-1)) 0 0))), ((p1 18), .inl (cI, 2, .inl (fun _ => 0)))] := hD
        refine lv_iinc (v := 1) (lv' := [(2, .int 1), (1, .int 0), (0, .ref p0)]) hx hb dX7_climbs_86 hl (k := 0) rfl (by decide +kernel) (by decide) rfl (fun ls hl => ?_)
        refine lv_goto (tgt := 49) hx hb dX7_climbs_89 (by decide) ?_
        refine lv_iload_n hx hb dX7_climbs_49 rfl (lv_at hl 0 rfl) ?_
        refine lv_iconst (v := 1) hx hb dX7_climbs_50 (by decide +kernel) ?_
        refine lv_aload_n hx hb dX7_climbs_51 rfl (lv_at hl 2 rfl) ?_
        refine k_get (D := (dC, dI)) (ci := 7) (v := .ref (p1 14)) (C := RX7) (T := TX7) (N := 92) hx hb hts hinX7 hown hK hP 3 rfl rfl 14 (by decide) w_3 rfl rfl dX7_climbs_52 ?_
        refine lv_aload_n hx hb dX7_climbs_55 rfl (lv_at hl 2 rfl) ?_
        refine k_get (D := (dC, dI)) (ci := 7) (v := .int 0) (C := RX7) (T := TX7) (N := 92) hx hb hts hinX7 hown hK hP 3 rfl rfl 13 (by decide) w_4 rfl rfl dX7_climbs_56 ?_
        refine k_iald (v := 0) hx hb hK hP 2 0 0 rfl rfl rfl (Nat.le_of_ble_eq_true rfl) (Nat.le_of_ble_eq_true rfl) rfl dX7_climbs_59 ?_
        refine lv_ishl hx hb dX7_climbs_60 ?_
        refine k_int (v := 1) (by decide +kernel) ?_
        refine lv_icmp_ge (tgt := 92) hx hb dX7_climbs_61 (by decide) (fun _ => ?_) (fun q9 => absurd q9 (by decide +kernel))
        refine lv_iinc (v := 1) (lv' := [(1, .int 1), (2, .int 1), (0, .ref p0)]) hx hb dX7_climbs_92 hl (k := 1) rfl (by decide +kernel) (by decide) rfl (fun ls hl => ?_)
        refine lv_goto (tgt := 41) hx hb dX7_climbs_95 (by decide) ?_
        refine lv_iload_n hx hb dX7_climbs_41 rfl (lv_at hl 0 rfl) ?_
        refine lv_bipush (v := 8) hx hb dX7_climbs_42 (by decide +kernel) ?_
        refine lv_icmp_ge (tgt := 98) hx hb dX7_climbs_44 (by decide) (fun q9 => absurd q9 (by decide +kernel)) (fun _ => ?_)
        refine lv_iconst (v := 0) hx hb dX7_climbs_47 (by decide +kernel) ?_
        refine lv_istore_n (lv' := [(2, .int 0), (1, .int 1), (0, .ref p0)]) hx hb dX7_climbs_48 rfl hl (by decide) rfl (fun ls hl => ?_)
        refine lv_iload_n hx hb dX7_climbs_49 rfl (lv_at hl 0 rfl) ?_
        refine lv_iconst (v := 1) hx hb dX7_climbs_50 (by decide +kernel) ?_
        refine lv_aload_n hx hb dX7_climbs_51 rfl (lv_at hl 2 rfl) ?_
        refine k_get (D := (dC, dI)) (ci := 7) (v := .ref (p1 14)) (C := RX7) (T := TX7) (N := 92) hx hb hts hinX7 hown hK hP 3 rfl rfl 14 (by decide) w_3 rfl rfl dX7_climbs_52 ?_
        refine lv_aload_n hx hb dX7_climbs_55 rfl (lv_at hl 2 rfl) ?_
        refine k_get (D := (dC, dI)) (ci := 7) (v := .int 0) (C := RX7) (T := TX7) (N := 92) hx hb hts hinX7 hown hK hP 3 rfl rfl 13 (by decide) w_4 rfl rfl dX7_climbs_56 ?_
        refine k_iald (v := 0) hx hb hK hP 2 0 0 rfl rfl rfl (Nat.le_of_ble_eq_true rfl) (Nat.le_of_ble_eq_true rfl) rfl dX7_climbs_59 ?_
        refine lv_ishl hx hb dX7_climbs_60 ?_
        refine k_int (v := 1) (by decide +kernel) ?_
        refine lv_icmp_ge (tgt := 92) hx hb dX7_climbs_61 (by decide) (fun q9 => absurd q9 (by decide +kernel)) (fun _ => ?_)
        refine lv_aload_n hx hb dX7_climbs_64 rfl (lv_at hl 2 rfl) ?_
        refine k_get (D := (dC, dI)) (ci := 7) (v := .ref (p1 72)) (C := RX7) (T := TX7) (N := 92) hx hb hts hinX7 hown hK hP 3 rfl rfl 72 (by decide) w_0 rfl rfl dX7_climbs_65 ?_
        refine lv_sipush (v := 1024) hx hb dX7_climbs_68 (by decide +kernel) ?_
        refine lv_iload_n hx hb dX7_climbs_71 rfl (lv_at hl 1 rfl) ?_
        refine lv_imul hx hb dX7_climbs_72 ?_
        refine k_int (v := 1024) (by decide +kernel) ?_
        refine lv_iload_n hx hb dX7_climbs_73 rfl (lv_at hl 0 rfl) ?_
        refine lv_iadd hx hb dX7_climbs_74 ?_
        refine k_int (v := 1024) (by decide +kernel) ?_
        refine k_iald (v := (-1)) hx hb hK hP 4 0 1024 rfl rfl rfl (Nat.le_of_ble_eq_true rfl) (Nat.le_of_ble_eq_true rfl) rfl dX7_climbs_75 ?_
        refine lv_iconst (v := (-1)) hx hb dX7_climbs_76 (by decide +kernel) ?_
        refine lv_icmp_eq (tgt := 86) hx hb dX7_climbs_77 (by decide) (fun _ => ?_) (fun q9 => absurd q9 (by decide +kernel))
        refine lv_iinc (v := 1) (lv' := [(2, .int 1), (1, .int 1), (0, .ref p0)]) hx hb dX7_climbs_86 hl (k := 0) rfl (by decide +kernel) (by decide) rfl (fun ls hl => ?_)
        refine lv_goto (tgt := 49) hx hb dX7_climbs_89 (by decide) ?_
        refine lv_iload_n hx hb dX7_climbs_49 rfl (lv_at hl 0 rfl) ?_
        refine lv_iconst (v := 1) hx hb dX7_climbs_50 (by decide +kernel) ?_
        refine lv_aload_n hx hb dX7_climbs_51 rfl (lv_at hl 2 rfl) ?_
        refine k_get (D := (dC, dI)) (ci := 7) (v := .ref (p1 14)) (C := RX7) (T := TX7) (N := 92) hx hb hts hinX7 hown hK hP 3 rfl rfl 14 (by decide) w_3 rfl rfl dX7_climbs_52 ?_
        refine lv_aload_n hx hb dX7_climbs_55 rfl (lv_at hl 2 rfl) ?_
        refine k_get (D := (dC, dI)) (ci := 7) (v := .int 0) (C := RX7) (T := TX7) (N := 92) hx hb hts hinX7 hown hK hP 3 rfl rfl 13 (by decide) w_4 rfl rfl dX7_climbs_56 ?_
        refine k_iald (v := 0) hx hb hK hP 2 0 0 rfl rfl rfl (Nat.le_of_ble_eq_true rfl) (Nat.le_of_ble_eq_true rfl) rfl dX7_climbs_59 ?_
        refine lv_ishl hx hb dX7_climbs_60 ?_
        refine k_int (v := 1) (by decide +kernel) ?_
        refine lv_icmp_ge (tgt := 92) hx hb dX7_climbs_61 (by decide) (fun _ => ?_) (fun q9 => absurd q9 (by decide +kernel))
        refine lv_iinc (v := 2) (lv' := [(1, .int 2), (2, .int 1), (0, .ref p0)]) hx hb dX7_climbs_92 hl (k := 1) rfl (by decide +kernel) (by decide) rfl (fun ls hl => ?_)
        refine lv_goto (tgt := 41) hx hb dX7_climbs_95 (by decide) ?_
        refine lv_iload_n hx hb dX7_climbs_41 rfl (lv_at hl 0 rfl) ?_
        refine lv_bipush (v := 8) hx hb dX7_climbs_42 (by decide +kernel) ?_
        refine lv_icmp_ge (tgt := 98) hx hb dX7_climbs_44 (by decide) (fun q9 => absurd q9 (by decide +kernel)) (fun _ => ?_)
        refine lv_iconst (v := 0) hx hb dX7_climbs_47 (by decide +kernel) ?_
        refine lv_istore_n (lv' := [(2, .int 0), (1, .int 2), (0, .ref p0)]) hx hb dX7_climbs_48 rfl hl (by decide) rfl (fun ls hl => ?_)
        refine lv_iload_n hx hb dX7_climbs_49 rfl (lv_at hl 0 rfl) ?_
        refine lv_iconst (v := 1) hx hb dX7_climbs_50 (by decide +kernel) ?_
        refine lv_aload_n hx hb dX7_climbs_51 rfl (lv_at hl 2 rfl) ?_
        refine k_get (D := (dC, dI)) (ci := 7) (v := .ref (p1 14)) (C := RX7) (T := TX7) (N := 92) hx hb hts hinX7 hown hK hP 3 rfl rfl 14 (by decide) w_3 rfl rfl dX7_climbs_52 ?_
        refine lv_aload_n hx hb dX7_climbs_55 rfl (lv_at hl 2 rfl) ?_
        refine k_get (D := (dC, dI)) (ci := 7) (v := .int 0) (C := RX7) (T := TX7) (N := 92) hx hb hts hinX7 hown hK hP 3 rfl rfl 13 (by decide) w_4 rfl rfl dX7_climbs_56 ?_
        refine k_iald (v := 0) hx hb hK hP 2 0 0 rfl rfl rfl (Nat.le_of_ble_eq_true rfl) (Nat.le_of_ble_eq_true rfl) rfl dX7_climbs_59 ?_
        refine lv_ishl hx hb dX7_climbs_60 ?_
        refine k_int (v := 1) (by decide +kernel) ?_
        refine lv_icmp_ge (tgt := 92) hx hb dX7_climbs_61 (by decide) (fun q9 => absurd q9 (by decide +kernel)) (fun _ => ?_)
        refine lv_aload_n hx hb dX7_climbs_64 rfl (lv_at hl 2 rfl) ?_
        refine k_get (D := (dC, dI)) (ci := 7) (v := .ref (p1 72)) (C := RX7) (T := TX7) (N := 92) hx hb hts hinX7 hown hK hP 3 rfl rfl 72 (by decide) w_0 rfl rfl dX7_climbs_65 ?_
        refine lv_sipush (v := 1024) hx hb dX7_climbs_68 (by decide +kernel) ?_
        refine lv_iload_n hx hb dX7_climbs_71 rfl (lv_at hl 1 rfl) ?_
        refine lv_imul hx hb dX7_climbs_72 ?_
        refine k_int (v := 2048) (by decide +kernel) ?_
        refine lv_iload_n hx hb dX7_climbs_73 rfl (lv_at hl 0 rfl) ?_
        refine lv_iadd hx hb dX7_climbs_74 ?_
        refine k_int (v := 2048) (by decide +kernel) ?_
        refine k_iald (v := (-1)) hx hb hK hP 4 0 2048 rfl rfl rfl (Nat.le_of_ble_eq_true rfl) (Nat.le_of_ble_eq_true rfl) rfl dX7_climbs_75 ?_
        refine lv_iconst (v := (-1)) hx hb dX7_climbs_76 (by decide +kernel) ?_
        refine lv_icmp_eq (tgt := 86) hx hb dX7_climbs_77 (by decide) (fun _ => ?_) (fun q9 => absurd q9 (by decide +kernel))
        refine lv_iinc (v := 1) (lv' := [(2, .int 1), (1, .int 2), (0, .ref p0)]) hx hb dX7_climbs_86 hl (k := 0) rfl (by decide +kernel) (by decide) rfl (fun ls hl => ?_)
        refine lv_goto (tgt := 49) hx hb dX7_climbs_89 (by decide) ?_
        refine lv_iload_n hx hb dX7_climbs_49 rfl (lv_at hl 0 rfl) ?_
        refine lv_iconst (v := 1) hx hb dX7_climbs_50 (by decide +kernel) ?_
        refine lv_aload_n hx hb dX7_climbs_51 rfl (lv_at hl 2 rfl) ?_
        refine k_get (D := (dC, dI)) (ci := 7) (v := .ref (p1 14)) (C := RX7) (T := TX7) (N := 92) hx hb hts hinX7 hown hK hP 3 rfl rfl 14 (by decide) w_3 rfl rfl dX7_climbs_52 ?_
        refine lv_aload_n hx hb dX7_climbs_55 rfl (lv_at hl 2 rfl) ?_
        refine k_get (D := (dC, dI)) (ci := 7) (v := .int 0) (C := RX7) (T := TX7) (N := 92) hx hb hts hinX7 hown hK hP 3 rfl rfl 13 (by decide) w_4 rfl rfl dX7_climbs_56 ?_
        refine k_iald (v := 0) hx hb hK hP 2 0 0 rfl rfl rfl (Nat.le_of_ble_eq_true rfl) (Nat.le_of_ble_eq_true rfl) rfl dX7_climbs_59 ?_
        refine lv_ishl hx hb dX7_climbs_60 ?_
        refine k_int (v := 1) (by decide +kernel) ?_
        refine lv_icmp_ge (tgt := 92) hx hb dX7_climbs_61 (by decide) (fun _ => ?_) (fun q9 => absurd q9 (by decide +kernel))
        refine lv_iinc (v := 3) (lv' := [(1, .int 3), (2, .int 1), (0, .ref p0)]) hx hb dX7_climbs_92 hl (k := 1) rfl (by decide +kernel) (by decide) rfl (fun ls hl => ?_)
        refine lv_goto (tgt := 41) hx hb dX7_climbs_95 (by decide) ?_
        refine lv_iload_n hx hb dX7_climbs_41 rfl (lv_at hl 0 rfl) ?_
        refine lv_bipush (v := 8) hx hb dX7_climbs_42 (by decide +kernel) ?_
        refine lv_icmp_ge (tgt := 98) hx hb dX7_climbs_44 (by decide) (fun q9 => absurd q9 (by decide +kernel)) (fun _ => ?_)
        refine lv_iconst (v := 0) hx hb dX7_climbs_47 (by decide +kernel) ?_
        refine lv_istore_n (lv' := [(2, .int 0), (1, .int 3), (0, .ref p0)]) hx hb dX7_climbs_48 rfl hl (by decide) rfl (fun ls hl => ?_)
        refine lv_iload_n hx hb dX7_climbs_49 rfl (lv_at hl 0 rfl) ?_
        refine lv_iconst (v := 1) hx hb dX7_climbs_50 (by decide +kernel) ?_
        refine lv_aload_n hx hb dX7_climbs_51 rfl (lv_at hl 2 rfl) ?_
        refine k_get (D := (dC, dI)) (ci := 7) (v := .ref (p1 14)) (C := RX7) (T := TX7) (N := 92) hx hb hts hinX7 hown hK hP 3 rfl rfl 14 (by decide) w_3 rfl rfl dX7_climbs_52 ?_
        refine lv_aload_n hx hb dX7_climbs_55 rfl (lv_at hl 2 rfl) ?_
        refine k_get (D := (dC, dI)) (ci := 7) (v := .int 0) (C := RX7) (T := TX7) (N := 92) hx hb hts hinX7 hown hK hP 3 rfl rfl 13 (by decide) w_4 rfl rfl dX7_climbs_56 ?_
        refine k_iald (v := 0) hx hb hK hP 2 0 0 rfl rfl rfl (Nat.le_of_ble_eq_true rfl) (Nat.le_of_ble_eq_true rfl) rfl dX7_climbs_59 ?_
        refine lv_ishl hx hb dX7_climbs_60 ?_
        refine k_int (v := 1) (by decide +kernel) ?_
        refine lv_icmp_ge (tgt := 92) hx hb dX7_climbs_61 (by decide) (fun q9 => absurd q9 (by decide +kernel)) (fun _ => ?_)
        refine lv_aload_n hx hb dX7_climbs_64 rfl (lv_at hl 2 rfl) ?_
        refine k_get (D := (dC, dI)) (ci := 7) (v := .ref (p1 72)) (C := RX7) (T := TX7) (N := 92) hx hb hts hinX7 hown hK hP 3 rfl rfl 72 (by decide) w_0 rfl rfl dX7_climbs_65 ?_
        refine lv_sipush (v := 1024) hx hb dX7_climbs_68 (by decide +kernel) ?_
        refine lv_iload_n hx hb dX7_climbs_71 rfl (lv_at hl 1 rfl) ?_
        refine lv_imul hx hb dX7_climbs_72 ?_
        refine k_int (v := 3072) (by decide +kernel) ?_
        refine lv_iload_n hx hb dX7_climbs_73 rfl (lv_at hl 0 rfl) ?_
        refine lv_iadd hx hb dX7_climbs_74 ?_
        refine k_int (v := 3072) (by decide +kernel) ?_
        refine k_iald (v := (-1)) hx hb hK hP 4 0 3072 rfl rfl rfl (Nat.le_of_ble_eq_true rfl) (Nat.le_of_ble_eq_true rfl) rfl dX7_climbs_75 ?_
        refine lv_iconst (v := (-1)) hx hb dX7_climbs_76 (by decide +kernel) ?_
        refine lv_icmp_eq (tgt := 86) hx hb dX7_climbs_77 (by decide) (fun _ => ?_) (fun q9 => absurd q9 (by decide +kernel))
        refine lv_iinc (v := 1) (lv' := [(2, .int 1), (1, .int 3), (0, .ref p0)]) hx hb dX7_climbs_86 hl (k := 0) rfl (by decide +kernel) (by decide) rfl (fun ls hl => ?_)
        refine lv_goto (tgt := 49) hx hb dX7_climbs_89 (by decide) ?_
        refine lv_iload_n hx hb dX7_climbs_49 rfl (lv_at hl 0 rfl) ?_
        refine lv_iconst (v := 1) hx hb dX7_climbs_50 (by decide +kernel) ?_
        refine lv_aload_n hx hb dX7_climbs_51 rfl (lv_at hl 2 rfl) ?_
        refine k_get (D := (dC, dI)) (ci := 7) (v := .ref (p1 14)) (C := RX7) (T := TX7) (N := 92) hx hb hts hinX7 hown hK hP 3 rfl rfl 14 (by decide) w_3 rfl rfl dX7_climbs_52 ?_
        refine lv_aload_n hx hb dX7_climbs_55 rfl (lv_at hl 2 rfl) ?_
        refine k_get (D := (dC, dI)) (ci := 7) (v := .int 0) (C := RX7) (T := TX7) (N := 92) hx hb hts hinX7 hown hK hP 3 rfl rfl 13 (by decide) w_4 rfl rfl dX7_climbs_56 ?_
        refine k_iald (v := 0) hx hb hK hP 2 0 0 rfl rfl rfl (Nat.le_of_ble_eq_true rfl) (Nat.le_of_ble_eq_true rfl) rfl dX7_climbs_59 ?_
        refine lv_ishl hx hb dX7_climbs_60 ?_
        refine k_int (v := 1) (by decide +kernel) ?_
        refine lv_icmp_ge (tgt := 92) hx hb dX7_climbs_61 (by decide) (fun _ => ?_) (fun q9 => absurd q9 (by decide +kernel))
        refine lv_iinc (v := 4) (lv' := [(1, .int 4), (2, .int 1), (0, .ref p0)]) hx hb dX7_climbs_92 hl (k := 1) rfl (by decide +kernel) (by decide) rfl (fun ls hl => ?_)
        refine lv_goto (tgt := 41) hx hb dX7_climbs_95 (by decide) ?_
        refine lv_iload_n hx hb dX7_climbs_41 rfl (lv_at hl 0 rfl) ?_
        refine lv_bipush (v := 8) hx hb dX7_climbs_42 (by decide +kernel) ?_
        refine lv_icmp_ge (tgt := 98) hx hb dX7_climbs_44 (by decide) (fun q9 => absurd q9 (by decide +kernel)) (fun _ => ?_)
        refine lv_iconst (v := 0) hx hb dX7_climbs_47 (by decide +kernel) ?_
        refine lv_istore_n (lv' := [(2, .int 0), (1, .int 4), (0, .ref p0)]) hx hb dX7_climbs_48 rfl hl (by decide) rfl (fun ls hl => ?_)
        refine lv_iload_n hx hb dX7_climbs_49 rfl (lv_at hl 0 rfl) ?_
        refine lv_iconst (v := 1) hx hb dX7_climbs_50 (by decide +kernel) ?_
        refine lv_aload_n hx hb dX7_climbs_51 rfl (lv_at hl 2 rfl) ?_
        refine k_get (D := (dC, dI)) (ci := 7) (v := .ref (p1 14)) (C := RX7) (T := TX7) (N := 92) hx hb hts hinX7 hown hK hP 3 rfl rfl 14 (by decide) w_3 rfl rfl dX7_climbs_52 ?_
        refine lv_aload_n hx hb dX7_climbs_55 rfl (lv_at hl 2 rfl) ?_
        refine k_get (D := (dC, dI)) (ci := 7) (v := .int 0) (C := RX7) (T := TX7) (N := 92) hx hb hts hinX7 hown hK hP 3 rfl rfl 13 (by decide) w_4 rfl rfl dX7_climbs_56 ?_
        refine k_iald (v := 0) hx hb hK hP 2 0 0 rfl rfl rfl (Nat.le_of_ble_eq_true rfl) (Nat.le_of_ble_eq_true rfl) rfl dX7_climbs_59 ?_
        refine lv_ishl hx hb dX7_climbs_60 ?_
        refine k_int (v := 1) (by decide +kernel) ?_
        refine lv_icmp_ge (tgt := 92) hx hb dX7_climbs_61 (by decide) (fun q9 => absurd q9 (by decide +kernel)) (fun _ => ?_)
        refine lv_aload_n hx hb dX7_climbs_64 rfl (lv_at hl 2 rfl) ?_
        refine k_get (D := (dC, dI)) (ci := 7) (v := .ref (p1 72)) (C := RX7) (T := TX7) (N := 92) hx hb hts hinX7 hown hK hP 3 rfl rfl 72 (by decide) w_0 rfl rfl dX7_climbs_65 ?_
        refine lv_sipush (v := 1024) hx hb dX7_climbs_68 (by decide +kernel) ?_
        refine lv_iload_n hx hb dX7_climbs_71 rfl (lv_at hl 1 rfl) ?_
        refine lv_imul hx hb dX7_climbs_72 ?_
        refine k_int (v := 4096) (by decide +kernel) ?_
        refine lv_iload_n hx hb dX7_climbs_73 rfl (lv_at hl 0 rfl) ?_
        refine lv_iadd hx hb dX7_climbs_74 ?_
        refine k_int (v := 4096) (by decide +kernel) ?_
        refine k_iald (v := (-1)) hx hb hK hP 4 0 4096 rfl rfl rfl (Nat.le_of_ble_eq_true rfl) (Nat.le_of_ble_eq_true rfl) rfl dX7_climbs_75 ?_
        refine lv_iconst (v := (-1)) hx hb dX7_climbs_76 (by decide +kernel) ?_
        refine lv_icmp_eq (tgt := 86) hx hb dX7_climbs_77 (by decide) (fun _ => ?_) (fun q9 => absurd q9 (by decide +kernel))
        refine lv_iinc (v := 1) (lv' := [(2, .int 1), (1, .int 4), (0, .ref p0)]) hx hb dX7_climbs_86 hl (k := 0) rfl (by decide +kernel) (by decide) rfl (fun ls hl => ?_)
        refine lv_goto (tgt := 49) hx hb dX7_climbs_89 (by decide) ?_
        refine lv_iload_n hx hb dX7_climbs_49 rfl (lv_at hl 0 rfl) ?_
        refine lv_iconst (v := 1) hx hb dX7_climbs_50 (by decide +kernel) ?_
        refine lv_aload_n hx hb dX7_climbs_51 rfl (lv_at hl 2 rfl) ?_
        refine k_get (D := (dC, dI)) (ci := 7) (v := .ref (p1 14)) (C := RX7) (T := TX7) (N := 92) hx hb hts hinX7 hown hK hP 3 rfl rfl 14 (by decide) w_3 rfl rfl dX7_climbs_52 ?_
        refine lv_aload_n hx hb dX7_climbs_55 rfl (lv_at hl 2 rfl) ?_
        refine k_get (D := (dC, dI)) (ci := 7) (v := .int 0) (C := RX7) (T := TX7) (N := 92) hx hb hts hinX7 hown hK hP 3 rfl rfl 13 (by decide) w_4 rfl rfl dX7_climbs_56 ?_
        refine k_iald (v := 0) hx hb hK hP 2 0 0 rfl rfl rfl (Nat.le_of_ble_eq_true rfl) (Nat.le_of_ble_eq_true rfl) rfl dX7_climbs_59 ?_
        refine lv_ishl hx hb dX7_climbs_60 ?_
        refine k_int (v := 1) (by decide +kernel) ?_
        refine lv_icmp_ge (tgt := 92) hx hb dX7_climbs_61 (by decide) (fun _ => ?_) (fun q9 => absurd q9 (by decide +kernel))
        refine lv_iinc (v := 5) (lv' := [(1, .int 5), (2, .int 1), (0, .ref p0)]) hx hb dX7_climbs_92 hl (k := 1) rfl (by decide +kernel) (by decide) rfl (fun ls hl => ?_)
        refine lv_goto (tgt := 41) hx hb dX7_climbs_95 (by decide) ?_
        refine lv_iload_n hx hb dX7_climbs_41 rfl (lv_at hl 0 rfl) ?_
        refine lv_bipush (v := 8) hx hb dX7_climbs_42 (by decide +kernel) ?_
        refine lv_icmp_ge (tgt := 98) hx hb dX7_climbs_44 (by decide) (fun q9 => absurd q9 (by decide +kernel)) (fun _ => ?_)
        refine lv_iconst (v := 0) hx hb dX7_climbs_47 (by decide +kernel) ?_
        refine lv_istore_n (lv' := [(2, .int 0), (1, .int 5), (0, .ref p0)]) hx hb dX7_climbs_48 rfl hl (by decide) rfl (fun ls hl => ?_)
        refine lv_iload_n hx hb dX7_climbs_49 rfl (lv_at hl 0 rfl) ?_
        refine lv_iconst (v := 1) hx hb dX7_climbs_50 (by decide +kernel) ?_
        refine lv_aload_n hx hb dX7_climbs_51 rfl (lv_at hl 2 rfl) ?_
        refine k_get (D := (dC, dI)) (ci := 7) (v := .ref (p1 14)) (C := RX7) (T := TX7) (N := 92) hx hb hts hinX7 hown hK hP 3 rfl rfl 14 (by decide) w_3 rfl rfl dX7_climbs_52 ?_
        refine lv_aload_n hx hb dX7_climbs_55 rfl (lv_at hl 2 rfl) ?_
        refine k_get (D := (dC, dI)) (ci := 7) (v := .int 0) (C := RX7) (T := TX7) (N := 92) hx hb hts hinX7 hown hK hP 3 rfl rfl 13 (by decide) w_4 rfl rfl dX7_climbs_56 ?_
        refine k_iald (v := 0) hx hb hK hP 2 0 0 rfl rfl rfl (Nat.le_of_ble_eq_true rfl) (Nat.le_of_ble_eq_true rfl) rfl dX7_climbs_59 ?_
        refine lv_ishl hx hb dX7_climbs_60 ?_
        refine k_int (v := 1) (by decide +kernel) ?_
        refine lv_icmp_ge (tgt := 92) hx hb dX7_climbs_61 (by decide) (fun q9 => absurd q9 (by decide +kernel)) (fun _ => ?_)
        refine lv_aload_n hx hb dX7_climbs_64 rfl (lv_at hl 2 rfl) ?_
        refine k_get (D := (dC, dI)) (ci := 7) (v := .ref (p1 72)) (C := RX7) (T := TX7) (N := 92) hx hb hts hinX7 hown hK hP 3 rfl rfl 72 (by decide) w_0 rfl rfl dX7_climbs_65 ?_
        refine lv_sipush (v := 1024) hx hb dX7_climbs_68 (by decide +kernel) ?_
        refine lv_iload_n hx hb dX7_climbs_71 rfl (lv_at hl 1 rfl) ?_
        refine lv_imul hx hb dX7_climbs_72 ?_
        refine k_int (v := 5120) (by decide +kernel) ?_
        refine lv_iload_n hx hb dX7_climbs_73 rfl (lv_at hl 0 rfl) ?_
        refine lv_iadd hx hb dX7_climbs_74 ?_
        refine k_int (v := 5120) (by decide +kernel) ?_
        refine k_iald (v := (-1)) hx hb hK hP 4 0 5120 rfl rfl rfl (Nat.le_of_ble_eq_true rfl) (Nat.le_of_ble_eq_true rfl) rfl dX7_climbs_75 ?_
        refine lv_iconst (v := (-1)) hx hb dX7_climbs_76 (by decide +kernel) ?_
        refine lv_icmp_eq (tgt := 86) hx hb dX7_climbs_77 (by decide) (fun _ => ?_) (fun q9 => absurd q9 (by decide +kernel))
        refine lv_iinc (v := 1) (lv' := [(2, .int 1), (1, .int 5), (0, .ref p0)]) hx hb dX7_climbs_86 hl (k := 0) rfl (by decide +kernel) (by decide) rfl (fun ls hl => ?_)
        refine lv_goto (tgt := 49) hx hb dX7_climbs_89 (by decide) ?_
        refine lv_iload_n hx hb dX7_climbs_49 rfl (lv_at hl 0 rfl) ?_
        refine lv_iconst (v := 1) hx hb dX7_climbs_50 (by decide +kernel) ?_
        refine lv_aload_n hx hb dX7_climbs_51 rfl (lv_at hl 2 rfl) ?_
        refine k_get (D := (dC, dI)) (ci := 7) (v := .ref (p1 14)) (C := RX7) (T := TX7) (N := 92) hx hb hts hinX7 hown hK hP 3 rfl rfl 14 (by decide) w_3 rfl rfl dX7_climbs_52 ?_
        refine lv_aload_n hx hb dX7_climbs_55 rfl (lv_at hl 2 rfl) ?_
        refine k_get (D := (dC, dI)) (ci := 7) (v := .int 0) (C := RX7) (T := TX7) (N := 92) hx hb hts hinX7 hown hK hP 3 rfl rfl 13 (by decide) w_4 rfl rfl dX7_climbs_56 ?_
        refine k_iald (v := 0) hx hb hK hP 2 0 0 rfl rfl rfl (Nat.le_of_ble_eq_true rfl) (Nat.le_of_ble_eq_true rfl) rfl dX7_climbs_59 ?_
        refine lv_ishl hx hb dX7_climbs_60 ?_
        refine k_int (v := 1) (by decide +kernel) ?_
        refine lv_icmp_ge (tgt := 92) hx hb dX7_climbs_61 (by decide) (fun _ => ?_) (fun q9 => absurd q9 (by decide +kernel))
        refine lv_iinc (v := 6) (lv' := [(1, .int 6), (2, .int 1), (0, .ref p0)]) hx hb dX7_climbs_92 hl (k := 1) rfl (by decide +kernel) (by decide) rfl (fun ls hl => ?_)
        refine lv_goto (tgt := 41) hx hb dX7_climbs_95 (by decide) ?_
        refine lv_iload_n hx hb dX7_climbs_41 rfl (lv_at hl 0 rfl) ?_
        refine lv_bipush (v := 8) hx hb dX7_climbs_42 (by decide +kernel) ?_
        refine lv_icmp_ge (tgt := 98) hx hb dX7_climbs_44 (by decide) (fun q9 => absurd q9 (by decide +kernel)) (fun _ => ?_)
        refine lv_iconst (v := 0) hx hb dX7_climbs_47 (by decide +kernel) ?_
        refine lv_istore_n (lv' := [(2, .int 0), (1, .int 6), (0, .ref p0)]) hx hb dX7_climbs_48 rfl hl (by decide) rfl (fun ls hl => ?_)
        refine lv_iload_n hx hb dX7_climbs_49 rfl (lv_at hl 0 rfl) ?_
        refine lv_iconst (v := 1) hx hb dX7_climbs_50 (by decide +kernel) ?_
        refine lv_aload_n hx hb dX7_climbs_51 rfl (lv_at hl 2 rfl) ?_
        refine k_get (D := (dC, dI)) (ci := 7) (v := .ref (p1 14)) (C := RX7) (T := TX7) (N := 92) hx hb hts hinX7 hown hK hP 3 rfl rfl 14 (by decide) w_3 rfl rfl dX7_climbs_52 ?_
        refine lv_aload_n hx hb dX7_climbs_55 rfl (lv_at hl 2 rfl) ?_
        refine k_get (D := (dC, dI)) (ci := 7) (v := .int 0) (C := RX7) (T := TX7) (N := 92) hx hb hts hinX7 hown hK hP 3 rfl rfl 13 (by decide) w_4 rfl rfl dX7_climbs_56 ?_
        refine k_iald (v := 0) hx hb hK hP 2 0 0 rfl rfl rfl (Nat.le_of_ble_eq_true rfl) (Nat.le_of_ble_eq_true rfl) rfl dX7_climbs_59 ?_
        refine lv_ishl hx hb dX7_climbs_60 ?_
        refine k_int (v := 1) (by decide +kernel) ?_
        refine lv_icmp_ge (tgt := 92) hx hb dX7_climbs_61 (by decide) (fun q9 => absurd q9 (by decide +kernel)) (fun _ => ?_)
        refine lv_aload_n hx hb dX7_climbs_64 rfl (lv_at hl 2 rfl) ?_
        refine k_get (D := (dC, dI)) (ci := 7) (v := .ref (p1 72)) (C := RX7) (T := TX7) (N := 92) hx hb hts hinX7 hown hK hP 3 rfl rfl 72 (by decide) w_0 rfl rfl dX7_climbs_65 ?_
        refine lv_sipush (v := 1024) hx hb dX7_climbs_68 (by decide +kernel) ?_
        refine lv_iload_n hx hb dX7_climbs_71 rfl (lv_at hl 1 rfl) ?_
        refine lv_imul hx hb dX7_climbs_72 ?_
        refine k_int (v := 6144) (by decide +kernel) ?_
        refine lv_iload_n hx hb dX7_climbs_73 rfl (lv_at hl 0 rfl) ?_
        refine lv_iadd hx hb dX7_climbs_74 ?_
        refine k_int (v := 6144) (by decide +kernel) ?_
        refine k_iald (v := (-1)) hx hb hK hP 4 0 6144 rfl rfl rfl (Nat.le_of_ble_eq_true rfl) (Nat.le_of_ble_eq_true rfl) rfl dX7_climbs_75 ?_
        refine lv_iconst (v := (-1)) hx hb dX7_climbs_76 (by decide +kernel) ?_
        refine lv_icmp_eq (tgt := 86) hx hb dX7_climbs_77 (by decide) (fun _ => ?_) (fun q9 => absurd q9 (by decide +kernel))
        refine lv_iinc (v := 1) (lv' := [(2, .int 1), (1, .int 6), (0, .ref p0)]) hx hb dX7_climbs_86 hl (k := 0) rfl (by decide +kernel) (by decide) rfl (fun ls hl => ?_)
        refine lv_goto (tgt := 49) hx hb dX7_climbs_89 (by decide) ?_
        refine lv_iload_n hx hb dX7_climbs_49 rfl (lv_at hl 0 rfl) ?_
        refine lv_iconst (v := 1) hx hb dX7_climbs_50 (by decide +kernel) ?_
        refine lv_aload_n hx hb dX7_climbs_51 rfl (lv_at hl 2 rfl) ?_
        refine k_get (D := (dC, dI)) (ci := 7) (v := .ref (p1 14)) (C := RX7) (T := TX7) (N := 92) hx hb hts hinX7 hown hK hP 3 rfl rfl 14 (by decide) w_3 rfl rfl dX7_climbs_52 ?_
        refine lv_aload_n hx hb dX7_climbs_55 rfl (lv_at hl 2 rfl) ?_
        refine k_get (D := (dC, dI)) (ci := 7) (v := .int 0) (C := RX7) (T := TX7) (N := 92) hx hb hts hinX7 hown hK hP 3 rfl rfl 13 (by decide) w_4 rfl rfl dX7_climbs_56 ?_
        refine k_iald (v := 0) hx hb hK hP 2 0 0 rfl rfl rfl (Nat.le_of_ble_eq_true rfl) (Nat.le_of_ble_eq_true rfl) rfl dX7_climbs_59 ?_
        refine lv_ishl hx hb dX7_climbs_60 ?_
        refine k_int (v := 1) (by decide +kernel) ?_
        refine lv_icmp_ge (tgt := 92) hx hb dX7_climbs_61 (by decide) (fun _ => ?_) (fun q9 => absurd q9 (by decide +kernel))
        refine lv_iinc (v := 7) (lv' := [(1, .int 7), (2, .int 1), (0, .ref p0)]) hx hb dX7_climbs_92 hl (k := 1) rfl (by decide +kernel) (by decide) rfl (fun ls hl => ?_)
        refine lv_goto (tgt := 41) hx hb dX7_climbs_95 (by decide) ?_
        refine lv_iload_n hx hb dX7_climbs_41 rfl (lv_at hl 0 rfl) ?_
        refine lv_bipush (v := 8) hx hb dX7_climbs_42 (by decide +kernel) ?_
        refine lv_icmp_ge (tgt := 98) hx hb dX7_climbs_44 (by decide) (fun q9 => absurd q9 (by decide +kernel)) (fun _ => ?_)
        refine lv_iconst (v := 0) hx hb dX7_climbs_47 (by decide +kernel) ?_
        refine lv_istore_n (lv' := [(2, .int 0), (1, .int 7), (0, .ref p0)]) hx hb dX7_climbs_48 rfl hl (by decide) rfl (fun ls hl => ?_)
        refine lv_iload_n hx hb dX7_climbs_49 rfl (lv_at hl 0 rfl) ?_
        refine lv_iconst (v := 1) hx hb dX7_climbs_50 (by decide +kernel) ?_
        refine lv_aload_n hx hb dX7_climbs_51 rfl (lv_at hl 2 rfl) ?_
        refine k_get (D := (dC, dI)) (ci := 7) (v := .ref (p1 14)) (C := RX7) (T := TX7) (N := 92) hx hb hts hinX7 hown hK hP 3 rfl rfl 14 (by decide) w_3 rfl rfl dX7_climbs_52 ?_
        refine lv_aload_n hx hb dX7_climbs_55 rfl (lv_at hl 2 rfl) ?_
        refine k_get (D := (dC, dI)) (ci := 7) (v := .int 0) (C := RX7) (T := TX7) (N := 92) hx hb hts hinX7 hown hK hP 3 rfl rfl 13 (by decide) w_4 rfl rfl dX7_climbs_56 ?_
        refine k_iald (v := 0) hx hb hK hP 2 0 0 rfl rfl rfl (Nat.le_of_ble_eq_true rfl) (Nat.le_of_ble_eq_true rfl) rfl dX7_climbs_59 ?_
        refine lv_ishl hx hb dX7_climbs_60 ?_
        refine k_int (v := 1) (by decide +kernel) ?_
        refine lv_icmp_ge (tgt := 92) hx hb dX7_climbs_61 (by decide) (fun q9 => absurd q9 (by decide +kernel)) (fun _ => ?_)
        refine lv_aload_n hx hb dX7_climbs_64 rfl (lv_at hl 2 rfl) ?_
        refine k_get (D := (dC, dI)) (ci := 7) (v := .ref (p1 72)) (C := RX7) (T := TX7) (N := 92) hx hb hts hinX7 hown hK hP 3 rfl rfl 72 (by decide) w_0 rfl rfl dX7_climbs_65 ?_
        refine lv_sipush (v := 1024) hx hb dX7_climbs_68 (by decide +kernel) ?_
        refine lv_iload_n hx hb dX7_climbs_71 rfl (lv_at hl 1 rfl) ?_
        refine lv_imul hx hb dX7_climbs_72 ?_
        refine k_int (v := 7168) (by decide +kernel) ?_
        refine lv_iload_n hx hb dX7_climbs_73 rfl (lv_at hl 0 rfl) ?_
        refine lv_iadd hx hb dX7_climbs_74 ?_
        refine k_int (v := 7168) (by decide +kernel) ?_
        refine k_iald (v := (-1)) hx hb hK hP 4 0 7168 rfl rfl rfl (Nat.le_of_ble_eq_true rfl) (Nat.le_of_ble_eq_true rfl) rfl dX7_climbs_75 ?_
        refine lv_iconst (v := (-1)) hx hb dX7_climbs_76 (by decide +kernel) ?_
        refine lv_icmp_eq (tgt := 86) hx hb dX7_climbs_77 (by decide) (fun _ => ?_) (fun q9 => absurd q9 (by decide +kernel))
        refine lv_iinc (v := 1) (lv' := [(2, .int 1), (1, .int 7), (0, .ref p0)]) hx hb dX7_climbs_86 hl (k := 0) rfl (by decide +kernel) (by decide) rfl (fun ls hl => ?_)
        refine lv_goto (tgt := 49) hx hb dX7_climbs_89 (by decide) ?_
        refine lv_iload_n hx hb dX7_climbs_49 rfl (lv_at hl 0 rfl) ?_
        refine lv_iconst (v := 1) hx hb dX7_climbs_50 (by decide +kernel) ?_
        refine lv_aload_n hx hb dX7_climbs_51 rfl (lv_at hl 2 rfl) ?_
        refine k_get (D := (dC, dI)) (ci := 7) (v := .ref (p1 14)) (C := RX7) (T := TX7) (N := 92) hx hb hts hinX7 hown hK hP 3 rfl rfl 14 (by decide) w_3 rfl rfl dX7_climbs_52 ?_
        refine lv_aload_n hx hb dX7_climbs_55 rfl (lv_at hl 2 rfl) ?_
        refine k_get (D := (dC, dI)) (ci := 7) (v := .int 0) (C := RX7) (T := TX7) (N := 92) hx hb hts hinX7 hown hK hP 3 rfl rfl 13 (by decide) w_4 rfl rfl dX7_climbs_56 ?_
        refine k_iald (v := 0) hx hb hK hP 2 0 0 rfl rfl rfl (Nat.le_of_ble_eq_true rfl) (Nat.le_of_ble_eq_true rfl) rfl dX7_climbs_59 ?_
        refine lv_ishl hx hb dX7_climbs_60 ?_
        refine k_int (v := 1) (by decide +kernel) ?_
        refine lv_icmp_ge (tgt := 92) hx hb dX7_climbs_61 (by decide) (fun _ => ?_) (fun q9 => absurd q9 (by decide +kernel))
        refine lv_iinc (v := 8) (lv' := [(1, .int 8), (2, .int 1), (0, .ref p0)]) hx hb dX7_climbs_92 hl (k := 1) rfl (by decide +kernel) (by decide) rfl (fun ls hl => ?_)
        refine lv_goto (tgt := 41) hx hb dX7_climbs_95 (by decide) ?_
        refine lv_iload_n hx hb dX7_climbs_41 rfl (lv_at hl 0 rfl) ?_
        refine lv_bipush (v := 8) hx hb dX7_climbs_42 (by decide +kernel) ?_
        refine lv_icmp_ge (tgt := 98) hx hb dX7_climbs_44 (by decide) (fun _ => ?_) (fun q9 => absurd q9 (by decide +kernel))
        exact k_rv B hP hD hS dX7_climbs_98 () [3, 0, 1, 4, 2, 5] rfl rfl (Nat.le_of_ble_eq_true rfl) (Nat.le_of_ble_eq_true rfl) trivial
      · have c_2 : ((kk_1 : Nat) : Int) < 9216 := k_leF (by decide +kernel) (nI_toInt (by omega)) c_2
        refine lv_aload_n hx hb dX7_climbs_9 rfl (lv_at hl 1 rfl) ?_
        refine k_get (D := (dC, dI)) (ci := 7) (v := .ref (p1 72)) (C := RX7) (T := TX7) (N := 92) hx hb hts hinX7 hown hK hP 0 rfl rfl 72 (by decide) w_0 rfl rfl dX7_climbs_10 ?_
        refine lv_iload_n hx hb dX7_climbs_13 rfl (lv_at hl 0 rfl) ?_
        refine lv_iconst (v := (-1)) hx hb dX7_climbs_14 (by decide +kernel) ?_
        refine k_iast (g := (upd fk_1 kk_1 (-1))) (ws' := [(p0, .inr (7, oM p1 i7 j7)), ((p1 49), .inl (cI, 22, .inl (fun _ => 0))), ((p1 50), .inl (cI, 22, .inl (fun _ => 0))), ((p1 72), .inl (cI, 9216, .inl (upd fk_1 kk_1 (-1)))), ((p1 14), .inl (cI, 2, .inl (fun _ => 0))), ((p1 18), .inl (cI, 2, .inl (fun _ => 0)))]) hx hb hK hP hD hS 3 0 kk_1 rfl rfl rfl (by omega) (Nat.le_of_ble_eq_true rfl) rfl rfl dX7_climbs_15 (fun H locs hP hD hS => ?_)
        refine lv_iinc (v := (nI (kk_1 + 1))) (lv' := [(1, .int (nI (kk_1 + 1))), (0, .ref p0)]) hx hb dX7_climbs_16 hl (k := 0) rfl (nI_1 _) (by decide) rfl (fun ls hl => ?_)
        refine lv_goto (tgt := 2) hx hb dX7_climbs_19 (by decide) ?_
        exact ih_k_1 (kk_1 + 1) (upd fk_1 kk_1 (-1)) (by omega) (k_fillS h3k_1) (by omega) H locs ls (hP.sub [0, 1, 2, 3, 4, 5] rfl) (hD.sub [0, 1, 2, 3, 4, 5] (by decide) rfl) hS (lv_sub hl [0, 1] rfl)
  exact loop_k_1 _ 0 (fun _ => 0) (by omega) (fun j hj => absurd hj (Nat.not_lt_zero j)) (Nat.lt_succ_self _) H locs ls hP hD hS hl
set_option maxHeartbeats 4000000 in
set_option maxRecDepth 100000 in
theorem c_X7_is_v7 (l : Launch) (dC : Nat → ClassId) (dI : Nat → Nat → Nat) (cI cJ cZ cM : ClassId)    : k_Mi l yX7_is wsX7_is ({ frames := 1, cells := 0, slots := 0, locals := 40 }) (dC, dI) vwCl (tyy cI cJ cZ cM) [] [.int 1, .int 0, .int 8] 0 0 (fun (u9 : Unit) => []) (fun (r9 : Int32) (u9 : Unit) => r9 = 1) := by
  refine fun sz => k_enter (cc := cX7_is) (maxL := 3) (ret := some (.boolean)) (Qc := fun A => va_Qi (fun (r9 : Int32) (u9 : Unit) => r9 = 1) (fun u => k_B (dC, dI) vwCl (tyy cI cJ cZ cM) A ((fun (u9 : Unit) => []) u)) A) sz (by decide +kernel) rfl (Nat.le_of_ble_eq_true rfl) (fun p e s m args below meth c A ls H locs B hP hD hS hl => ?_)
  obtain ⟨hx, hb, hml, hown, hts, hr, hlk, hnm, hK, hA, hN, hC⟩ := id B
  have hown : s.vm.findClass RX7 = some m.cls := hown
  have hl : lv_has ls 3 [(0, .int 1), (1, .int 0), (2, .int 8)] := hl
  refine lv_iload_n hx hb dX7_is_0 rfl (lv_at hl 0 rfl) ?_
  refine lv_iload_n hx hb dX7_is_1 rfl (lv_at hl 1 rfl) ?_
  refine lv_icmp_lt (tgt := 14) hx hb dX7_is_2 (by decide) (fun q9 => absurd q9 (by decide +kernel)) (fun _ => ?_)
  refine lv_iload_n hx hb dX7_is_5 rfl (lv_at hl 0 rfl) ?_
  refine lv_iload_n hx hb dX7_is_6 rfl (lv_at hl 2 rfl) ?_
  refine lv_icmp_gt (tgt := 14) hx hb dX7_is_7 (by decide) (fun q9 => absurd q9 (by decide +kernel)) (fun _ => ?_)
  refine lv_iconst (v := 1) hx hb dX7_is_10 (by decide +kernel) ?_
  refine lv_goto (tgt := 15) hx hb dX7_is_11 (by decide) ?_
  exact k_ri B hP hD hS dX7_is_15 () [] rfl rfl rfl (Nat.le_of_ble_eq_true rfl) (Nat.le_of_ble_eq_true rfl) rfl
set_option maxHeartbeats 4000000 in
set_option maxRecDepth 100000 in
theorem c_X7_is_v8 (l : Launch) (dC : Nat → ClassId) (dI : Nat → Nat → Nat) (cI cJ cZ cM : ClassId)    : k_Mi l yX7_is wsX7_is ({ frames := 1, cells := 0, slots := 0, locals := 40 }) (dC, dI) vwCl (tyy cI cJ cZ cM) [] [.int 2, .int 0, .int 8] 0 0 (fun (u9 : Unit) => []) (fun (r9 : Int32) (u9 : Unit) => r9 = 1) := by
  refine fun sz => k_enter (cc := cX7_is) (maxL := 3) (ret := some (.boolean)) (Qc := fun A => va_Qi (fun (r9 : Int32) (u9 : Unit) => r9 = 1) (fun u => k_B (dC, dI) vwCl (tyy cI cJ cZ cM) A ((fun (u9 : Unit) => []) u)) A) sz (by decide +kernel) rfl (Nat.le_of_ble_eq_true rfl) (fun p e s m args below meth c A ls H locs B hP hD hS hl => ?_)
  obtain ⟨hx, hb, hml, hown, hts, hr, hlk, hnm, hK, hA, hN, hC⟩ := id B
  have hown : s.vm.findClass RX7 = some m.cls := hown
  have hl : lv_has ls 3 [(0, .int 2), (1, .int 0), (2, .int 8)] := hl
  refine lv_iload_n hx hb dX7_is_0 rfl (lv_at hl 0 rfl) ?_
  refine lv_iload_n hx hb dX7_is_1 rfl (lv_at hl 1 rfl) ?_
  refine lv_icmp_lt (tgt := 14) hx hb dX7_is_2 (by decide) (fun q9 => absurd q9 (by decide +kernel)) (fun _ => ?_)
  refine lv_iload_n hx hb dX7_is_5 rfl (lv_at hl 0 rfl) ?_
  refine lv_iload_n hx hb dX7_is_6 rfl (lv_at hl 2 rfl) ?_
  refine lv_icmp_gt (tgt := 14) hx hb dX7_is_7 (by decide) (fun q9 => absurd q9 (by decide +kernel)) (fun _ => ?_)
  refine lv_iconst (v := 1) hx hb dX7_is_10 (by decide +kernel) ?_
  refine lv_goto (tgt := 15) hx hb dX7_is_11 (by decide) ?_
  exact k_ri B hP hD hS dX7_is_15 () [] rfl rfl rfl (Nat.le_of_ble_eq_true rfl) (Nat.le_of_ble_eq_true rfl) rfl
set_option maxHeartbeats 4000000 in
set_option maxRecDepth 100000 in
theorem c_X7_is_v9 (l : Launch) (dC : Nat → ClassId) (dI : Nat → Nat → Nat) (cI cJ cZ cM : ClassId)    : k_Mi l yX7_is wsX7_is ({ frames := 1, cells := 0, slots := 0, locals := 40 }) (dC, dI) vwCl (tyy cI cJ cZ cM) [] [.int 3, .int 0, .int 8] 0 0 (fun (u9 : Unit) => []) (fun (r9 : Int32) (u9 : Unit) => r9 = 1) := by
  refine fun sz => k_enter (cc := cX7_is) (maxL := 3) (ret := some (.boolean)) (Qc := fun A => va_Qi (fun (r9 : Int32) (u9 : Unit) => r9 = 1) (fun u => k_B (dC, dI) vwCl (tyy cI cJ cZ cM) A ((fun (u9 : Unit) => []) u)) A) sz (by decide +kernel) rfl (Nat.le_of_ble_eq_true rfl) (fun p e s m args below meth c A ls H locs B hP hD hS hl => ?_)
  obtain ⟨hx, hb, hml, hown, hts, hr, hlk, hnm, hK, hA, hN, hC⟩ := id B
  have hown : s.vm.findClass RX7 = some m.cls := hown
  have hl : lv_has ls 3 [(0, .int 3), (1, .int 0), (2, .int 8)] := hl
  refine lv_iload_n hx hb dX7_is_0 rfl (lv_at hl 0 rfl) ?_
  refine lv_iload_n hx hb dX7_is_1 rfl (lv_at hl 1 rfl) ?_
  refine lv_icmp_lt (tgt := 14) hx hb dX7_is_2 (by decide) (fun q9 => absurd q9 (by decide +kernel)) (fun _ => ?_)
  refine lv_iload_n hx hb dX7_is_5 rfl (lv_at hl 0 rfl) ?_
  refine lv_iload_n hx hb dX7_is_6 rfl (lv_at hl 2 rfl) ?_
  refine lv_icmp_gt (tgt := 14) hx hb dX7_is_7 (by decide) (fun q9 => absurd q9 (by decide +kernel)) (fun _ => ?_)
  refine lv_iconst (v := 1) hx hb dX7_is_10 (by decide +kernel) ?_
  refine lv_goto (tgt := 15) hx hb dX7_is_11 (by decide) ?_
  exact k_ri B hP hD hS dX7_is_15 () [] rfl rfl rfl (Nat.le_of_ble_eq_true rfl) (Nat.le_of_ble_eq_true rfl) rfl
set_option maxHeartbeats 4000000 in
set_option maxRecDepth 100000 in
theorem c_X7_is_v10 (l : Launch) (dC : Nat → ClassId) (dI : Nat → Nat → Nat) (cI cJ cZ cM : ClassId)    : k_Mi l yX7_is wsX7_is ({ frames := 1, cells := 0, slots := 0, locals := 40 }) (dC, dI) vwCl (tyy cI cJ cZ cM) [] [.int 4, .int 0, .int 8] 0 0 (fun (u9 : Unit) => []) (fun (r9 : Int32) (u9 : Unit) => r9 = 1) := by
  refine fun sz => k_enter (cc := cX7_is) (maxL := 3) (ret := some (.boolean)) (Qc := fun A => va_Qi (fun (r9 : Int32) (u9 : Unit) => r9 = 1) (fun u => k_B (dC, dI) vwCl (tyy cI cJ cZ cM) A ((fun (u9 : Unit) => []) u)) A) sz (by decide +kernel) rfl (Nat.le_of_ble_eq_true rfl) (fun p e s m args below meth c A ls H locs B hP hD hS hl => ?_)
  obtain ⟨hx, hb, hml, hown, hts, hr, hlk, hnm, hK, hA, hN, hC⟩ := id B
  have hown : s.vm.findClass RX7 = some m.cls := hown
  have hl : lv_has ls 3 [(0, .int 4), (1, .int 0), (2, .int 8)] := hl
  refine lv_iload_n hx hb dX7_is_0 rfl (lv_at hl 0 rfl) ?_
  refine lv_iload_n hx hb dX7_is_1 rfl (lv_at hl 1 rfl) ?_
  refine lv_icmp_lt (tgt := 14) hx hb dX7_is_2 (by decide) (fun q9 => absurd q9 (by decide +kernel)) (fun _ => ?_)
  refine lv_iload_n hx hb dX7_is_5 rfl (lv_at hl 0 rfl) ?_
  refine lv_iload_n hx hb dX7_is_6 rfl (lv_at hl 2 rfl) ?_
  refine lv_icmp_gt (tgt := 14) hx hb dX7_is_7 (by decide) (fun q9 => absurd q9 (by decide +kernel)) (fun _ => ?_)
  refine lv_iconst (v := 1) hx hb dX7_is_10 (by decide +kernel) ?_
  refine lv_goto (tgt := 15) hx hb dX7_is_11 (by decide) ?_
  exact k_ri B hP hD hS dX7_is_15 () [] rfl rfl rfl (Nat.le_of_ble_eq_true rfl) (Nat.le_of_ble_eq_true rfl) rfl
set_option maxHeartbeats 4000000 in
set_option maxRecDepth 100000 in
theorem c_X7_is_v11 (l : Launch) (dC : Nat → ClassId) (dI : Nat → Nat → Nat) (cI cJ cZ cM : ClassId)    : k_Mi l yX7_is wsX7_is ({ frames := 1, cells := 0, slots := 0, locals := 40 }) (dC, dI) vwCl (tyy cI cJ cZ cM) [] [.int 5, .int 0, .int 8] 0 0 (fun (u9 : Unit) => []) (fun (r9 : Int32) (u9 : Unit) => r9 = 1) := by
  refine fun sz => k_enter (cc := cX7_is) (maxL := 3) (ret := some (.boolean)) (Qc := fun A => va_Qi (fun (r9 : Int32) (u9 : Unit) => r9 = 1) (fun u => k_B (dC, dI) vwCl (tyy cI cJ cZ cM) A ((fun (u9 : Unit) => []) u)) A) sz (by decide +kernel) rfl (Nat.le_of_ble_eq_true rfl) (fun p e s m args below meth c A ls H locs B hP hD hS hl => ?_)
  obtain ⟨hx, hb, hml, hown, hts, hr, hlk, hnm, hK, hA, hN, hC⟩ := id B
  have hown : s.vm.findClass RX7 = some m.cls := hown
  have hl : lv_has ls 3 [(0, .int 5), (1, .int 0), (2, .int 8)] := hl
  refine lv_iload_n hx hb dX7_is_0 rfl (lv_at hl 0 rfl) ?_
  refine lv_iload_n hx hb dX7_is_1 rfl (lv_at hl 1 rfl) ?_
  refine lv_icmp_lt (tgt := 14) hx hb dX7_is_2 (by decide) (fun q9 => absurd q9 (by decide +kernel)) (fun _ => ?_)
  refine lv_iload_n hx hb dX7_is_5 rfl (lv_at hl 0 rfl) ?_
  refine lv_iload_n hx hb dX7_is_6 rfl (lv_at hl 2 rfl) ?_
  refine lv_icmp_gt (tgt := 14) hx hb dX7_is_7 (by decide) (fun q9 => absurd q9 (by decide +kernel)) (fun _ => ?_)
  refine lv_iconst (v := 1) hx hb dX7_is_10 (by decide +kernel) ?_
  refine lv_goto (tgt := 15) hx hb dX7_is_11 (by decide) ?_
  exact k_ri B hP hD hS dX7_is_15 () [] rfl rfl rfl (Nat.le_of_ble_eq_true rfl) (Nat.le_of_ble_eq_true rfl) rfl
set_option maxHeartbeats 4000000 in
set_option maxRecDepth 100000 in
theorem c_X7_is_v12 (l : Launch) (dC : Nat → ClassId) (dI : Nat → Nat → Nat) (cI cJ cZ cM : ClassId)    : k_Mi l yX7_is wsX7_is ({ frames := 1, cells := 0, slots := 0, locals := 40 }) (dC, dI) vwCl (tyy cI cJ cZ cM) [] [.int 6, .int 0, .int 8] 0 0 (fun (u9 : Unit) => []) (fun (r9 : Int32) (u9 : Unit) => r9 = 1) := by
  refine fun sz => k_enter (cc := cX7_is) (maxL := 3) (ret := some (.boolean)) (Qc := fun A => va_Qi (fun (r9 : Int32) (u9 : Unit) => r9 = 1) (fun u => k_B (dC, dI) vwCl (tyy cI cJ cZ cM) A ((fun (u9 : Unit) => []) u)) A) sz (by decide +kernel) rfl (Nat.le_of_ble_eq_true rfl) (fun p e s m args below meth c A ls H locs B hP hD hS hl => ?_)
  obtain ⟨hx, hb, hml, hown, hts, hr, hlk, hnm, hK, hA, hN, hC⟩ := id B
  have hown : s.vm.findClass RX7 = some m.cls := hown
  have hl : lv_has ls 3 [(0, .int 6), (1, .int 0), (2, .int 8)] := hl
  refine lv_iload_n hx hb dX7_is_0 rfl (lv_at hl 0 rfl) ?_
  refine lv_iload_n hx hb dX7_is_1 rfl (lv_at hl 1 rfl) ?_
  refine lv_icmp_lt (tgt := 14) hx hb dX7_is_2 (by decide) (fun q9 => absurd q9 (by decide +kernel)) (fun _ => ?_)
  refine lv_iload_n hx hb dX7_is_5 rfl (lv_at hl 0 rfl) ?_
  refine lv_iload_n hx hb dX7_is_6 rfl (lv_at hl 2 rfl) ?_
  refine lv_icmp_gt (tgt := 14) hx hb dX7_is_7 (by decide) (fun q9 => absurd q9 (by decide +kernel)) (fun _ => ?_)
  refine lv_iconst (v := 1) hx hb dX7_is_10 (by decide +kernel) ?_
  refine lv_goto (tgt := 15) hx hb dX7_is_11 (by decide) ?_
  exact k_ri B hP hD hS dX7_is_15 () [] rfl rfl rfl (Nat.le_of_ble_eq_true rfl) (Nat.le_of_ble_eq_true rfl) rfl
set_option maxHeartbeats 4000000 in
set_option maxRecDepth 100000 in
theorem c_X7_is_v13 (l : Launch) (dC : Nat → ClassId) (dI : Nat → Nat → Nat) (cI cJ cZ cM : ClassId)    : k_Mi l yX7_is wsX7_is ({ frames := 1, cells := 0, slots := 0, locals := 40 }) (dC, dI) vwCl (tyy cI cJ cZ cM) [] [.int 7, .int 0, .int 8] 0 0 (fun (u9 : Unit) => []) (fun (r9 : Int32) (u9 : Unit) => r9 = 1) := by
  refine fun sz => k_enter (cc := cX7_is) (maxL := 3) (ret := some (.boolean)) (Qc := fun A => va_Qi (fun (r9 : Int32) (u9 : Unit) => r9 = 1) (fun u => k_B (dC, dI) vwCl (tyy cI cJ cZ cM) A ((fun (u9 : Unit) => []) u)) A) sz (by decide +kernel) rfl (Nat.le_of_ble_eq_true rfl) (fun p e s m args below meth c A ls H locs B hP hD hS hl => ?_)
  obtain ⟨hx, hb, hml, hown, hts, hr, hlk, hnm, hK, hA, hN, hC⟩ := id B
  have hown : s.vm.findClass RX7 = some m.cls := hown
  have hl : lv_has ls 3 [(0, .int 7), (1, .int 0), (2, .int 8)] := hl
  refine lv_iload_n hx hb dX7_is_0 rfl (lv_at hl 0 rfl) ?_
  refine lv_iload_n hx hb dX7_is_1 rfl (lv_at hl 1 rfl) ?_
  refine lv_icmp_lt (tgt := 14) hx hb dX7_is_2 (by decide) (fun q9 => absurd q9 (by decide +kernel)) (fun _ => ?_)
  refine lv_iload_n hx hb dX7_is_5 rfl (lv_at hl 0 rfl) ?_
  refine lv_iload_n hx hb dX7_is_6 rfl (lv_at hl 2 rfl) ?_
  refine lv_icmp_gt (tgt := 14) hx hb dX7_is_7 (by decide) (fun q9 => absurd q9 (by decide +kernel)) (fun _ => ?_)
  refine lv_iconst (v := 1) hx hb dX7_is_10 (by decide +kernel) ?_
  refine lv_goto (tgt := 15) hx hb dX7_is_11 (by decide) ?_
  exact k_ri B hP hD hS dX7_is_15 () [] rfl rfl rfl (Nat.le_of_ble_eq_true rfl) (Nat.le_of_ble_eq_true rfl) rfl
set_option maxHeartbeats 4000000 in
set_option maxRecDepth 100000 in
theorem c_X7_is_v14 (l : Launch) (dC : Nat → ClassId) (dI : Nat → Nat → Nat) (cI cJ cZ cM : ClassId)    : k_Mi l yX7_is wsX7_is ({ frames := 1, cells := 0, slots := 0, locals := 40 }) (dC, dI) vwCl (tyy cI cJ cZ cM) [] [.int 8, .int 0, .int 8] 0 0 (fun (u9 : Unit) => []) (fun (r9 : Int32) (u9 : Unit) => r9 = 1) := by
  refine fun sz => k_enter (cc := cX7_is) (maxL := 3) (ret := some (.boolean)) (Qc := fun A => va_Qi (fun (r9 : Int32) (u9 : Unit) => r9 = 1) (fun u => k_B (dC, dI) vwCl (tyy cI cJ cZ cM) A ((fun (u9 : Unit) => []) u)) A) sz (by decide +kernel) rfl (Nat.le_of_ble_eq_true rfl) (fun p e s m args below meth c A ls H locs B hP hD hS hl => ?_)
  obtain ⟨hx, hb, hml, hown, hts, hr, hlk, hnm, hK, hA, hN, hC⟩ := id B
  have hown : s.vm.findClass RX7 = some m.cls := hown
  have hl : lv_has ls 3 [(0, .int 8), (1, .int 0), (2, .int 8)] := hl
  refine lv_iload_n hx hb dX7_is_0 rfl (lv_at hl 0 rfl) ?_
  refine lv_iload_n hx hb dX7_is_1 rfl (lv_at hl 1 rfl) ?_
  refine lv_icmp_lt (tgt := 14) hx hb dX7_is_2 (by decide) (fun q9 => absurd q9 (by decide +kernel)) (fun _ => ?_)
  refine lv_iload_n hx hb dX7_is_5 rfl (lv_at hl 0 rfl) ?_
  refine lv_iload_n hx hb dX7_is_6 rfl (lv_at hl 2 rfl) ?_
  refine lv_icmp_gt (tgt := 14) hx hb dX7_is_7 (by decide) (fun q9 => absurd q9 (by decide +kernel)) (fun _ => ?_)
  refine lv_iconst (v := 1) hx hb dX7_is_10 (by decide +kernel) ?_
  refine lv_goto (tgt := 15) hx hb dX7_is_11 (by decide) ?_
  exact k_ri B hP hD hS dX7_is_15 () [] rfl rfl rfl (Nat.le_of_ble_eq_true rfl) (Nat.le_of_ble_eq_true rfl) rfl
set_option maxHeartbeats 4000000 in
set_option maxRecDepth 100000 in
theorem c_X7_ladder_v1 (l : Launch) (dC : Nat → ClassId) (dI : Nat → Nat → Nat) (cI cJ cZ cM : ClassId) (p0 : Nat) (p1 : Int32) (p2 : Nat → Nat) (b_0 : 0 ≤ p1.toInt) (t_0 : p1.toInt ≤ 8)  : k_Mi l yX7_ladder wsX7_ladder ({ frames := 3, cells := 0, slots := 0, locals := 88 }) (dC, dI) vwCl (tyy cI cJ cZ cM) [(p0, .inr (7, oM p2 i7 j7)), ((p2 49), .inl (cI, 22, .inl (fun _ => 0))), ((p2 50), .inl (cI, 22, .inl (fun _ => 0))), ((p2 72), .inl (cI, 9216, .inl (fun _ => 0))), ((p2 14), .inl (cI, 2, .inl (fun _ => 0))), ((p2 18), .inl (cI, 2, .inl (fun _ => 0)))] [.ref p0, .int p1] 0 0 (fun (u9 : (Nat × (Nat → Nat))) => [(p0, .inr (7, oM p2 i7 j7)), ((p2 49), .inl (cI, 22, .inl (fun _ => 0))), ((p2 50), .inl (cI, 22, .inl (fun _ => 0))), ((p2 72), .inl (cI, 9216, .inl (upd (fun _ => (-1)) 0 0))), ((p2 14), .inl (cI, 2, .inl (fun _ => 0))), ((p2 18), .inl (cI, 2, .inl (fun _ => 0)))]) (fun (r9 : Int32) (u9 : (Nat × (Nat → Nat))) => match u9.1 with | 0 => (p1.toInt = 0) ∧ r9 = 1 | 1 => (p1.toInt = 1) ∧ r9 = 0 | 2 => (p1.toInt = 2) ∧ r9 = 0 | 3 => (p1.toInt = 3) ∧ r9 = 0 | 4 => (p1.toInt = 4) ∧ r9 = 0 | 5 => (p1.toInt = 5) ∧ r9 = 0 | 6 => (p1.toInt = 6) ∧ r9 = 0 | 7 => (p1.toInt = 7) ∧ r9 = 0 | 8 => (p1.toInt = 8) ∧ r9 = 0 | _ => False) := by
  refine fun sz => k_enter (cc := cX7_ladder) (maxL := 4) (ret := some (.int)) (Qc := fun A => va_Qi (fun (r9 : Int32) (u9 : (Nat × (Nat → Nat))) => match u9.1 with | 0 => (p1.toInt = 0) ∧ r9 = 1 | 1 => (p1.toInt = 1) ∧ r9 = 0 | 2 => (p1.toInt = 2) ∧ r9 = 0 | 3 => (p1.toInt = 3) ∧ r9 = 0 | 4 => (p1.toInt = 4) ∧ r9 = 0 | 5 => (p1.toInt = 5) ∧ r9 = 0 | 6 => (p1.toInt = 6) ∧ r9 = 0 | 7 => (p1.toInt = 7) ∧ r9 = 0 | 8 => (p1.toInt = 8) ∧ r9 = 0 | _ => False) (fun u => k_B (dC, dI) vwCl (tyy cI cJ cZ cM) A ((fun (u9 : (Nat × (Nat → Nat))) => [(p0, .inr (7, oM p2 i7 j7)), ((p2 49), .inl (cI, 22, .inl (fun _ => 0))), ((p2 50), .inl (cI, 22, .inl (fun _ => 0))), ((p2 72), .inl (cI, 9216, .inl (upd (fun _ => (-1)) 0 0))), ((p2 14), .inl (cI, 2, .inl (fun _ => 0))), ((p2 18), .inl (cI, 2, .inl (fun _ => 0)))]) u)) A) sz (by decide +kernel) rfl (Nat.le_of_ble_eq_true rfl) (fun p e s m args below meth c A ls H locs B hP hD hS hl => ?_)
  obtain ⟨hx, hb, hml, hown, hts, hr, hlk, hnm, hK, hA, hN, hC⟩ := id B
  have hown : s.vm.findClass RX7 = some m.cls := hown
  have hl : lv_has ls 4 [(0, .ref p0), (1, .int p1)] := hl
  have w_0 : (Cond.fieldLink RX7 54 "WishSeaModel" "things" "[I").before args s = true := hts _ (List.mem_of_getElem? (i := 1) rfl)
  have w_1 : (Cond.fieldLink RX7 51 "WishSeaModel" "bank" "I").before args s = true := hts _ (List.mem_of_getElem? (i := 2) rfl)
  have w_2 : (Cond.fieldLink RX7 231 "WishSeaModel" "rungSea" "[I").before args s = true := hts _ (List.mem_of_getElem? (i := 3) rfl)
  have hinX7 : ∀ w ∈ u_ws RX7 TX7 92, w ∈ wsX7_ladder := fun _ h => List.mem_cons_of_mem _ (List.mem_append_right _ h)
  rcases (show p1.toInt = 0 ∨ p1.toInt = 1 ∨ p1.toInt = 2 ∨ p1.toInt = 3 ∨ p1.toInt = 4 ∨ p1.toInt = 5 ∨ p1.toInt = 6 ∨ p1.toInt = 7 ∨ p1.toInt = 8 by omega) with c_1 | c_1 | c_1 | c_1 | c_1 | c_1 | c_1 | c_1 | c_1
  · obtain rfl : p1 = 0 := k_eqL (by decide +kernel) c_1
    refine lv_iload_n hx hb dX7_ladder_0 rfl (lv_at hl 1 rfl) ?_
    refine lv_iconst (v := 0) hx hb dX7_ladder_1 (by decide +kernel) ?_
    refine lv_bipush (v := 8) hx hb dX7_ladder_2 (by decide +kernel) ?_
    refine k_ci (wc := []) (wr := [(p0, .inr (7, oM p2 i7 j7)), ((p2 49), .inl (cI, 22, .inl (fun _ => 0))), ((p2 50), .inl (cI, 22, .inl (fun _ => 0))), ((p2 72), .inl (cI, 9216, .inl (fun _ => 0))), ((p2 14), .inl (cI, 2, .inl (fun _ => 0))), ((p2 18), .inl (cI, 2, .inl (fun _ => 0)))]) (fun hPc hDc hFc => va_runS (As := [.int 0, .int 0, .int 8]) (rest := []) ⟨hx, hb, hml, hown, hts⟩ (c_X7_is_v6 l dC dI cI cJ cZ cM H.size) (va_cwS 3 hts gX7_ladder_X7_is rfl rfl rfl (by decide +kernel) ⟨(Nat.le_of_ble_eq_true rfl), (Nat.le_of_ble_eq_true rfl)⟩) (k_pS hPc hDc hK hN hC hS hFc) rfl rfl hl.1 rfl (lv_room (Nat.le_of_ble_eq_true rfl)) dX7_ladder_4 ⟨(Nat.le_of_ble_eq_true rfl), (Nat.le_of_ble_eq_true rfl)⟩) hP hD hS hA [] [0, 1, 2, 3, 4, 5] rfl rfl rfl rfl (by decide) (fun _ => rfl) 0 0 rfl rfl (fun r_2 u_3 H locs hw hP hD hS => ?_)
    obtain rfl : r_2 = 1 := hw
    have hP : va_P (dC, dI) vwCl [(p0, .inr (7, oM p2 i7 j7)), ((p2 49), .inl (cI, 22, .inl (fun _ => 0))), ((p2 50), .inl (cI, 22, .inl (fun _ => 0))), ((p2 72), .inl (cI, 9216, .inl (fun _ => 0))), ((p2 14), .inl (cI, 2, .inl (fun _ => 0))), ((p2 18), .inl (cI, 2, .inl (fun _ => 0)))] H := hP
    have hD : va_D A [(p0, .inr (7, oM p2 i7 j7)), ((p2 49), .inl (cI, 22, .inl (fun _ => 0))), ((p2 50), .inl (cI, 22, .inl (fun _ => 0))), ((p2 72), .inl (cI, 9216, .inl (fun _ => 0))), ((p2 14), .inl (cI, 2, .inl (fun _ => 0))), ((p2 18), .inl (cI, 2, .inl (fun _ => 0)))] := hD
    refine lv_if_ne (tgt := 12) hx hb dX7_ladder_7 (by decide) (fun _ => ?_) (fun q9 => absurd q9 (by decide +kernel))
    refine lv_aload_n hx hb dX7_ladder_12 rfl (lv_at hl 0 rfl) ?_
    refine k_cv (wc := [(p0, .inr (7, oM p2 i7 j7)), ((p2 49), .inl (cI, 22, .inl (fun _ => 0))), ((p2 50), .inl (cI, 22, .inl (fun _ => 0))), ((p2 72), .inl (cI, 9216, .inl (fun _ => 0))), ((p2 14), .inl (cI, 2, .inl (fun _ => 0))), ((p2 18), .inl (cI, 2, .inl (fun _ => 0)))]) (wr := []) (fun hPc hDc hFc => va_runV (As := []) (rest := []) ⟨hx, hb, hml, hown, hts⟩ (c_X7_climbs_v0 l dC dI cI cJ cZ cM p0 p2 H.size) (cwV 0 hts gX7_ladder_X7_climbs rfl rfl rfl (by decide +kernel) ⟨(Nat.le_of_ble_eq_true rfl), (Nat.le_of_ble_eq_true rfl)⟩) (k_pV hPc hDc hK hN hC hS hFc hP (q0 := 0) (ci := 7) rfl rfl) rfl rfl hl.1 rfl (lv_room (Nat.le_of_ble_eq_true rfl)) dX7_ladder_13 ⟨(Nat.le_of_ble_eq_true rfl), (Nat.le_of_ble_eq_true rfl)⟩) hP hD hS hA [0, 1, 2, 3, 4, 5] [] rfl rfl rfl rfl (by decide) (fun _ => rfl) 0 0 rfl rfl (fun u_5 H locs hw hP hD hS => ?_)
    have hP : va_P (dC, dI) vwCl [(p0, .inr (7, oM p2 i7 j7)), ((p2 49), .inl (cI, 22, .inl (fun _ => 0))), ((p2 50), .inl (cI, 22, .inl (fun _ => 0))), ((p2 72), .inl (cI, 9216, .inl (upd (fun _ => (-1)) 0 0))), ((p2 14), .inl (cI, 2, .inl (fun _ => 0))), ((p2 18), .inl (cI, 2, .inl (fun _ => 0)))] H := hP
    have hD : va_D A [(p0, .inr (7, oM p2 i7 j7)), ((p2 49), .inl (cI, 22, .inl (fun _ => 0))), ((p2 50), .inl (cI, 22, .inl (fun _ => 0))), ((p2 72), .inl (cI, 9216, .inl (upd (fun _ => (-1)) 0 0))), ((p2 14), .inl (cI, 2, .inl (fun _ => 0))), ((p2 18), .inl (cI, 2, .inl (fun _ => 0)))] := hD
    refine lv_iconst (v := 0) hx hb dX7_ladder_16 (by decide +kernel) ?_
    refine lv_istore_n (lv' := [(2, .int 0), (0, .ref p0), (1, .int 0)]) hx hb dX7_ladder_17 rfl hl (by decide) rfl (fun ls hl => ?_)
    refine lv_iconst (v := 0) hx hb dX7_ladder_18 (by decide +kernel) ?_
    refine lv_istore_n (lv' := [(3, .int 0), (2, .int 0), (0, .ref p0), (1, .int 0)]) hx hb dX7_ladder_19 rfl hl (by decide) rfl (fun ls hl => ?_)
    refine lv_iload_n hx hb dX7_ladder_20 rfl (lv_at hl 0 rfl) ?_
    refine lv_iconst (v := 1) hx hb dX7_ladder_21 (by decide +kernel) ?_
    refine lv_aload_n hx hb dX7_ladder_22 rfl (lv_at hl 2 rfl) ?_
    refine k_get (D := (dC, dI)) (ci := 7) (v := .ref (p2 14)) (C := RX7) (T := TX7) (N := 92) hx hb hts hinX7 hown hK hP 0 rfl rfl 14 (by decide) w_0 rfl rfl dX7_ladder_23 ?_
    refine lv_aload_n hx hb dX7_ladder_26 rfl (lv_at hl 2 rfl) ?_
    refine k_get (D := (dC, dI)) (ci := 7) (v := .int 0) (C := RX7) (T := TX7) (N := 92) hx hb hts hinX7 hown hK hP 0 rfl rfl 13 (by decide) w_1 rfl rfl dX7_ladder_27 ?_
    refine k_iald (v := 0) hx hb hK hP 4 0 0 rfl rfl rfl (Nat.le_of_ble_eq_true rfl) (Nat.le_of_ble_eq_true rfl) rfl dX7_ladder_30 ?_
    refine lv_ishl hx hb dX7_ladder_31 ?_
    refine k_int (v := 1) (by decide +kernel) ?_
    refine lv_icmp_ge (tgt := 65) hx hb dX7_ladder_32 (by decide) (fun q9 => absurd q9 (by decide +kernel)) (fun _ => ?_)
    refine lv_iload_n hx hb dX7_ladder_35 rfl (lv_at hl 1 rfl) ?_
    refine lv_aload_n hx hb dX7_ladder_36 rfl (lv_at hl 2 rfl) ?_
    refine k_get (D := (dC, dI)) (ci := 7) (v := .ref (p2 72)) (C := RX7) (T := TX7) (N := 92) hx hb hts hinX7 hown hK hP 0 rfl rfl 72 (by decide) w_2 rfl rfl dX7_ladder_37 ?_
    refine lv_sipush (v := 1024) hx hb dX7_ladder_40 (by decide +kernel) ?_
    refine lv_iload_n hx hb dX7_ladder_43 rfl (lv_at hl 3 rfl) ?_
    refine lv_imul hx hb dX7_ladder_44 ?_
    refine k_int (v := 0) (by decide +kernel) ?_
    refine lv_iload_n hx hb dX7_ladder_45 rfl (lv_at hl 0 rfl) ?_
    refine lv_iadd hx hb dX7_ladder_46 ?_
    refine k_int (v := 0) (by decide +kernel) ?_
    refine k_iald (v := 0) hx hb hK hP 3 0 0 rfl rfl rfl (Nat.le_of_ble_eq_true rfl) (Nat.le_of_ble_eq_true rfl) rfl dX7_ladder_47 ?_
    refine lv_iconst (v := (-1)) hx hb dX7_ladder_48 (by decide +kernel) ?_
    refine lv_icmp_ne (tgt := 56) hx hb dX7_ladder_49 (by decide) (fun _ => ?_) (fun q9 => absurd q9 (by decide +kernel))
    refine lv_iconst (v := 1) hx hb dX7_ladder_56 (by decide +kernel) ?_
    refine lv_iadd hx hb dX7_ladder_57 ?_
    refine k_int (v := 1) (by decide +kernel) ?_
    refine lv_istore_n (lv' := [(2, .int 1), (3, .int 0), (0, .ref p0), (1, .int 0)]) hx hb dX7_ladder_58 rfl hl (by decide) rfl (fun ls hl => ?_)
    refine lv_iinc (v := 1) (lv' := [(3, .int 1), (2, .int 1), (0, .ref p0), (1, .int 0)]) hx hb dX7_ladder_59 hl (k := 1) rfl (by decide +kernel) (by decide) rfl (fun ls hl => ?_)
    refine lv_goto (tgt := 20) hx hb dX7_ladder_62 (by decide) ?_
    refine lv_iload_n hx hb dX7_ladder_20 rfl (lv_at hl 0 rfl) ?_
    refine lv_iconst (v := 1) hx hb dX7_ladder_21 (by decide +kernel) ?_
    refine lv_aload_n hx hb dX7_ladder_22 rfl (lv_at hl 2 rfl) ?_
    refine k_get (D := (dC, dI)) (ci := 7) (v := .ref (p2 14)) (C := RX7) (T := TX7) (N := 92) hx hb hts hinX7 hown hK hP 0 rfl rfl 14 (by decide) w_0 rfl rfl dX7_ladder_23 ?_
    refine lv_aload_n hx hb dX7_ladder_26 rfl (lv_at hl 2 rfl) ?_
    refine k_get (D := (dC, dI)) (ci := 7) (v := .int 0) (C := RX7) (T := TX7) (N := 92) hx hb hts hinX7 hown hK hP 0 rfl rfl 13 (by decide) w_1 rfl rfl dX7_ladder_27 ?_
    refine k_iald (v := 0) hx hb hK hP 4 0 0 rfl rfl rfl (Nat.le_of_ble_eq_true rfl) (Nat.le_of_ble_eq_true rfl) rfl dX7_ladder_30 ?_
    refine lv_ishl hx hb dX7_ladder_31 ?_
    refine k_int (v := 1) (by decide +kernel) ?_
    refine lv_icmp_ge (tgt := 65) hx hb dX7_ladder_32 (by decide) (fun _ => ?_) (fun q9 => absurd q9 (by decide +kernel))
    refine lv_iload_n hx hb dX7_ladder_65 rfl (lv_at hl 1 rfl) ?_
    exact k_ri B hP hD hS dX7_ladder_66 (0, (fun _ => 0)) [0, 1, 2, 3, 4, 5] rfl rfl rfl (Nat.le_of_ble_eq_true rfl) (Nat.le_of_ble_eq_true rfl) ⟨c_1, rfl⟩
  · obtain rfl : p1 = 1 := k_eqL (by decide +kernel) c_1
    refine lv_iload_n hx hb dX7_ladder_0 rfl (lv_at hl 1 rfl) ?_
    refine lv_iconst (v := 0) hx hb dX7_ladder_1 (by decide +kernel) ?_
    refine lv_bipush (v := 8) hx hb dX7_ladder_2 (by decide +kernel) ?_
    refine k_ci (wc := []) (wr := [(p0, .inr (7, oM p2 i7 j7)), ((p2 49), .inl (cI, 22, .inl (fun _ => 0))), ((p2 50), .inl (cI, 22, .inl (fun _ => 0))), ((p2 72), .inl (cI, 9216, .inl (fun _ => 0))), ((p2 14), .inl (cI, 2, .inl (fun _ => 0))), ((p2 18), .inl (cI, 2, .inl (fun _ => 0)))]) (fun hPc hDc hFc => va_runS (As := [.int 1, .int 0, .int 8]) (rest := []) ⟨hx, hb, hml, hown, hts⟩ (c_X7_is_v7 l dC dI cI cJ cZ cM H.size) (va_cwS 3 hts gX7_ladder_X7_is rfl rfl rfl (by decide +kernel) ⟨(Nat.le_of_ble_eq_true rfl), (Nat.le_of_ble_eq_true rfl)⟩) (k_pS hPc hDc hK hN hC hS hFc) rfl rfl hl.1 rfl (lv_room (Nat.le_of_ble_eq_true rfl)) dX7_ladder_4 ⟨(Nat.le_of_ble_eq_true rfl), (Nat.le_of_ble_eq_true rfl)⟩) hP hD hS hA [] [0, 1, 2, 3, 4, 5] rfl rfl rfl rfl (by decide) (fun _ => rfl) 0 0 rfl rfl (fun r_6 u_7 H locs hw hP hD hS => ?_)
    obtain rfl : r_6 = 1 := hw
    have hP : va_P (dC, dI) vwCl [(p0, .inr (7, oM p2 i7 j7)), ((p2 49), .inl (cI, 22, .inl (fun _ => 0))), ((p2 50), .inl (cI, 22, .inl (fun _ => 0))), ((p2 72), .inl (cI, 9216, .inl (fun _ => 0))), ((p2 14), .inl (cI, 2, .inl (fun _ => 0))), ((p2 18), .inl (cI, 2, .inl (fun _ => 0)))] H := hP
    have hD : va_D A [(p0, .inr (7, oM p2 i7 j7)), ((p2 49), .inl (cI, 22, .inl (fun _ => 0))), ((p2 50), .inl (cI, 22, .inl (fun _ => 0))), ((p2 72), .inl (cI, 9216, .inl (fun _ => 0))), ((p2 14), .inl (cI, 2, .inl (fun _ => 0))), ((p2 18), .inl (cI, 2, .inl (fun _ => 0)))] := hD
    refine lv_if_ne (tgt := 12) hx hb dX7_ladder_7 (by decide) (fun _ => ?_) (fun q9 => absurd q9 (by decide +kernel))
    refine lv_aload_n hx hb dX7_ladder_12 rfl (lv_at hl 0 rfl) ?_
    refine k_cv (wc := [(p0, .inr (7, oM p2 i7 j7)), ((p2 49), .inl (cI, 22, .inl (fun _ => 0))), ((p2 50), .inl (cI, 22, .inl (fun _ => 0))), ((p2 72), .inl (cI, 9216, .inl (fun _ => 0))), ((p2 14), .inl (cI, 2, .inl (fun _ => 0))), ((p2 18), .inl (cI, 2, .inl (fun _ => 0)))]) (wr := []) (fun hPc hDc hFc => va_runV (As := []) (rest := []) ⟨hx, hb, hml, hown, hts⟩ (c_X7_climbs_v0 l dC dI cI cJ cZ cM p0 p2 H.size) (cwV 0 hts gX7_ladder_X7_climbs rfl rfl rfl (by decide +kernel) ⟨(Nat.le_of_ble_eq_true rfl), (Nat.le_of_ble_eq_true rfl)⟩) (k_pV hPc hDc hK hN hC hS hFc hP (q0 := 0) (ci := 7) rfl rfl) rfl rfl hl.1 rfl (lv_room (Nat.le_of_ble_eq_true rfl)) dX7_ladder_13 ⟨(Nat.le_of_ble_eq_true rfl), (Nat.le_of_ble_eq_true rfl)⟩) hP hD hS hA [0, 1, 2, 3, 4, 5] [] rfl rfl rfl rfl (by decide) (fun _ => rfl) 0 0 rfl rfl (fun u_9 H locs hw hP hD hS => ?_)
    have hP : va_P (dC, dI) vwCl [(p0, .inr (7, oM p2 i7 j7)), ((p2 49), .inl (cI, 22, .inl (fun _ => 0))), ((p2 50), .inl (cI, 22, .inl (fun _ => 0))), ((p2 72), .inl (cI, 9216, .inl (upd (fun _ => (-1)) 0 0))), ((p2 14), .inl (cI, 2, .inl (fun _ => 0))), ((p2 18), .inl (cI, 2, .inl (fun _ => 0)))] H := hP
    have hD : va_D A [(p0, .inr (7, oM p2 i7 j7)), ((p2 49), .inl (cI, 22, .inl (fun _ => 0))), ((p2 50), .inl (cI, 22, .inl (fun _ => 0))), ((p2 72), .inl (cI, 9216, .inl (upd (fun _ => (-1)) 0 0))), ((p2 14), .inl (cI, 2, .inl (fun _ => 0))), ((p2 18), .inl (cI, 2, .inl (fun _ => 0)))] := hD
    refine lv_iconst (v := 0) hx hb dX7_ladder_16 (by decide +kernel) ?_
    refine lv_istore_n (lv' := [(2, .int 0), (0, .ref p0), (1, .int 1)]) hx hb dX7_ladder_17 rfl hl (by decide) rfl (fun ls hl => ?_)
    refine lv_iconst (v := 0) hx hb dX7_ladder_18 (by decide +kernel) ?_
    refine lv_istore_n (lv' := [(3, .int 0), (2, .int 0), (0, .ref p0), (1, .int 1)]) hx hb dX7_ladder_19 rfl hl (by decide) rfl (fun ls hl => ?_)
    refine lv_iload_n hx hb dX7_ladder_20 rfl (lv_at hl 0 rfl) ?_
    refine lv_iconst (v := 1) hx hb dX7_ladder_21 (by decide +kernel) ?_
    refine lv_aload_n hx hb dX7_ladder_22 rfl (lv_at hl 2 rfl) ?_
    refine k_get (D := (dC, dI)) (ci := 7) (v := .ref (p2 14)) (C := RX7) (T := TX7) (N := 92) hx hb hts hinX7 hown hK hP 0 rfl rfl 14 (by decide) w_0 rfl rfl dX7_ladder_23 ?_
    refine lv_aload_n hx hb dX7_ladder_26 rfl (lv_at hl 2 rfl) ?_
    refine k_get (D := (dC, dI)) (ci := 7) (v := .int 0) (C := RX7) (T := TX7) (N := 92) hx hb hts hinX7 hown hK hP 0 rfl rfl 13 (by decide) w_1 rfl rfl dX7_ladder_27 ?_
    refine k_iald (v := 0) hx hb hK hP 4 0 0 rfl rfl rfl (Nat.le_of_ble_eq_true rfl) (Nat.le_of_ble_eq_true rfl) rfl dX7_ladder_30 ?_
    refine lv_ishl hx hb dX7_ladder_31 ?_
    refine k_int (v := 1) (by decide +kernel) ?_
    refine lv_icmp_ge (tgt := 65) hx hb dX7_ladder_32 (by decide) (fun q9 => absurd q9 (by decide +kernel)) (fun _ => ?_)
    refine lv_iload_n hx hb dX7_ladder_35 rfl (lv_at hl 1 rfl) ?_
    refine lv_aload_n hx hb dX7_ladder_36 rfl (lv_at hl 2 rfl) ?_
    refine k_get (D := (dC, dI)) (ci := 7) (v := .ref (p2 72)) (C := RX7) (T := TX7) (N := 92) hx hb hts hinX7 hown hK hP 0 rfl rfl 72 (by decide) w_2 rfl rfl dX7_ladder_37 ?_
    refine lv_sipush (v := 1024) hx hb dX7_ladder_40 (by decide +kernel) ?_
    refine lv_iload_n hx hb dX7_ladder_43 rfl (lv_at hl 3 rfl) ?_
    refine lv_imul hx hb dX7_ladder_44 ?_
    refine k_int (v := 1024) (by decide +kernel) ?_
    refine lv_iload_n hx hb dX7_ladder_45 rfl (lv_at hl 0 rfl) ?_
    refine lv_iadd hx hb dX7_ladder_46 ?_
    refine k_int (v := 1024) (by decide +kernel) ?_
    refine k_iald (v := (-1)) hx hb hK hP 3 0 1024 rfl rfl rfl (Nat.le_of_ble_eq_true rfl) (Nat.le_of_ble_eq_true rfl) rfl dX7_ladder_47 ?_
    refine lv_iconst (v := (-1)) hx hb dX7_ladder_48 (by decide +kernel) ?_
    refine lv_icmp_ne (tgt := 56) hx hb dX7_ladder_49 (by decide) (fun q9 => absurd q9 (by decide +kernel)) (fun _ => ?_)
    refine lv_iconst (v := 0) hx hb dX7_ladder_52 (by decide +kernel) ?_
    refine lv_goto (tgt := 57) hx hb dX7_ladder_53 (by decide) ?_
    refine lv_iadd hx hb dX7_ladder_57 ?_
    refine k_int (v := 0) (by decide +kernel) ?_
    refine lv_istore_n (lv' := [(2, .int 0), (3, .int 0), (0, .ref p0), (1, .int 1)]) hx hb dX7_ladder_58 rfl hl (by decide) rfl (fun ls hl => ?_)
    refine lv_iinc (v := 1) (lv' := [(3, .int 1), (2, .int 0), (0, .ref p0), (1, .int 1)]) hx hb dX7_ladder_59 hl (k := 1) rfl (by decide +kernel) (by decide) rfl (fun ls hl => ?_)
    refine lv_goto (tgt := 20) hx hb dX7_ladder_62 (by decide) ?_
    refine lv_iload_n hx hb dX7_ladder_20 rfl (lv_at hl 0 rfl) ?_
    refine lv_iconst (v := 1) hx hb dX7_ladder_21 (by decide +kernel) ?_
    refine lv_aload_n hx hb dX7_ladder_22 rfl (lv_at hl 2 rfl) ?_
    refine k_get (D := (dC, dI)) (ci := 7) (v := .ref (p2 14)) (C := RX7) (T := TX7) (N := 92) hx hb hts hinX7 hown hK hP 0 rfl rfl 14 (by decide) w_0 rfl rfl dX7_ladder_23 ?_
    refine lv_aload_n hx hb dX7_ladder_26 rfl (lv_at hl 2 rfl) ?_
    refine k_get (D := (dC, dI)) (ci := 7) (v := .int 0) (C := RX7) (T := TX7) (N := 92) hx hb hts hinX7 hown hK hP 0 rfl rfl 13 (by decide) w_1 rfl rfl dX7_ladder_27 ?_
    refine k_iald (v := 0) hx hb hK hP 4 0 0 rfl rfl rfl (Nat.le_of_ble_eq_true rfl) (Nat.le_of_ble_eq_true rfl) rfl dX7_ladder_30 ?_
    refine lv_ishl hx hb dX7_ladder_31 ?_
    refine k_int (v := 1) (by decide +kernel) ?_
    refine lv_icmp_ge (tgt := 65) hx hb dX7_ladder_32 (by decide) (fun _ => ?_) (fun q9 => absurd q9 (by decide +kernel))
    refine lv_iload_n hx hb dX7_ladder_65 rfl (lv_at hl 1 rfl) ?_
    exact k_ri B hP hD hS dX7_ladder_66 (1, (fun _ => 0)) [0, 1, 2, 3, 4, 5] rfl rfl rfl (Nat.le_of_ble_eq_true rfl) (Nat.le_of_ble_eq_true rfl) ⟨c_1, rfl⟩
  · obtain rfl : p1 = 2 := k_eqL (by decide +kernel) c_1
    refine lv_iload_n hx hb dX7_ladder_0 rfl (lv_at hl 1 rfl) ?_
    refine lv_iconst (v := 0) hx hb dX7_ladder_1 (by decide +kernel) ?_
    refine lv_bipush (v := 8) hx hb dX7_ladder_2 (by decide +kernel) ?_
    refine k_ci (wc := []) (wr := [(p0, .inr (7, oM p2 i7 j7)), ((p2 49), .inl (cI, 22, .inl (fun _ => 0))), ((p2 50), .inl (cI, 22, .inl (fun _ => 0))), ((p2 72), .inl (cI, 9216, .inl (fun _ => 0))), ((p2 14), .inl (cI, 2, .inl (fun _ => 0))), ((p2 18), .inl (cI, 2, .inl (fun _ => 0)))]) (fun hPc hDc hFc => va_runS (As := [.int 2, .int 0, .int 8]) (rest := []) ⟨hx, hb, hml, hown, hts⟩ (c_X7_is_v8 l dC dI cI cJ cZ cM H.size) (va_cwS 3 hts gX7_ladder_X7_is rfl rfl rfl (by decide +kernel) ⟨(Nat.le_of_ble_eq_true rfl), (Nat.le_of_ble_eq_true rfl)⟩) (k_pS hPc hDc hK hN hC hS hFc) rfl rfl hl.1 rfl (lv_room (Nat.le_of_ble_eq_true rfl)) dX7_ladder_4 ⟨(Nat.le_of_ble_eq_true rfl), (Nat.le_of_ble_eq_true rfl)⟩) hP hD hS hA [] [0, 1, 2, 3, 4, 5] rfl rfl rfl rfl (by decide) (fun _ => rfl) 0 0 rfl rfl (fun r_10 u_11 H locs hw hP hD hS => ?_)
    obtain rfl : r_10 = 1 := hw
    have hP : va_P (dC, dI) vwCl [(p0, .inr (7, oM p2 i7 j7)), ((p2 49), .inl (cI, 22, .inl (fun _ => 0))), ((p2 50), .inl (cI, 22, .inl (fun _ => 0))), ((p2 72), .inl (cI, 9216, .inl (fun _ => 0))), ((p2 14), .inl (cI, 2, .inl (fun _ => 0))), ((p2 18), .inl (cI, 2, .inl (fun _ => 0)))] H := hP
    have hD : va_D A [(p0, .inr (7, oM p2 i7 j7)), ((p2 49), .inl (cI, 22, .inl (fun _ => 0))), ((p2 50), .inl (cI, 22, .inl (fun _ => 0))), ((p2 72), .inl (cI, 9216, .inl (fun _ => 0))), ((p2 14), .inl (cI, 2, .inl (fun _ => 0))), ((p2 18), .inl (cI, 2, .inl (fun _ => 0)))] := hD
    refine lv_if_ne (tgt := 12) hx hb dX7_ladder_7 (by decide) (fun _ => ?_) (fun q9 => absurd q9 (by decide +kernel))
    refine lv_aload_n hx hb dX7_ladder_12 rfl (lv_at hl 0 rfl) ?_
    refine k_cv (wc := [(p0, .inr (7, oM p2 i7 j7)), ((p2 49), .inl (cI, 22, .inl (fun _ => 0))), ((p2 50), .inl (cI, 22, .inl (fun _ => 0))), ((p2 72), .inl (cI, 9216, .inl (fun _ => 0))), ((p2 14), .inl (cI, 2, .inl (fun _ => 0))), ((p2 18), .inl (cI, 2, .inl (fun _ => 0)))]) (wr := []) (fun hPc hDc hFc => va_runV (As := []) (rest := []) ⟨hx, hb, hml, hown, hts⟩ (c_X7_climbs_v0 l dC dI cI cJ cZ cM p0 p2 H.size) (cwV 0 hts gX7_ladder_X7_climbs rfl rfl rfl (by decide +kernel) ⟨(Nat.le_of_ble_eq_true rfl), (Nat.le_of_ble_eq_true rfl)⟩) (k_pV hPc hDc hK hN hC hS hFc hP (q0 := 0) (ci := 7) rfl rfl) rfl rfl hl.1 rfl (lv_room (Nat.le_of_ble_eq_true rfl)) dX7_ladder_13 ⟨(Nat.le_of_ble_eq_true rfl), (Nat.le_of_ble_eq_true rfl)⟩) hP hD hS hA [0, 1, 2, 3, 4, 5] [] rfl rfl rfl rfl (by decide) (fun _ => rfl) 0 0 rfl rfl (fun u_13 H locs hw hP hD hS => ?_)
    have hP : va_P (dC, dI) vwCl [(p0, .inr (7, oM p2 i7 j7)), ((p2 49), .inl (cI, 22, .inl (fun _ => 0))), ((p2 50), .inl (cI, 22, .inl (fun _ => 0))), ((p2 72), .inl (cI, 9216, .inl (upd (fun _ => (-1)) 0 0))), ((p2 14), .inl (cI, 2, .inl (fun _ => 0))), ((p2 18), .inl (cI, 2, .inl (fun _ => 0)))] H := hP
    have hD : va_D A [(p0, .inr (7, oM p2 i7 j7)), ((p2 49), .inl (cI, 22, .inl (fun _ => 0))), ((p2 50), .inl (cI, 22, .inl (fun _ => 0))), ((p2 72), .inl (cI, 9216, .inl (upd (fun _ => (-1)) 0 0))), ((p2 14), .inl (cI, 2, .inl (fun _ => 0))), ((p2 18), .inl (cI, 2, .inl (fun _ => 0)))] := hD
    refine lv_iconst (v := 0) hx hb dX7_ladder_16 (by decide +kernel) ?_
    refine lv_istore_n (lv' := [(2, .int 0), (0, .ref p0), (1, .int 2)]) hx hb dX7_ladder_17 rfl hl (by decide) rfl (fun ls hl => ?_)
    refine lv_iconst (v := 0) hx hb dX7_ladder_18 (by decide +kernel) ?_
    refine lv_istore_n (lv' := [(3, .int 0), (2, .int 0), (0, .ref p0), (1, .int 2)]) hx hb dX7_ladder_19 rfl hl (by decide) rfl (fun ls hl => ?_)
    refine lv_iload_n hx hb dX7_ladder_20 rfl (lv_at hl 0 rfl) ?_
    refine lv_iconst (v := 1) hx hb dX7_ladder_21 (by decide +kernel) ?_
    refine lv_aload_n hx hb dX7_ladder_22 rfl (lv_at hl 2 rfl) ?_
    refine k_get (D := (dC, dI)) (ci := 7) (v := .ref (p2 14)) (C := RX7) (T := TX7) (N := 92) hx hb hts hinX7 hown hK hP 0 rfl rfl 14 (by decide) w_0 rfl rfl dX7_ladder_23 ?_
    refine lv_aload_n hx hb dX7_ladder_26 rfl (lv_at hl 2 rfl) ?_
    refine k_get (D := (dC, dI)) (ci := 7) (v := .int 0) (C := RX7) (T := TX7) (N := 92) hx hb hts hinX7 hown hK hP 0 rfl rfl 13 (by decide) w_1 rfl rfl dX7_ladder_27 ?_
    refine k_iald (v := 0) hx hb hK hP 4 0 0 rfl rfl rfl (Nat.le_of_ble_eq_true rfl) (Nat.le_of_ble_eq_true rfl) rfl dX7_ladder_30 ?_
    refine lv_ishl hx hb dX7_ladder_31 ?_
    refine k_int (v := 1) (by decide +kernel) ?_
    refine lv_icmp_ge (tgt := 65) hx hb dX7_ladder_32 (by decide) (fun q9 => absurd q9 (by decide +kernel)) (fun _ => ?_)
    refine lv_iload_n hx hb dX7_ladder_35 rfl (lv_at hl 1 rfl) ?_
    refine lv_aload_n hx hb dX7_ladder_36 rfl (lv_at hl 2 rfl) ?_
    refine k_get (D := (dC, dI)) (ci := 7) (v := .ref (p2 72)) (C := RX7) (T := TX7) (N := 92) hx hb hts hinX7 hown hK hP 0 rfl rfl 72 (by decide) w_2 rfl rfl dX7_ladder_37 ?_
    refine lv_sipush (v := 1024) hx hb dX7_ladder_40 (by decide +kernel) ?_
    refine lv_iload_n hx hb dX7_ladder_43 rfl (lv_at hl 3 rfl) ?_
    refine lv_imul hx hb dX7_ladder_44 ?_
    refine k_int (v := 2048) (by decide +kernel) ?_
    refine lv_iload_n hx hb dX7_ladder_45 rfl (lv_at hl 0 rfl) ?_
    refine lv_iadd hx hb dX7_ladder_46 ?_
    refine k_int (v := 2048) (by decide +kernel) ?_
    refine k_iald (v := (-1)) hx hb hK hP 3 0 2048 rfl rfl rfl (Nat.le_of_ble_eq_true rfl) (Nat.le_of_ble_eq_true rfl) rfl dX7_ladder_47 ?_
    refine lv_iconst (v := (-1)) hx hb dX7_ladder_48 (by decide +kernel) ?_
    refine lv_icmp_ne (tgt := 56) hx hb dX7_ladder_49 (by decide) (fun q9 => absurd q9 (by decide +kernel)) (fun _ => ?_)
    refine lv_iconst (v := 0) hx hb dX7_ladder_52 (by decide +kernel) ?_
    refine lv_goto (tgt := 57) hx hb dX7_ladder_53 (by decide) ?_
    refine lv_iadd hx hb dX7_ladder_57 ?_
    refine k_int (v := 0) (by decide +kernel) ?_
    refine lv_istore_n (lv' := [(2, .int 0), (3, .int 0), (0, .ref p0), (1, .int 2)]) hx hb dX7_ladder_58 rfl hl (by decide) rfl (fun ls hl => ?_)
    refine lv_iinc (v := 1) (lv' := [(3, .int 1), (2, .int 0), (0, .ref p0), (1, .int 2)]) hx hb dX7_ladder_59 hl (k := 1) rfl (by decide +kernel) (by decide) rfl (fun ls hl => ?_)
    refine lv_goto (tgt := 20) hx hb dX7_ladder_62 (by decide) ?_
    refine lv_iload_n hx hb dX7_ladder_20 rfl (lv_at hl 0 rfl) ?_
    refine lv_iconst (v := 1) hx hb dX7_ladder_21 (by decide +kernel) ?_
    refine lv_aload_n hx hb dX7_ladder_22 rfl (lv_at hl 2 rfl) ?_
    refine k_get (D := (dC, dI)) (ci := 7) (v := .ref (p2 14)) (C := RX7) (T := TX7) (N := 92) hx hb hts hinX7 hown hK hP 0 rfl rfl 14 (by decide) w_0 rfl rfl dX7_ladder_23 ?_
    refine lv_aload_n hx hb dX7_ladder_26 rfl (lv_at hl 2 rfl) ?_
    refine k_get (D := (dC, dI)) (ci := 7) (v := .int 0) (C := RX7) (T := TX7) (N := 92) hx hb hts hinX7 hown hK hP 0 rfl rfl 13 (by decide) w_1 rfl rfl dX7_ladder_27 ?_
    refine k_iald (v := 0) hx hb hK hP 4 0 0 rfl rfl rfl (Nat.le_of_ble_eq_true rfl) (Nat.le_of_ble_eq_true rfl) rfl dX7_ladder_30 ?_
    refine lv_ishl hx hb dX7_ladder_31 ?_
    refine k_int (v := 1) (by decide +kernel) ?_
    refine lv_icmp_ge (tgt := 65) hx hb dX7_ladder_32 (by decide) (fun _ => ?_) (fun q9 => absurd q9 (by decide +kernel))
    refine lv_iload_n hx hb dX7_ladder_65 rfl (lv_at hl 1 rfl) ?_
    exact k_ri B hP hD hS dX7_ladder_66 (2, (fun _ => 0)) [0, 1, 2, 3, 4, 5] rfl rfl rfl (Nat.le_of_ble_eq_true rfl) (Nat.le_of_ble_eq_true rfl) ⟨c_1, rfl⟩
  · obtain rfl : p1 = 3 := k_eqL (by decide +kernel) c_1
    refine lv_iload_n hx hb dX7_ladder_0 rfl (lv_at hl 1 rfl) ?_
    refine lv_iconst (v := 0) hx hb dX7_ladder_1 (by decide +kernel) ?_
    refine lv_bipush (v := 8) hx hb dX7_ladder_2 (by decide +kernel) ?_
    refine k_ci (wc := []) (wr := [(p0, .inr (7, oM p2 i7 j7)), ((p2 49), .inl (cI, 22, .inl (fun _ => 0))), ((p2 50), .inl (cI, 22, .inl (fun _ => 0))), ((p2 72), .inl (cI, 9216, .inl (fun _ => 0))), ((p2 14), .inl (cI, 2, .inl (fun _ => 0))), ((p2 18), .inl (cI, 2, .inl (fun _ => 0)))]) (fun hPc hDc hFc => va_runS (As := [.int 3, .int 0, .int 8]) (rest := []) ⟨hx, hb, hml, hown, hts⟩ (c_X7_is_v9 l dC dI cI cJ cZ cM H.size) (va_cwS 3 hts gX7_ladder_X7_is rfl rfl rfl (by decide +kernel) ⟨(Nat.le_of_ble_eq_true rfl), (Nat.le_of_ble_eq_true rfl)⟩) (k_pS hPc hDc hK hN hC hS hFc) rfl rfl hl.1 rfl (lv_room (Nat.le_of_ble_eq_true rfl)) dX7_ladder_4 ⟨(Nat.le_of_ble_eq_true rfl), (Nat.le_of_ble_eq_true rfl)⟩) hP hD hS hA [] [0, 1, 2, 3, 4, 5] rfl rfl rfl rfl (by decide) (fun _ => rfl) 0 0 rfl rfl (fun r_14 u_15 H locs hw hP hD hS => ?_)
    obtain rfl : r_14 = 1 := hw
    have hP : va_P (dC, dI) vwCl [(p0, .inr (7, oM p2 i7 j7)), ((p2 49), .inl (cI, 22, .inl (fun _ => 0))), ((p2 50), .inl (cI, 22, .inl (fun _ => 0))), ((p2 72), .inl (cI, 9216, .inl (fun _ => 0))), ((p2 14), .inl (cI, 2, .inl (fun _ => 0))), ((p2 18), .inl (cI, 2, .inl (fun _ => 0)))] H := hP
    have hD : va_D A [(p0, .inr (7, oM p2 i7 j7)), ((p2 49), .inl (cI, 22, .inl (fun _ => 0))), ((p2 50), .inl (cI, 22, .inl (fun _ => 0))), ((p2 72), .inl (cI, 9216, .inl (fun _ => 0))), ((p2 14), .inl (cI, 2, .inl (fun _ => 0))), ((p2 18), .inl (cI, 2, .inl (fun _ => 0)))] := hD
    refine lv_if_ne (tgt := 12) hx hb dX7_ladder_7 (by decide) (fun _ => ?_) (fun q9 => absurd q9 (by decide +kernel))
    refine lv_aload_n hx hb dX7_ladder_12 rfl (lv_at hl 0 rfl) ?_
    refine k_cv (wc := [(p0, .inr (7, oM p2 i7 j7)), ((p2 49), .inl (cI, 22, .inl (fun _ => 0))), ((p2 50), .inl (cI, 22, .inl (fun _ => 0))), ((p2 72), .inl (cI, 9216, .inl (fun _ => 0))), ((p2 14), .inl (cI, 2, .inl (fun _ => 0))), ((p2 18), .inl (cI, 2, .inl (fun _ => 0)))]) (wr := []) (fun hPc hDc hFc => va_runV (As := []) (rest := []) ⟨hx, hb, hml, hown, hts⟩ (c_X7_climbs_v0 l dC dI cI cJ cZ cM p0 p2 H.size) (cwV 0 hts gX7_ladder_X7_climbs rfl rfl rfl (by decide +kernel) ⟨(Nat.le_of_ble_eq_true rfl), (Nat.le_of_ble_eq_true rfl)⟩) (k_pV hPc hDc hK hN hC hS hFc hP (q0 := 0) (ci := 7) rfl rfl) rfl rfl hl.1 rfl (lv_room (Nat.le_of_ble_eq_true rfl)) dX7_ladder_13 ⟨(Nat.le_of_ble_eq_true rfl), (Nat.le_of_ble_eq_true rfl)⟩) hP hD hS hA [0, 1, 2, 3, 4, 5] [] rfl rfl rfl rfl (by decide) (fun _ => rfl) 0 0 rfl rfl (fun u_17 H locs hw hP hD hS => ?_)
    have hP : va_P (dC, dI) vwCl [(p0, .inr (7, oM p2 i7 j7)), ((p2 49), .inl (cI, 22, .inl (fun _ => 0))), ((p2 50), .inl (cI, 22, .inl (fun _ => 0))), ((p2 72), .inl (cI, 9216, .inl (upd (fun _ => (-1)) 0 0))), ((p2 14), .inl (cI, 2, .inl (fun _ => 0))), ((p2 18), .inl (cI, 2, .inl (fun _ => 0)))] H := hP
    have hD : va_D A [(p0, .inr (7, oM p2 i7 j7)), ((p2 49), .inl (cI, 22, .inl (fun _ => 0))), ((p2 50), .inl (cI, 22, .inl (fun _ => 0))), ((p2 72), .inl (cI, 9216, .inl (upd (fun _ => (-1)) 0 0))), ((p2 14), .inl (cI, 2, .inl (fun _ => 0))), ((p2 18), .inl (cI, 2, .inl (fun _ => 0)))] := hD
    refine lv_iconst (v := 0) hx hb dX7_ladder_16 (by decide +kernel) ?_
    refine lv_istore_n (lv' := [(2, .int 0), (0, .ref p0), (1, .int 3)]) hx hb dX7_ladder_17 rfl hl (by decide) rfl (fun ls hl => ?_)
    refine lv_iconst (v := 0) hx hb dX7_ladder_18 (by decide +kernel) ?_
    refine lv_istore_n (lv' := [(3, .int 0), (2, .int 0), (0, .ref p0), (1, .int 3)]) hx hb dX7_ladder_19 rfl hl (by decide) rfl (fun ls hl => ?_)
    refine lv_iload_n hx hb dX7_ladder_20 rfl (lv_at hl 0 rfl) ?_
    refine lv_iconst (v := 1) hx hb dX7_ladder_21 (by decide +kernel) ?_
    refine lv_aload_n hx hb dX7_ladder_22 rfl (lv_at hl 2 rfl) ?_
    refine k_get (D := (dC, dI)) (ci := 7) (v := .ref (p2 14)) (C := RX7) (T := TX7) (N := 92) hx hb hts hinX7 hown hK hP 0 rfl rfl 14 (by decide) w_0 rfl rfl dX7_ladder_23 ?_
    refine lv_aload_n hx hb dX7_ladder_26 rfl (lv_at hl 2 rfl) ?_
    refine k_get (D := (dC, dI)) (ci := 7) (v := .int 0) (C := RX7) (T := TX7) (N := 92) hx hb hts hinX7 hown hK hP 0 rfl rfl 13 (by decide) w_1 rfl rfl dX7_ladder_27 ?_
    refine k_iald (v := 0) hx hb hK hP 4 0 0 rfl rfl rfl (Nat.le_of_ble_eq_true rfl) (Nat.le_of_ble_eq_true rfl) rfl dX7_ladder_30 ?_
    refine lv_ishl hx hb dX7_ladder_31 ?_
    refine k_int (v := 1) (by decide +kernel) ?_
    refine lv_icmp_ge (tgt := 65) hx hb dX7_ladder_32 (by decide) (fun q9 => absurd q9 (by decide +kernel)) (fun _ => ?_)
    refine lv_iload_n hx hb dX7_ladder_35 rfl (lv_at hl 1 rfl) ?_
    refine lv_aload_n hx hb dX7_ladder_36 rfl (lv_at hl 2 rfl) ?_
    refine k_get (D := (dC, dI)) (ci := 7) (v := .ref (p2 72)) (C := RX7) (T := TX7) (N := 92) hx hb hts hinX7 hown hK hP 0 rfl rfl 72 (by decide) w_2 rfl rfl dX7_ladder_37 ?_
    refine lv_sipush (v := 1024) hx hb dX7_ladder_40 (by decide +kernel) ?_
    refine lv_iload_n hx hb dX7_ladder_43 rfl (lv_at hl 3 rfl) ?_
    refine lv_imul hx hb dX7_ladder_44 ?_
    refine k_int (v := 3072) (by decide +kernel) ?_
    refine lv_iload_n hx hb dX7_ladder_45 rfl (lv_at hl 0 rfl) ?_
    refine lv_iadd hx hb dX7_ladder_46 ?_
    refine k_int (v := 3072) (by decide +kernel) ?_
    refine k_iald (v := (-1)) hx hb hK hP 3 0 3072 rfl rfl rfl (Nat.le_of_ble_eq_true rfl) (Nat.le_of_ble_eq_true rfl) rfl dX7_ladder_47 ?_
    refine lv_iconst (v := (-1)) hx hb dX7_ladder_48 (by decide +kernel) ?_
    refine lv_icmp_ne (tgt := 56) hx hb dX7_ladder_49 (by decide) (fun q9 => absurd q9 (by decide +kernel)) (fun _ => ?_)
    refine lv_iconst (v := 0) hx hb dX7_ladder_52 (by decide +kernel) ?_
    refine lv_goto (tgt := 57) hx hb dX7_ladder_53 (by decide) ?_
    refine lv_iadd hx hb dX7_ladder_57 ?_
    refine k_int (v := 0) (by decide +kernel) ?_
    refine lv_istore_n (lv' := [(2, .int 0), (3, .int 0), (0, .ref p0), (1, .int 3)]) hx hb dX7_ladder_58 rfl hl (by decide) rfl (fun ls hl => ?_)
    refine lv_iinc (v := 1) (lv' := [(3, .int 1), (2, .int 0), (0, .ref p0), (1, .int 3)]) hx hb dX7_ladder_59 hl (k := 1) rfl (by decide +kernel) (by decide) rfl (fun ls hl => ?_)
    refine lv_goto (tgt := 20) hx hb dX7_ladder_62 (by decide) ?_
    refine lv_iload_n hx hb dX7_ladder_20 rfl (lv_at hl 0 rfl) ?_
    refine lv_iconst (v := 1) hx hb dX7_ladder_21 (by decide +kernel) ?_
    refine lv_aload_n hx hb dX7_ladder_22 rfl (lv_at hl 2 rfl) ?_
    refine k_get (D := (dC, dI)) (ci := 7) (v := .ref (p2 14)) (C := RX7) (T := TX7) (N := 92) hx hb hts hinX7 hown hK hP 0 rfl rfl 14 (by decide) w_0 rfl rfl dX7_ladder_23 ?_
    refine lv_aload_n hx hb dX7_ladder_26 rfl (lv_at hl 2 rfl) ?_
    refine k_get (D := (dC, dI)) (ci := 7) (v := .int 0) (C := RX7) (T := TX7) (N := 92) hx hb hts hinX7 hown hK hP 0 rfl rfl 13 (by decide) w_1 rfl rfl dX7_ladder_27 ?_
    refine k_iald (v := 0) hx hb hK hP 4 0 0 rfl rfl rfl (Nat.le_of_ble_eq_true rfl) (Nat.le_of_ble_eq_true rfl) rfl dX7_ladder_30 ?_
    refine lv_ishl hx hb dX7_ladder_31 ?_
    refine k_int (v := 1) (by decide +kernel) ?_
    refine lv_icmp_ge (tgt := 65) hx hb dX7_ladder_32 (by decide) (fun _ => ?_) (fun q9 => absurd q9 (by decide +kernel))
    refine lv_iload_n hx hb dX7_ladder_65 rfl (lv_at hl 1 rfl) ?_
    exact k_ri B hP hD hS dX7_ladder_66 (3, (fun _ => 0)) [0, 1, 2, 3, 4, 5] rfl rfl rfl (Nat.le_of_ble_eq_true rfl) (Nat.le_of_ble_eq_true rfl) ⟨c_1, rfl⟩
  · obtain rfl : p1 = 4 := k_eqL (by decide +kernel) c_1
    refine lv_iload_n hx hb dX7_ladder_0 rfl (lv_at hl 1 rfl) ?_
    refine lv_iconst (v := 0) hx hb dX7_ladder_1 (by decide +kernel) ?_
    refine lv_bipush (v := 8) hx hb dX7_ladder_2 (by decide +kernel) ?_
    refine k_ci (wc := []) (wr := [(p0, .inr (7, oM p2 i7 j7)), ((p2 49), .inl (cI, 22, .inl (fun _ => 0))), ((p2 50), .inl (cI, 22, .inl (fun _ => 0))), ((p2 72), .inl (cI, 9216, .inl (fun _ => 0))), ((p2 14), .inl (cI, 2, .inl (fun _ => 0))), ((p2 18), .inl (cI, 2, .inl (fun _ => 0)))]) (fun hPc hDc hFc => va_runS (As := [.int 4, .int 0, .int 8]) (rest := []) ⟨hx, hb, hml, hown, hts⟩ (c_X7_is_v10 l dC dI cI cJ cZ cM H.size) (va_cwS 3 hts gX7_ladder_X7_is rfl rfl rfl (by decide +kernel) ⟨(Nat.le_of_ble_eq_true rfl), (Nat.le_of_ble_eq_true rfl)⟩) (k_pS hPc hDc hK hN hC hS hFc) rfl rfl hl.1 rfl (lv_room (Nat.le_of_ble_eq_true rfl)) dX7_ladder_4 ⟨(Nat.le_of_ble_eq_true rfl), (Nat.le_of_ble_eq_true rfl)⟩) hP hD hS hA [] [0, 1, 2, 3, 4, 5] rfl rfl rfl rfl (by decide) (fun _ => rfl) 0 0 rfl rfl (fun r_18 u_19 H locs hw hP hD hS => ?_)
    obtain rfl : r_18 = 1 := hw
    have hP : va_P (dC, dI) vwCl [(p0, .inr (7, oM p2 i7 j7)), ((p2 49), .inl (cI, 22, .inl (fun _ => 0))), ((p2 50), .inl (cI, 22, .inl (fun _ => 0))), ((p2 72), .inl (cI, 9216, .inl (fun _ => 0))), ((p2 14), .inl (cI, 2, .inl (fun _ => 0))), ((p2 18), .inl (cI, 2, .inl (fun _ => 0)))] H := hP
    have hD : va_D A [(p0, .inr (7, oM p2 i7 j7)), ((p2 49), .inl (cI, 22, .inl (fun _ => 0))), ((p2 50), .inl (cI, 22, .inl (fun _ => 0))), ((p2 72), .inl (cI, 9216, .inl (fun _ => 0))), ((p2 14), .inl (cI, 2, .inl (fun _ => 0))), ((p2 18), .inl (cI, 2, .inl (fun _ => 0)))] := hD
    refine lv_if_ne (tgt := 12) hx hb dX7_ladder_7 (by decide) (fun _ => ?_) (fun q9 => absurd q9 (by decide +kernel))
    refine lv_aload_n hx hb dX7_ladder_12 rfl (lv_at hl 0 rfl) ?_
    refine k_cv (wc := [(p0, .inr (7, oM p2 i7 j7)), ((p2 49), .inl (cI, 22, .inl (fun _ => 0))), ((p2 50), .inl (cI, 22, .inl (fun _ => 0))), ((p2 72), .inl (cI, 9216, .inl (fun _ => 0))), ((p2 14), .inl (cI, 2, .inl (fun _ => 0))), ((p2 18), .inl (cI, 2, .inl (fun _ => 0)))]) (wr := []) (fun hPc hDc hFc => va_runV (As := []) (rest := []) ⟨hx, hb, hml, hown, hts⟩ (c_X7_climbs_v0 l dC dI cI cJ cZ cM p0 p2 H.size) (cwV 0 hts gX7_ladder_X7_climbs rfl rfl rfl (by decide +kernel) ⟨(Nat.le_of_ble_eq_true rfl), (Nat.le_of_ble_eq_true rfl)⟩) (k_pV hPc hDc hK hN hC hS hFc hP (q0 := 0) (ci := 7) rfl rfl) rfl rfl hl.1 rfl (lv_room (Nat.le_of_ble_eq_true rfl)) dX7_ladder_13 ⟨(Nat.le_of_ble_eq_true rfl), (Nat.le_of_ble_eq_true rfl)⟩) hP hD hS hA [0, 1, 2, 3, 4, 5] [] rfl rfl rfl rfl (by decide) (fun _ => rfl) 0 0 rfl rfl (fun u_21 H locs hw hP hD hS => ?_)
    have hP : va_P (dC, dI) vwCl [(p0, .inr (7, oM p2 i7 j7)), ((p2 49), .inl (cI, 22, .inl (fun _ => 0))), ((p2 50), .inl (cI, 22, .inl (fun _ => 0))), ((p2 72), .inl (cI, 9216, .inl (upd (fun _ => (-1)) 0 0))), ((p2 14), .inl (cI, 2, .inl (fun _ => 0))), ((p2 18), .inl (cI, 2, .inl (fun _ => 0)))] H := hP
    have hD : va_D A [(p0, .inr (7, oM p2 i7 j7)), ((p2 49), .inl (cI, 22, .inl (fun _ => 0))), ((p2 50), .inl (cI, 22, .inl (fun _ => 0))), ((p2 72), .inl (cI, 9216, .inl (upd (fun _ => (-1)) 0 0))), ((p2 14), .inl (cI, 2, .inl (fun _ => 0))), ((p2 18), .inl (cI, 2, .inl (fun _ => 0)))] := hD
    refine lv_iconst (v := 0) hx hb dX7_ladder_16 (by decide +kernel) ?_
    refine lv_istore_n (lv' := [(2, .int 0), (0, .ref p0), (1, .int 4)]) hx hb dX7_ladder_17 rfl hl (by decide) rfl (fun ls hl => ?_)
    refine lv_iconst (v := 0) hx hb dX7_ladder_18 (by decide +kernel) ?_
    refine lv_istore_n (lv' := [(3, .int 0), (2, .int 0), (0, .ref p0), (1, .int 4)]) hx hb dX7_ladder_19 rfl hl (by decide) rfl (fun ls hl => ?_)
    refine lv_iload_n hx hb dX7_ladder_20 rfl (lv_at hl 0 rfl) ?_
    refine lv_iconst (v := 1) hx hb dX7_ladder_21 (by decide +kernel) ?_
    refine lv_aload_n hx hb dX7_ladder_22 rfl (lv_at hl 2 rfl) ?_
    refine k_get (D := (dC, dI)) (ci := 7) (v := .ref (p2 14)) (C := RX7) (T := TX7) (N := 92) hx hb hts hinX7 hown hK hP 0 rfl rfl 14 (by decide) w_0 rfl rfl dX7_ladder_23 ?_
    refine lv_aload_n hx hb dX7_ladder_26 rfl (lv_at hl 2 rfl) ?_
    refine k_get (D := (dC, dI)) (ci := 7) (v := .int 0) (C := RX7) (T := TX7) (N := 92) hx hb hts hinX7 hown hK hP 0 rfl rfl 13 (by decide) w_1 rfl rfl dX7_ladder_27 ?_
    refine k_iald (v := 0) hx hb hK hP 4 0 0 rfl rfl rfl (Nat.le_of_ble_eq_true rfl) (Nat.le_of_ble_eq_true rfl) rfl dX7_ladder_30 ?_
    refine lv_ishl hx hb dX7_ladder_31 ?_
    refine k_int (v := 1) (by decide +kernel) ?_
    refine lv_icmp_ge (tgt := 65) hx hb dX7_ladder_32 (by decide) (fun q9 => absurd q9 (by decide +kernel)) (fun _ => ?_)
    refine lv_iload_n hx hb dX7_ladder_35 rfl (lv_at hl 1 rfl) ?_
    refine lv_aload_n hx hb dX7_ladder_36 rfl (lv_at hl 2 rfl) ?_
    refine k_get (D := (dC, dI)) (ci := 7) (v := .ref (p2 72)) (C := RX7) (T := TX7) (N := 92) hx hb hts hinX7 hown hK hP 0 rfl rfl 72 (by decide) w_2 rfl rfl dX7_ladder_37 ?_
    refine lv_sipush (v := 1024) hx hb dX7_ladder_40 (by decide +kernel) ?_
    refine lv_iload_n hx hb dX7_ladder_43 rfl (lv_at hl 3 rfl) ?_
    refine lv_imul hx hb dX7_ladder_44 ?_
    refine k_int (v := 4096) (by decide +kernel) ?_
    refine lv_iload_n hx hb dX7_ladder_45 rfl (lv_at hl 0 rfl) ?_
    refine lv_iadd hx hb dX7_ladder_46 ?_
    refine k_int (v := 4096) (by decide +kernel) ?_
    refine k_iald (v := (-1)) hx hb hK hP 3 0 4096 rfl rfl rfl (Nat.le_of_ble_eq_true rfl) (Nat.le_of_ble_eq_true rfl) rfl dX7_ladder_47 ?_
    refine lv_iconst (v := (-1)) hx hb dX7_ladder_48 (by decide +kernel) ?_
    refine lv_icmp_ne (tgt := 56) hx hb dX7_ladder_49 (by decide) (fun q9 => absurd q9 (by decide +kernel)) (fun _ => ?_)
    refine lv_iconst (v := 0) hx hb dX7_ladder_52 (by decide +kernel) ?_
    refine lv_goto (tgt := 57) hx hb dX7_ladder_53 (by decide) ?_
    refine lv_iadd hx hb dX7_ladder_57 ?_
    refine k_int (v := 0) (by decide +kernel) ?_
    refine lv_istore_n (lv' := [(2, .int 0), (3, .int 0), (0, .ref p0), (1, .int 4)]) hx hb dX7_ladder_58 rfl hl (by decide) rfl (fun ls hl => ?_)
    refine lv_iinc (v := 1) (lv' := [(3, .int 1), (2, .int 0), (0, .ref p0), (1, .int 4)]) hx hb dX7_ladder_59 hl (k := 1) rfl (by decide +kernel) (by decide) rfl (fun ls hl => ?_)
    refine lv_goto (tgt := 20) hx hb dX7_ladder_62 (by decide) ?_
    refine lv_iload_n hx hb dX7_ladder_20 rfl (lv_at hl 0 rfl) ?_
    refine lv_iconst (v := 1) hx hb dX7_ladder_21 (by decide +kernel) ?_
    refine lv_aload_n hx hb dX7_ladder_22 rfl (lv_at hl 2 rfl) ?_
    refine k_get (D := (dC, dI)) (ci := 7) (v := .ref (p2 14)) (C := RX7) (T := TX7) (N := 92) hx hb hts hinX7 hown hK hP 0 rfl rfl 14 (by decide) w_0 rfl rfl dX7_ladder_23 ?_
    refine lv_aload_n hx hb dX7_ladder_26 rfl (lv_at hl 2 rfl) ?_
    refine k_get (D := (dC, dI)) (ci := 7) (v := .int 0) (C := RX7) (T := TX7) (N := 92) hx hb hts hinX7 hown hK hP 0 rfl rfl 13 (by decide) w_1 rfl rfl dX7_ladder_27 ?_
    refine k_iald (v := 0) hx hb hK hP 4 0 0 rfl rfl rfl (Nat.le_of_ble_eq_true rfl) (Nat.le_of_ble_eq_true rfl) rfl dX7_ladder_30 ?_
    refine lv_ishl hx hb dX7_ladder_31 ?_
    refine k_int (v := 1) (by decide +kernel) ?_
    refine lv_icmp_ge (tgt := 65) hx hb dX7_ladder_32 (by decide) (fun _ => ?_) (fun q9 => absurd q9 (by decide +kernel))
    refine lv_iload_n hx hb dX7_ladder_65 rfl (lv_at hl 1 rfl) ?_
    exact k_ri B hP hD hS dX7_ladder_66 (4, (fun _ => 0)) [0, 1, 2, 3, 4, 5] rfl rfl rfl (Nat.le_of_ble_eq_true rfl) (Nat.le_of_ble_eq_true rfl) ⟨c_1, rfl⟩
  · obtain rfl : p1 = 5 := k_eqL (by decide +kernel) c_1
    refine lv_iload_n hx hb dX7_ladder_0 rfl (lv_at hl 1 rfl) ?_
    refine lv_iconst (v := 0) hx hb dX7_ladder_1 (by decide +kernel) ?_
    refine lv_bipush (v := 8) hx hb dX7_ladder_2 (by decide +kernel) ?_
    refine k_ci (wc := []) (wr := [(p0, .inr (7, oM p2 i7 j7)), ((p2 49), .inl (cI, 22, .inl (fun _ => 0))), ((p2 50), .inl (cI, 22, .inl (fun _ => 0))), ((p2 72), .inl (cI, 9216, .inl (fun _ => 0))), ((p2 14), .inl (cI, 2, .inl (fun _ => 0))), ((p2 18), .inl (cI, 2, .inl (fun _ => 0)))]) (fun hPc hDc hFc => va_runS (As := [.int 5, .int 0, .int 8]) (rest := []) ⟨hx, hb, hml, hown, hts⟩ (c_X7_is_v11 l dC dI cI cJ cZ cM H.size) (va_cwS 3 hts gX7_ladder_X7_is rfl rfl rfl (by decide +kernel) ⟨(Nat.le_of_ble_eq_true rfl), (Nat.le_of_ble_eq_true rfl)⟩) (k_pS hPc hDc hK hN hC hS hFc) rfl rfl hl.1 rfl (lv_room (Nat.le_of_ble_eq_true rfl)) dX7_ladder_4 ⟨(Nat.le_of_ble_eq_true rfl), (Nat.le_of_ble_eq_true rfl)⟩) hP hD hS hA [] [0, 1, 2, 3, 4, 5] rfl rfl rfl rfl (by decide) (fun _ => rfl) 0 0 rfl rfl (fun r_22 u_23 H locs hw hP hD hS => ?_)
    obtain rfl : r_22 = 1 := hw
    have hP : va_P (dC, dI) vwCl [(p0, .inr (7, oM p2 i7 j7)), ((p2 49), .inl (cI, 22, .inl (fun _ => 0))), ((p2 50), .inl (cI, 22, .inl (fun _ => 0))), ((p2 72), .inl (cI, 9216, .inl (fun _ => 0))), ((p2 14), .inl (cI, 2, .inl (fun _ => 0))), ((p2 18), .inl (cI, 2, .inl (fun _ => 0)))] H := hP
    have hD : va_D A [(p0, .inr (7, oM p2 i7 j7)), ((p2 49), .inl (cI, 22, .inl (fun _ => 0))), ((p2 50), .inl (cI, 22, .inl (fun _ => 0))), ((p2 72), .inl (cI, 9216, .inl (fun _ => 0))), ((p2 14), .inl (cI, 2, .inl (fun _ => 0))), ((p2 18), .inl (cI, 2, .inl (fun _ => 0)))] := hD
    refine lv_if_ne (tgt := 12) hx hb dX7_ladder_7 (by decide) (fun _ => ?_) (fun q9 => absurd q9 (by decide +kernel))
    refine lv_aload_n hx hb dX7_ladder_12 rfl (lv_at hl 0 rfl) ?_
    refine k_cv (wc := [(p0, .inr (7, oM p2 i7 j7)), ((p2 49), .inl (cI, 22, .inl (fun _ => 0))), ((p2 50), .inl (cI, 22, .inl (fun _ => 0))), ((p2 72), .inl (cI, 9216, .inl (fun _ => 0))), ((p2 14), .inl (cI, 2, .inl (fun _ => 0))), ((p2 18), .inl (cI, 2, .inl (fun _ => 0)))]) (wr := []) (fun hPc hDc hFc => va_runV (As := []) (rest := []) ⟨hx, hb, hml, hown, hts⟩ (c_X7_climbs_v0 l dC dI cI cJ cZ cM p0 p2 H.size) (cwV 0 hts gX7_ladder_X7_climbs rfl rfl rfl (by decide +kernel) ⟨(Nat.le_of_ble_eq_true rfl), (Nat.le_of_ble_eq_true rfl)⟩) (k_pV hPc hDc hK hN hC hS hFc hP (q0 := 0) (ci := 7) rfl rfl) rfl rfl hl.1 rfl (lv_room (Nat.le_of_ble_eq_true rfl)) dX7_ladder_13 ⟨(Nat.le_of_ble_eq_true rfl), (Nat.le_of_ble_eq_true rfl)⟩) hP hD hS hA [0, 1, 2, 3, 4, 5] [] rfl rfl rfl rfl (by decide) (fun _ => rfl) 0 0 rfl rfl (fun u_25 H locs hw hP hD hS => ?_)
    have hP : va_P (dC, dI) vwCl [(p0, .inr (7, oM p2 i7 j7)), ((p2 49), .inl (cI, 22, .inl (fun _ => 0))), ((p2 50), .inl (cI, 22, .inl (fun _ => 0))), ((p2 72), .inl (cI, 9216, .inl (upd (fun _ => (-1)) 0 0))), ((p2 14), .inl (cI, 2, .inl (fun _ => 0))), ((p2 18), .inl (cI, 2, .inl (fun _ => 0)))] H := hP
    have hD : va_D A [(p0, .inr (7, oM p2 i7 j7)), ((p2 49), .inl (cI, 22, .inl (fun _ => 0))), ((p2 50), .inl (cI, 22, .inl (fun _ => 0))), ((p2 72), .inl (cI, 9216, .inl (upd (fun _ => (-1)) 0 0))), ((p2 14), .inl (cI, 2, .inl (fun _ => 0))), ((p2 18), .inl (cI, 2, .inl (fun _ => 0)))] := hD
    refine lv_iconst (v := 0) hx hb dX7_ladder_16 (by decide +kernel) ?_
    refine lv_istore_n (lv' := [(2, .int 0), (0, .ref p0), (1, .int 5)]) hx hb dX7_ladder_17 rfl hl (by decide) rfl (fun ls hl => ?_)
    refine lv_iconst (v := 0) hx hb dX7_ladder_18 (by decide +kernel) ?_
    refine lv_istore_n (lv' := [(3, .int 0), (2, .int 0), (0, .ref p0), (1, .int 5)]) hx hb dX7_ladder_19 rfl hl (by decide) rfl (fun ls hl => ?_)
    refine lv_iload_n hx hb dX7_ladder_20 rfl (lv_at hl 0 rfl) ?_
    refine lv_iconst (v := 1) hx hb dX7_ladder_21 (by decide +kernel) ?_
    refine lv_aload_n hx hb dX7_ladder_22 rfl (lv_at hl 2 rfl) ?_
    refine k_get (D := (dC, dI)) (ci := 7) (v := .ref (p2 14)) (C := RX7) (T := TX7) (N := 92) hx hb hts hinX7 hown hK hP 0 rfl rfl 14 (by decide) w_0 rfl rfl dX7_ladder_23 ?_
    refine lv_aload_n hx hb dX7_ladder_26 rfl (lv_at hl 2 rfl) ?_
    refine k_get (D := (dC, dI)) (ci := 7) (v := .int 0) (C := RX7) (T := TX7) (N := 92) hx hb hts hinX7 hown hK hP 0 rfl rfl 13 (by decide) w_1 rfl rfl dX7_ladder_27 ?_
    refine k_iald (v := 0) hx hb hK hP 4 0 0 rfl rfl rfl (Nat.le_of_ble_eq_true rfl) (Nat.le_of_ble_eq_true rfl) rfl dX7_ladder_30 ?_
    refine lv_ishl hx hb dX7_ladder_31 ?_
    refine k_int (v := 1) (by decide +kernel) ?_
    refine lv_icmp_ge (tgt := 65) hx hb dX7_ladder_32 (by decide) (fun q9 => absurd q9 (by decide +kernel)) (fun _ => ?_)
    refine lv_iload_n hx hb dX7_ladder_35 rfl (lv_at hl 1 rfl) ?_
    refine lv_aload_n hx hb dX7_ladder_36 rfl (lv_at hl 2 rfl) ?_
    refine k_get (D := (dC, dI)) (ci := 7) (v := .ref (p2 72)) (C := RX7) (T := TX7) (N := 92) hx hb hts hinX7 hown hK hP 0 rfl rfl 72 (by decide) w_2 rfl rfl dX7_ladder_37 ?_
    refine lv_sipush (v := 1024) hx hb dX7_ladder_40 (by decide +kernel) ?_
    refine lv_iload_n hx hb dX7_ladder_43 rfl (lv_at hl 3 rfl) ?_
    refine lv_imul hx hb dX7_ladder_44 ?_
    refine k_int (v := 5120) (by decide +kernel) ?_
    refine lv_iload_n hx hb dX7_ladder_45 rfl (lv_at hl 0 rfl) ?_
    refine lv_iadd hx hb dX7_ladder_46 ?_
    refine k_int (v := 5120) (by decide +kernel) ?_
    refine k_iald (v := (-1)) hx hb hK hP 3 0 5120 rfl rfl rfl (Nat.le_of_ble_eq_true rfl) (Nat.le_of_ble_eq_true rfl) rfl dX7_ladder_47 ?_
    refine lv_iconst (v := (-1)) hx hb dX7_ladder_48 (by decide +kernel) ?_
    refine lv_icmp_ne (tgt := 56) hx hb dX7_ladder_49 (by decide) (fun q9 => absurd q9 (by decide +kernel)) (fun _ => ?_)
    refine lv_iconst (v := 0) hx hb dX7_ladder_52 (by decide +kernel) ?_
    refine lv_goto (tgt := 57) hx hb dX7_ladder_53 (by decide) ?_
    refine lv_iadd hx hb dX7_ladder_57 ?_
    refine k_int (v := 0) (by decide +kernel) ?_
    refine lv_istore_n (lv' := [(2, .int 0), (3, .int 0), (0, .ref p0), (1, .int 5)]) hx hb dX7_ladder_58 rfl hl (by decide) rfl (fun ls hl => ?_)
    refine lv_iinc (v := 1) (lv' := [(3, .int 1), (2, .int 0), (0, .ref p0), (1, .int 5)]) hx hb dX7_ladder_59 hl (k := 1) rfl (by decide +kernel) (by decide) rfl (fun ls hl => ?_)
    refine lv_goto (tgt := 20) hx hb dX7_ladder_62 (by decide) ?_
    refine lv_iload_n hx hb dX7_ladder_20 rfl (lv_at hl 0 rfl) ?_
    refine lv_iconst (v := 1) hx hb dX7_ladder_21 (by decide +kernel) ?_
    refine lv_aload_n hx hb dX7_ladder_22 rfl (lv_at hl 2 rfl) ?_
    refine k_get (D := (dC, dI)) (ci := 7) (v := .ref (p2 14)) (C := RX7) (T := TX7) (N := 92) hx hb hts hinX7 hown hK hP 0 rfl rfl 14 (by decide) w_0 rfl rfl dX7_ladder_23 ?_
    refine lv_aload_n hx hb dX7_ladder_26 rfl (lv_at hl 2 rfl) ?_
    refine k_get (D := (dC, dI)) (ci := 7) (v := .int 0) (C := RX7) (T := TX7) (N := 92) hx hb hts hinX7 hown hK hP 0 rfl rfl 13 (by decide) w_1 rfl rfl dX7_ladder_27 ?_
    refine k_iald (v := 0) hx hb hK hP 4 0 0 rfl rfl rfl (Nat.le_of_ble_eq_true rfl) (Nat.le_of_ble_eq_true rfl) rfl dX7_ladder_30 ?_
    refine lv_ishl hx hb dX7_ladder_31 ?_
    refine k_int (v := 1) (by decide +kernel) ?_
    refine lv_icmp_ge (tgt := 65) hx hb dX7_ladder_32 (by decide) (fun _ => ?_) (fun q9 => absurd q9 (by decide +kernel))
    refine lv_iload_n hx hb dX7_ladder_65 rfl (lv_at hl 1 rfl) ?_
    exact k_ri B hP hD hS dX7_ladder_66 (5, (fun _ => 0)) [0, 1, 2, 3, 4, 5] rfl rfl rfl (Nat.le_of_ble_eq_true rfl) (Nat.le_of_ble_eq_true rfl) ⟨c_1, rfl⟩
  · obtain rfl : p1 = 6 := k_eqL (by decide +kernel) c_1
    refine lv_iload_n hx hb dX7_ladder_0 rfl (lv_at hl 1 rfl) ?_
    refine lv_iconst (v := 0) hx hb dX7_ladder_1 (by decide +kernel) ?_
    refine lv_bipush (v := 8) hx hb dX7_ladder_2 (by decide +kernel) ?_
    refine k_ci (wc := []) (wr := [(p0, .inr (7, oM p2 i7 j7)), ((p2 49), .inl (cI, 22, .inl (fun _ => 0))), ((p2 50), .inl (cI, 22, .inl (fun _ => 0))), ((p2 72), .inl (cI, 9216, .inl (fun _ => 0))), ((p2 14), .inl (cI, 2, .inl (fun _ => 0))), ((p2 18), .inl (cI, 2, .inl (fun _ => 0)))]) (fun hPc hDc hFc => va_runS (As := [.int 6, .int 0, .int 8]) (rest := []) ⟨hx, hb, hml, hown, hts⟩ (c_X7_is_v12 l dC dI cI cJ cZ cM H.size) (va_cwS 3 hts gX7_ladder_X7_is rfl rfl rfl (by decide +kernel) ⟨(Nat.le_of_ble_eq_true rfl), (Nat.le_of_ble_eq_true rfl)⟩) (k_pS hPc hDc hK hN hC hS hFc) rfl rfl hl.1 rfl (lv_room (Nat.le_of_ble_eq_true rfl)) dX7_ladder_4 ⟨(Nat.le_of_ble_eq_true rfl), (Nat.le_of_ble_eq_true rfl)⟩) hP hD hS hA [] [0, 1, 2, 3, 4, 5] rfl rfl rfl rfl (by decide) (fun _ => rfl) 0 0 rfl rfl (fun r_26 u_27 H locs hw hP hD hS => ?_)
    obtain rfl : r_26 = 1 := hw
    have hP : va_P (dC, dI) vwCl [(p0, .inr (7, oM p2 i7 j7)), ((p2 49), .inl (cI, 22, .inl (fun _ => 0))), ((p2 50), .inl (cI, 22, .inl (fun _ => 0))), ((p2 72), .inl (cI, 9216, .inl (fun _ => 0))), ((p2 14), .inl (cI, 2, .inl (fun _ => 0))), ((p2 18), .inl (cI, 2, .inl (fun _ => 0)))] H := hP
    have hD : va_D A [(p0, .inr (7, oM p2 i7 j7)), ((p2 49), .inl (cI, 22, .inl (fun _ => 0))), ((p2 50), .inl (cI, 22, .inl (fun _ => 0))), ((p2 72), .inl (cI, 9216, .inl (fun _ => 0))), ((p2 14), .inl (cI, 2, .inl (fun _ => 0))), ((p2 18), .inl (cI, 2, .inl (fun _ => 0)))] := hD
    refine lv_if_ne (tgt := 12) hx hb dX7_ladder_7 (by decide) (fun _ => ?_) (fun q9 => absurd q9 (by decide +kernel))
    refine lv_aload_n hx hb dX7_ladder_12 rfl (lv_at hl 0 rfl) ?_
    refine k_cv (wc := [(p0, .inr (7, oM p2 i7 j7)), ((p2 49), .inl (cI, 22, .inl (fun _ => 0))), ((p2 50), .inl (cI, 22, .inl (fun _ => 0))), ((p2 72), .inl (cI, 9216, .inl (fun _ => 0))), ((p2 14), .inl (cI, 2, .inl (fun _ => 0))), ((p2 18), .inl (cI, 2, .inl (fun _ => 0)))]) (wr := []) (fun hPc hDc hFc => va_runV (As := []) (rest := []) ⟨hx, hb, hml, hown, hts⟩ (c_X7_climbs_v0 l dC dI cI cJ cZ cM p0 p2 H.size) (cwV 0 hts gX7_ladder_X7_climbs rfl rfl rfl (by decide +kernel) ⟨(Nat.le_of_ble_eq_true rfl), (Nat.le_of_ble_eq_true rfl)⟩) (k_pV hPc hDc hK hN hC hS hFc hP (q0 := 0) (ci := 7) rfl rfl) rfl rfl hl.1 rfl (lv_room (Nat.le_of_ble_eq_true rfl)) dX7_ladder_13 ⟨(Nat.le_of_ble_eq_true rfl), (Nat.le_of_ble_eq_true rfl)⟩) hP hD hS hA [0, 1, 2, 3, 4, 5] [] rfl rfl rfl rfl (by decide) (fun _ => rfl) 0 0 rfl rfl (fun u_29 H locs hw hP hD hS => ?_)
    have hP : va_P (dC, dI) vwCl [(p0, .inr (7, oM p2 i7 j7)), ((p2 49), .inl (cI, 22, .inl (fun _ => 0))), ((p2 50), .inl (cI, 22, .inl (fun _ => 0))), ((p2 72), .inl (cI, 9216, .inl (upd (fun _ => (-1)) 0 0))), ((p2 14), .inl (cI, 2, .inl (fun _ => 0))), ((p2 18), .inl (cI, 2, .inl (fun _ => 0)))] H := hP
    have hD : va_D A [(p0, .inr (7, oM p2 i7 j7)), ((p2 49), .inl (cI, 22, .inl (fun _ => 0))), ((p2 50), .inl (cI, 22, .inl (fun _ => 0))), ((p2 72), .inl (cI, 9216, .inl (upd (fun _ => (-1)) 0 0))), ((p2 14), .inl (cI, 2, .inl (fun _ => 0))), ((p2 18), .inl (cI, 2, .inl (fun _ => 0)))] := hD
    refine lv_iconst (v := 0) hx hb dX7_ladder_16 (by decide +kernel) ?_
    refine lv_istore_n (lv' := [(2, .int 0), (0, .ref p0), (1, .int 6)]) hx hb dX7_ladder_17 rfl hl (by decide) rfl (fun ls hl => ?_)
    refine lv_iconst (v := 0) hx hb dX7_ladder_18 (by decide +kernel) ?_
    refine lv_istore_n (lv' := [(3, .int 0), (2, .int 0), (0, .ref p0), (1, .int 6)]) hx hb dX7_ladder_19 rfl hl (by decide) rfl (fun ls hl => ?_)
    refine lv_iload_n hx hb dX7_ladder_20 rfl (lv_at hl 0 rfl) ?_
    refine lv_iconst (v := 1) hx hb dX7_ladder_21 (by decide +kernel) ?_
    refine lv_aload_n hx hb dX7_ladder_22 rfl (lv_at hl 2 rfl) ?_
    refine k_get (D := (dC, dI)) (ci := 7) (v := .ref (p2 14)) (C := RX7) (T := TX7) (N := 92) hx hb hts hinX7 hown hK hP 0 rfl rfl 14 (by decide) w_0 rfl rfl dX7_ladder_23 ?_
    refine lv_aload_n hx hb dX7_ladder_26 rfl (lv_at hl 2 rfl) ?_
    refine k_get (D := (dC, dI)) (ci := 7) (v := .int 0) (C := RX7) (T := TX7) (N := 92) hx hb hts hinX7 hown hK hP 0 rfl rfl 13 (by decide) w_1 rfl rfl dX7_ladder_27 ?_
    refine k_iald (v := 0) hx hb hK hP 4 0 0 rfl rfl rfl (Nat.le_of_ble_eq_true rfl) (Nat.le_of_ble_eq_true rfl) rfl dX7_ladder_30 ?_
    refine lv_ishl hx hb dX7_ladder_31 ?_
    refine k_int (v := 1) (by decide +kernel) ?_
    refine lv_icmp_ge (tgt := 65) hx hb dX7_ladder_32 (by decide) (fun q9 => absurd q9 (by decide +kernel)) (fun _ => ?_)
    refine lv_iload_n hx hb dX7_ladder_35 rfl (lv_at hl 1 rfl) ?_
    refine lv_aload_n hx hb dX7_ladder_36 rfl (lv_at hl 2 rfl) ?_
    refine k_get (D := (dC, dI)) (ci := 7) (v := .ref (p2 72)) (C := RX7) (T := TX7) (N := 92) hx hb hts hinX7 hown hK hP 0 rfl rfl 72 (by decide) w_2 rfl rfl dX7_ladder_37 ?_
    refine lv_sipush (v := 1024) hx hb dX7_ladder_40 (by decide +kernel) ?_
    refine lv_iload_n hx hb dX7_ladder_43 rfl (lv_at hl 3 rfl) ?_
    refine lv_imul hx hb dX7_ladder_44 ?_
    refine k_int (v := 6144) (by decide +kernel) ?_
    refine lv_iload_n hx hb dX7_ladder_45 rfl (lv_at hl 0 rfl) ?_
    refine lv_iadd hx hb dX7_ladder_46 ?_
    refine k_int (v := 6144) (by decide +kernel) ?_
    refine k_iald (v := (-1)) hx hb hK hP 3 0 6144 rfl rfl rfl (Nat.le_of_ble_eq_true rfl) (Nat.le_of_ble_eq_true rfl) rfl dX7_ladder_47 ?_
    refine lv_iconst (v := (-1)) hx hb dX7_ladder_48 (by decide +kernel) ?_
    refine lv_icmp_ne (tgt := 56) hx hb dX7_ladder_49 (by decide) (fun q9 => absurd q9 (by decide +kernel)) (fun _ => ?_)
    refine lv_iconst (v := 0) hx hb dX7_ladder_52 (by decide +kernel) ?_
    refine lv_goto (tgt := 57) hx hb dX7_ladder_53 (by decide) ?_
    refine lv_iadd hx hb dX7_ladder_57 ?_
    refine k_int (v := 0) (by decide +kernel) ?_
    refine lv_istore_n (lv' := [(2, .int 0), (3, .int 0), (0, .ref p0), (1, .int 6)]) hx hb dX7_ladder_58 rfl hl (by decide) rfl (fun ls hl => ?_)
    refine lv_iinc (v := 1) (lv' := [(3, .int 1), (2, .int 0), (0, .ref p0), (1, .int 6)]) hx hb dX7_ladder_59 hl (k := 1) rfl (by decide +kernel) (by decide) rfl (fun ls hl => ?_)
    refine lv_goto (tgt := 20) hx hb dX7_ladder_62 (by decide) ?_
    refine lv_iload_n hx hb dX7_ladder_20 rfl (lv_at hl 0 rfl) ?_
    refine lv_iconst (v := 1) hx hb dX7_ladder_21 (by decide +kernel) ?_
    refine lv_aload_n hx hb dX7_ladder_22 rfl (lv_at hl 2 rfl) ?_
    refine k_get (D := (dC, dI)) (ci := 7) (v := .ref (p2 14)) (C := RX7) (T := TX7) (N := 92) hx hb hts hinX7 hown hK hP 0 rfl rfl 14 (by decide) w_0 rfl rfl dX7_ladder_23 ?_
    refine lv_aload_n hx hb dX7_ladder_26 rfl (lv_at hl 2 rfl) ?_
    refine k_get (D := (dC, dI)) (ci := 7) (v := .int 0) (C := RX7) (T := TX7) (N := 92) hx hb hts hinX7 hown hK hP 0 rfl rfl 13 (by decide) w_1 rfl rfl dX7_ladder_27 ?_
    refine k_iald (v := 0) hx hb hK hP 4 0 0 rfl rfl rfl (Nat.le_of_ble_eq_true rfl) (Nat.le_of_ble_eq_true rfl) rfl dX7_ladder_30 ?_
    refine lv_ishl hx hb dX7_ladder_31 ?_
    refine k_int (v := 1) (by decide +kernel) ?_
    refine lv_icmp_ge (tgt := 65) hx hb dX7_ladder_32 (by decide) (fun _ => ?_) (fun q9 => absurd q9 (by decide +kernel))
    refine lv_iload_n hx hb dX7_ladder_65 rfl (lv_at hl 1 rfl) ?_
    exact k_ri B hP hD hS dX7_ladder_66 (6, (fun _ => 0)) [0, 1, 2, 3, 4, 5] rfl rfl rfl (Nat.le_of_ble_eq_true rfl) (Nat.le_of_ble_eq_true rfl) ⟨c_1, rfl⟩
  · obtain rfl : p1 = 7 := k_eqL (by decide +kernel) c_1
    refine lv_iload_n hx hb dX7_ladder_0 rfl (lv_at hl 1 rfl) ?_
    refine lv_iconst (v := 0) hx hb dX7_ladder_1 (by decide +kernel) ?_
    refine lv_bipush (v := 8) hx hb dX7_ladder_2 (by decide +kernel) ?_
    refine k_ci (wc := []) (wr := [(p0, .inr (7, oM p2 i7 j7)), ((p2 49), .inl (cI, 22, .inl (fun _ => 0))), ((p2 50), .inl (cI, 22, .inl (fun _ => 0))), ((p2 72), .inl (cI, 9216, .inl (fun _ => 0))), ((p2 14), .inl (cI, 2, .inl (fun _ => 0))), ((p2 18), .inl (cI, 2, .inl (fun _ => 0)))]) (fun hPc hDc hFc => va_runS (As := [.int 7, .int 0, .int 8]) (rest := []) ⟨hx, hb, hml, hown, hts⟩ (c_X7_is_v13 l dC dI cI cJ cZ cM H.size) (va_cwS 3 hts gX7_ladder_X7_is rfl rfl rfl (by decide +kernel) ⟨(Nat.le_of_ble_eq_true rfl), (Nat.le_of_ble_eq_true rfl)⟩) (k_pS hPc hDc hK hN hC hS hFc) rfl rfl hl.1 rfl (lv_room (Nat.le_of_ble_eq_true rfl)) dX7_ladder_4 ⟨(Nat.le_of_ble_eq_true rfl), (Nat.le_of_ble_eq_true rfl)⟩) hP hD hS hA [] [0, 1, 2, 3, 4, 5] rfl rfl rfl rfl (by decide) (fun _ => rfl) 0 0 rfl rfl (fun r_30 u_31 H locs hw hP hD hS => ?_)
    obtain rfl : r_30 = 1 := hw
    have hP : va_P (dC, dI) vwCl [(p0, .inr (7, oM p2 i7 j7)), ((p2 49), .inl (cI, 22, .inl (fun _ => 0))), ((p2 50), .inl (cI, 22, .inl (fun _ => 0))), ((p2 72), .inl (cI, 9216, .inl (fun _ => 0))), ((p2 14), .inl (cI, 2, .inl (fun _ => 0))), ((p2 18), .inl (cI, 2, .inl (fun _ => 0)))] H := hP
    have hD : va_D A [(p0, .inr (7, oM p2 i7 j7)), ((p2 49), .inl (cI, 22, .inl (fun _ => 0))), ((p2 50), .inl (cI, 22, .inl (fun _ => 0))), ((p2 72), .inl (cI, 9216, .inl (fun _ => 0))), ((p2 14), .inl (cI, 2, .inl (fun _ => 0))), ((p2 18), .inl (cI, 2, .inl (fun _ => 0)))] := hD
    refine lv_if_ne (tgt := 12) hx hb dX7_ladder_7 (by decide) (fun _ => ?_) (fun q9 => absurd q9 (by decide +kernel))
    refine lv_aload_n hx hb dX7_ladder_12 rfl (lv_at hl 0 rfl) ?_
    refine k_cv (wc := [(p0, .inr (7, oM p2 i7 j7)), ((p2 49), .inl (cI, 22, .inl (fun _ => 0))), ((p2 50), .inl (cI, 22, .inl (fun _ => 0))), ((p2 72), .inl (cI, 9216, .inl (fun _ => 0))), ((p2 14), .inl (cI, 2, .inl (fun _ => 0))), ((p2 18), .inl (cI, 2, .inl (fun _ => 0)))]) (wr := []) (fun hPc hDc hFc => va_runV (As := []) (rest := []) ⟨hx, hb, hml, hown, hts⟩ (c_X7_climbs_v0 l dC dI cI cJ cZ cM p0 p2 H.size) (cwV 0 hts gX7_ladder_X7_climbs rfl rfl rfl (by decide +kernel) ⟨(Nat.le_of_ble_eq_true rfl), (Nat.le_of_ble_eq_true rfl)⟩) (k_pV hPc hDc hK hN hC hS hFc hP (q0 := 0) (ci := 7) rfl rfl) rfl rfl hl.1 rfl (lv_room (Nat.le_of_ble_eq_true rfl)) dX7_ladder_13 ⟨(Nat.le_of_ble_eq_true rfl), (Nat.le_of_ble_eq_true rfl)⟩) hP hD hS hA [0, 1, 2, 3, 4, 5] [] rfl rfl rfl rfl (by decide) (fun _ => rfl) 0 0 rfl rfl (fun u_33 H locs hw hP hD hS => ?_)
    have hP : va_P (dC, dI) vwCl [(p0, .inr (7, oM p2 i7 j7)), ((p2 49), .inl (cI, 22, .inl (fun _ => 0))), ((p2 50), .inl (cI, 22, .inl (fun _ => 0))), ((p2 72), .inl (cI, 9216, .inl (upd (fun _ => (-1)) 0 0))), ((p2 14), .inl (cI, 2, .inl (fun _ => 0))), ((p2 18), .inl (cI, 2, .inl (fun _ => 0)))] H := hP
    have hD : va_D A [(p0, .inr (7, oM p2 i7 j7)), ((p2 49), .inl (cI, 22, .inl (fun _ => 0))), ((p2 50), .inl (cI, 22, .inl (fun _ => 0))), ((p2 72), .inl (cI, 9216, .inl (upd (fun _ => (-1)) 0 0))), ((p2 14), .inl (cI, 2, .inl (fun _ => 0))), ((p2 18), .inl (cI, 2, .inl (fun _ => 0)))] := hD
    refine lv_iconst (v := 0) hx hb dX7_ladder_16 (by decide +kernel) ?_
    refine lv_istore_n (lv' := [(2, .int 0), (0, .ref p0), (1, .int 7)]) hx hb dX7_ladder_17 rfl hl (by decide) rfl (fun ls hl => ?_)
    refine lv_iconst (v := 0) hx hb dX7_ladder_18 (by decide +kernel) ?_
    refine lv_istore_n (lv' := [(3, .int 0), (2, .int 0), (0, .ref p0), (1, .int 7)]) hx hb dX7_ladder_19 rfl hl (by decide) rfl (fun ls hl => ?_)
    refine lv_iload_n hx hb dX7_ladder_20 rfl (lv_at hl 0 rfl) ?_
    refine lv_iconst (v := 1) hx hb dX7_ladder_21 (by decide +kernel) ?_
    refine lv_aload_n hx hb dX7_ladder_22 rfl (lv_at hl 2 rfl) ?_
    refine k_get (D := (dC, dI)) (ci := 7) (v := .ref (p2 14)) (C := RX7) (T := TX7) (N := 92) hx hb hts hinX7 hown hK hP 0 rfl rfl 14 (by decide) w_0 rfl rfl dX7_ladder_23 ?_
    refine lv_aload_n hx hb dX7_ladder_26 rfl (lv_at hl 2 rfl) ?_
    refine k_get (D := (dC, dI)) (ci := 7) (v := .int 0) (C := RX7) (T := TX7) (N := 92) hx hb hts hinX7 hown hK hP 0 rfl rfl 13 (by decide) w_1 rfl rfl dX7_ladder_27 ?_
    refine k_iald (v := 0) hx hb hK hP 4 0 0 rfl rfl rfl (Nat.le_of_ble_eq_true rfl) (Nat.le_of_ble_eq_true rfl) rfl dX7_ladder_30 ?_
    refine lv_ishl hx hb dX7_ladder_31 ?_
    refine k_int (v := 1) (by decide +kernel) ?_
    refine lv_icmp_ge (tgt := 65) hx hb dX7_ladder_32 (by decide) (fun q9 => absurd q9 (by decide +kernel)) (fun _ => ?_)
    refine lv_iload_n hx hb dX7_ladder_35 rfl (lv_at hl 1 rfl) ?_
    refine lv_aload_n hx hb dX7_ladder_36 rfl (lv_at hl 2 rfl) ?_
    refine k_get (D := (dC, dI)) (ci := 7) (v := .ref (p2 72)) (C := RX7) (T := TX7) (N := 92) hx hb hts hinX7 hown hK hP 0 rfl rfl 72 (by decide) w_2 rfl rfl dX7_ladder_37 ?_
    refine lv_sipush (v := 1024) hx hb dX7_ladder_40 (by decide +kernel) ?_
    refine lv_iload_n hx hb dX7_ladder_43 rfl (lv_at hl 3 rfl) ?_
    refine lv_imul hx hb dX7_ladder_44 ?_
    refine k_int (v := 7168) (by decide +kernel) ?_
    refine lv_iload_n hx hb dX7_ladder_45 rfl (lv_at hl 0 rfl) ?_
    refine lv_iadd hx hb dX7_ladder_46 ?_
    refine k_int (v := 7168) (by decide +kernel) ?_
    refine k_iald (v := (-1)) hx hb hK hP 3 0 7168 rfl rfl rfl (Nat.le_of_ble_eq_true rfl) (Nat.le_of_ble_eq_true rfl) rfl dX7_ladder_47 ?_
    refine lv_iconst (v := (-1)) hx hb dX7_ladder_48 (by decide +kernel) ?_
    refine lv_icmp_ne (tgt := 56) hx hb dX7_ladder_49 (by decide) (fun q9 => absurd q9 (by decide +kernel)) (fun _ => ?_)
    refine lv_iconst (v := 0) hx hb dX7_ladder_52 (by decide +kernel) ?_
    refine lv_goto (tgt := 57) hx hb dX7_ladder_53 (by decide) ?_
    refine lv_iadd hx hb dX7_ladder_57 ?_
    refine k_int (v := 0) (by decide +kernel) ?_
    refine lv_istore_n (lv' := [(2, .int 0), (3, .int 0), (0, .ref p0), (1, .int 7)]) hx hb dX7_ladder_58 rfl hl (by decide) rfl (fun ls hl => ?_)
    refine lv_iinc (v := 1) (lv' := [(3, .int 1), (2, .int 0), (0, .ref p0), (1, .int 7)]) hx hb dX7_ladder_59 hl (k := 1) rfl (by decide +kernel) (by decide) rfl (fun ls hl => ?_)
    refine lv_goto (tgt := 20) hx hb dX7_ladder_62 (by decide) ?_
    refine lv_iload_n hx hb dX7_ladder_20 rfl (lv_at hl 0 rfl) ?_
    refine lv_iconst (v := 1) hx hb dX7_ladder_21 (by decide +kernel) ?_
    refine lv_aload_n hx hb dX7_ladder_22 rfl (lv_at hl 2 rfl) ?_
    refine k_get (D := (dC, dI)) (ci := 7) (v := .ref (p2 14)) (C := RX7) (T := TX7) (N := 92) hx hb hts hinX7 hown hK hP 0 rfl rfl 14 (by decide) w_0 rfl rfl dX7_ladder_23 ?_
    refine lv_aload_n hx hb dX7_ladder_26 rfl (lv_at hl 2 rfl) ?_
    refine k_get (D := (dC, dI)) (ci := 7) (v := .int 0) (C := RX7) (T := TX7) (N := 92) hx hb hts hinX7 hown hK hP 0 rfl rfl 13 (by decide) w_1 rfl rfl dX7_ladder_27 ?_
    refine k_iald (v := 0) hx hb hK hP 4 0 0 rfl rfl rfl (Nat.le_of_ble_eq_true rfl) (Nat.le_of_ble_eq_true rfl) rfl dX7_ladder_30 ?_
    refine lv_ishl hx hb dX7_ladder_31 ?_
    refine k_int (v := 1) (by decide +kernel) ?_
    refine lv_icmp_ge (tgt := 65) hx hb dX7_ladder_32 (by decide) (fun _ => ?_) (fun q9 => absurd q9 (by decide +kernel))
    refine lv_iload_n hx hb dX7_ladder_65 rfl (lv_at hl 1 rfl) ?_
    exact k_ri B hP hD hS dX7_ladder_66 (7, (fun _ => 0)) [0, 1, 2, 3, 4, 5] rfl rfl rfl (Nat.le_of_ble_eq_true rfl) (Nat.le_of_ble_eq_true rfl) ⟨c_1, rfl⟩
  · obtain rfl : p1 = 8 := k_eqL (by decide +kernel) c_1
    refine lv_iload_n hx hb dX7_ladder_0 rfl (lv_at hl 1 rfl) ?_
    refine lv_iconst (v := 0) hx hb dX7_ladder_1 (by decide +kernel) ?_
    refine lv_bipush (v := 8) hx hb dX7_ladder_2 (by decide +kernel) ?_
    refine k_ci (wc := []) (wr := [(p0, .inr (7, oM p2 i7 j7)), ((p2 49), .inl (cI, 22, .inl (fun _ => 0))), ((p2 50), .inl (cI, 22, .inl (fun _ => 0))), ((p2 72), .inl (cI, 9216, .inl (fun _ => 0))), ((p2 14), .inl (cI, 2, .inl (fun _ => 0))), ((p2 18), .inl (cI, 2, .inl (fun _ => 0)))]) (fun hPc hDc hFc => va_runS (As := [.int 8, .int 0, .int 8]) (rest := []) ⟨hx, hb, hml, hown, hts⟩ (c_X7_is_v14 l dC dI cI cJ cZ cM H.size) (va_cwS 3 hts gX7_ladder_X7_is rfl rfl rfl (by decide +kernel) ⟨(Nat.le_of_ble_eq_true rfl), (Nat.le_of_ble_eq_true rfl)⟩) (k_pS hPc hDc hK hN hC hS hFc) rfl rfl hl.1 rfl (lv_room (Nat.le_of_ble_eq_true rfl)) dX7_ladder_4 ⟨(Nat.le_of_ble_eq_true rfl), (Nat.le_of_ble_eq_true rfl)⟩) hP hD hS hA [] [0, 1, 2, 3, 4, 5] rfl rfl rfl rfl (by decide) (fun _ => rfl) 0 0 rfl rfl (fun r_34 u_35 H locs hw hP hD hS => ?_)
    obtain rfl : r_34 = 1 := hw
    have hP : va_P (dC, dI) vwCl [(p0, .inr (7, oM p2 i7 j7)), ((p2 49), .inl (cI, 22, .inl (fun _ => 0))), ((p2 50), .inl (cI, 22, .inl (fun _ => 0))), ((p2 72), .inl (cI, 9216, .inl (fun _ => 0))), ((p2 14), .inl (cI, 2, .inl (fun _ => 0))), ((p2 18), .inl (cI, 2, .inl (fun _ => 0)))] H := hP
    have hD : va_D A [(p0, .inr (7, oM p2 i7 j7)), ((p2 49), .inl (cI, 22, .inl (fun _ => 0))), ((p2 50), .inl (cI, 22, .inl (fun _ => 0))), ((p2 72), .inl (cI, 9216, .inl (fun _ => 0))), ((p2 14), .inl (cI, 2, .inl (fun _ => 0))), ((p2 18), .inl (cI, 2, .inl (fun _ => 0)))] := hD
    refine lv_if_ne (tgt := 12) hx hb dX7_ladder_7 (by decide) (fun _ => ?_) (fun q9 => absurd q9 (by decide +kernel))
    refine lv_aload_n hx hb dX7_ladder_12 rfl (lv_at hl 0 rfl) ?_
    refine k_cv (wc := [(p0, .inr (7, oM p2 i7 j7)), ((p2 49), .inl (cI, 22, .inl (fun _ => 0))), ((p2 50), .inl (cI, 22, .inl (fun _ => 0))), ((p2 72), .inl (cI, 9216, .inl (fun _ => 0))), ((p2 14), .inl (cI, 2, .inl (fun _ => 0))), ((p2 18), .inl (cI, 2, .inl (fun _ => 0)))]) (wr := []) (fun hPc hDc hFc => va_runV (As := []) (rest := []) ⟨hx, hb, hml, hown, hts⟩ (c_X7_climbs_v0 l dC dI cI cJ cZ cM p0 p2 H.size) (cwV 0 hts gX7_ladder_X7_climbs rfl rfl rfl (by decide +kernel) ⟨(Nat.le_of_ble_eq_true rfl), (Nat.le_of_ble_eq_true rfl)⟩) (k_pV hPc hDc hK hN hC hS hFc hP (q0 := 0) (ci := 7) rfl rfl) rfl rfl hl.1 rfl (lv_room (Nat.le_of_ble_eq_true rfl)) dX7_ladder_13 ⟨(Nat.le_of_ble_eq_true rfl), (Nat.le_of_ble_eq_true rfl)⟩) hP hD hS hA [0, 1, 2, 3, 4, 5] [] rfl rfl rfl rfl (by decide) (fun _ => rfl) 0 0 rfl rfl (fun u_37 H locs hw hP hD hS => ?_)
    have hP : va_P (dC, dI) vwCl [(p0, .inr (7, oM p2 i7 j7)), ((p2 49), .inl (cI, 22, .inl (fun _ => 0))), ((p2 50), .inl (cI, 22, .inl (fun _ => 0))), ((p2 72), .inl (cI, 9216, .inl (upd (fun _ => (-1)) 0 0))), ((p2 14), .inl (cI, 2, .inl (fun _ => 0))), ((p2 18), .inl (cI, 2, .inl (fun _ => 0)))] H := hP
    have hD : va_D A [(p0, .inr (7, oM p2 i7 j7)), ((p2 49), .inl (cI, 22, .inl (fun _ => 0))), ((p2 50), .inl (cI, 22, .inl (fun _ => 0))), ((p2 72), .inl (cI, 9216, .inl (upd (fun _ => (-1)) 0 0))), ((p2 14), .inl (cI, 2, .inl (fun _ => 0))), ((p2 18), .inl (cI, 2, .inl (fun _ => 0)))] := hD
    refine lv_iconst (v := 0) hx hb dX7_ladder_16 (by decide +kernel) ?_
    refine lv_istore_n (lv' := [(2, .int 0), (0, .ref p0), (1, .int 8)]) hx hb dX7_ladder_17 rfl hl (by decide) rfl (fun ls hl => ?_)
    refine lv_iconst (v := 0) hx hb dX7_ladder_18 (by decide +kernel) ?_
    refine lv_istore_n (lv' := [(3, .int 0), (2, .int 0), (0, .ref p0), (1, .int 8)]) hx hb dX7_ladder_19 rfl hl (by decide) rfl (fun ls hl => ?_)
    refine lv_iload_n hx hb dX7_ladder_20 rfl (lv_at hl 0 rfl) ?_
    refine lv_iconst (v := 1) hx hb dX7_ladder_21 (by decide +kernel) ?_
    refine lv_aload_n hx hb dX7_ladder_22 rfl (lv_at hl 2 rfl) ?_
    refine k_get (D := (dC, dI)) (ci := 7) (v := .ref (p2 14)) (C := RX7) (T := TX7) (N := 92) hx hb hts hinX7 hown hK hP 0 rfl rfl 14 (by decide) w_0 rfl rfl dX7_ladder_23 ?_
    refine lv_aload_n hx hb dX7_ladder_26 rfl (lv_at hl 2 rfl) ?_
    refine k_get (D := (dC, dI)) (ci := 7) (v := .int 0) (C := RX7) (T := TX7) (N := 92) hx hb hts hinX7 hown hK hP 0 rfl rfl 13 (by decide) w_1 rfl rfl dX7_ladder_27 ?_
    refine k_iald (v := 0) hx hb hK hP 4 0 0 rfl rfl rfl (Nat.le_of_ble_eq_true rfl) (Nat.le_of_ble_eq_true rfl) rfl dX7_ladder_30 ?_
    refine lv_ishl hx hb dX7_ladder_31 ?_
    refine k_int (v := 1) (by decide +kernel) ?_
    refine lv_icmp_ge (tgt := 65) hx hb dX7_ladder_32 (by decide) (fun q9 => absurd q9 (by decide +kernel)) (fun _ => ?_)
    refine lv_iload_n hx hb dX7_ladder_35 rfl (lv_at hl 1 rfl) ?_
    refine lv_aload_n hx hb dX7_ladder_36 rfl (lv_at hl 2 rfl) ?_
    refine k_get (D := (dC, dI)) (ci := 7) (v := .ref (p2 72)) (C := RX7) (T := TX7) (N := 92) hx hb hts hinX7 hown hK hP 0 rfl rfl 72 (by decide) w_2 rfl rfl dX7_ladder_37 ?_
    refine lv_sipush (v := 1024) hx hb dX7_ladder_40 (by decide +kernel) ?_
    refine lv_iload_n hx hb dX7_ladder_43 rfl (lv_at hl 3 rfl) ?_
    refine lv_imul hx hb dX7_ladder_44 ?_
    refine k_int (v := 8192) (by decide +kernel) ?_
    refine lv_iload_n hx hb dX7_ladder_45 rfl (lv_at hl 0 rfl) ?_
    refine lv_iadd hx hb dX7_ladder_46 ?_
    refine k_int (v := 8192) (by decide +kernel) ?_
    refine k_iald (v := (-1)) hx hb hK hP 3 0 8192 rfl rfl rfl (Nat.le_of_ble_eq_true rfl) (Nat.le_of_ble_eq_true rfl) rfl dX7_ladder_47 ?_
    refine lv_iconst (v := (-1)) hx hb dX7_ladder_48 (by decide +kernel) ?_
    refine lv_icmp_ne (tgt := 56) hx hb dX7_ladder_49 (by decide) (fun q9 => absurd q9 (by decide +kernel)) (fun _ => ?_)
    refine lv_iconst (v := 0) hx hb dX7_ladder_52 (by decide +kernel) ?_
    refine lv_goto (tgt := 57) hx hb dX7_ladder_53 (by decide) ?_
    refine lv_iadd hx hb dX7_ladder_57 ?_
    refine k_int (v := 0) (by decide +kernel) ?_
    refine lv_istore_n (lv' := [(2, .int 0), (3, .int 0), (0, .ref p0), (1, .int 8)]) hx hb dX7_ladder_58 rfl hl (by decide) rfl (fun ls hl => ?_)
    refine lv_iinc (v := 1) (lv' := [(3, .int 1), (2, .int 0), (0, .ref p0), (1, .int 8)]) hx hb dX7_ladder_59 hl (k := 1) rfl (by decide +kernel) (by decide) rfl (fun ls hl => ?_)
    refine lv_goto (tgt := 20) hx hb dX7_ladder_62 (by decide) ?_
    refine lv_iload_n hx hb dX7_ladder_20 rfl (lv_at hl 0 rfl) ?_
    refine lv_iconst (v := 1) hx hb dX7_ladder_21 (by decide +kernel) ?_
    refine lv_aload_n hx hb dX7_ladder_22 rfl (lv_at hl 2 rfl) ?_
    refine k_get (D := (dC, dI)) (ci := 7) (v := .ref (p2 14)) (C := RX7) (T := TX7) (N := 92) hx hb hts hinX7 hown hK hP 0 rfl rfl 14 (by decide) w_0 rfl rfl dX7_ladder_23 ?_
    refine lv_aload_n hx hb dX7_ladder_26 rfl (lv_at hl 2 rfl) ?_
    refine k_get (D := (dC, dI)) (ci := 7) (v := .int 0) (C := RX7) (T := TX7) (N := 92) hx hb hts hinX7 hown hK hP 0 rfl rfl 13 (by decide) w_1 rfl rfl dX7_ladder_27 ?_
    refine k_iald (v := 0) hx hb hK hP 4 0 0 rfl rfl rfl (Nat.le_of_ble_eq_true rfl) (Nat.le_of_ble_eq_true rfl) rfl dX7_ladder_30 ?_
    refine lv_ishl hx hb dX7_ladder_31 ?_
    refine k_int (v := 1) (by decide +kernel) ?_
    refine lv_icmp_ge (tgt := 65) hx hb dX7_ladder_32 (by decide) (fun _ => ?_) (fun q9 => absurd q9 (by decide +kernel))
    refine lv_iload_n hx hb dX7_ladder_65 rfl (lv_at hl 1 rfl) ?_
    exact k_ri B hP hD hS dX7_ladder_66 (8, (fun _ => 0)) [0, 1, 2, 3, 4, 5] rfl rfl rfl (Nat.le_of_ble_eq_true rfl) (Nat.le_of_ble_eq_true rfl) ⟨c_1, rfl⟩
