set_option maxHeartbeats 4000000 in
set_option maxRecDepth 100000 in
theorem c_X6_most_v0 (l : Launch) (dC : Nat → ClassId) (dI : Nat → Nat → Nat) (cI cJ cZ cM : ClassId) (p0 : Nat) (p1 : Int32) (p2 : Int32) (p3 : Nat → Nat)   : k_Mi l yX6_most wsX6_most ({ frames := 6, cells := 4, slots := 9230, locals := 154 }) (dC, dI) vwCl (tyy cI cJ cZ cM) [(p0, .inr (6, [.ref (p3 0), .int 0, .ref (p3 1), .ref (p3 14), .ref (p3 27), .ref (p3 28), .ref (p3 29), .ref (p3 30), .ref (p3 54), .null, .int 1, .int 1, .int 999, .ref (p3 61), .ref (p3 62), .ref (p3 63), .ref (p3 60)])), ((p3 28), .inr (0, [.int 0, .int 0, .int 0, .int 0])), ((p3 1), .inr (5, [.ref (p3 2), .ref (p3 3), .ref (p3 4), .ref (p3 5), .ref (p3 6), .ref (p3 7), .ref (p3 8), .ref (p3 9), .ref (p3 10), .ref (p3 11), .ref (p3 12), .ref (p3 13), .int 0, .int 0, .int 0, .int 0, .int 0, .int 100, .int 0, .int 0])), ((p3 12), .inl (cI, 3, .inl (fun _ => 0))), ((p3 11), .inl (cI, 3, .inl (fun _ => 0)))] [.ref p0, .int p1, .int p2] 4 9230 (fun (u9 : (Nat × (Nat → Nat))) => match u9.1 with | 0 => [(p0, .inr (6, [.ref (p3 0), .int 0, .ref (p3 1), .ref (p3 14), .ref (p3 27), .ref (p3 28), .ref (p3 29), .ref (p3 30), .ref (p3 54), .null, .int 1, .int 1, .int 999, .ref (p3 61), .ref (p3 62), .ref (p3 63), .ref (p3 60)])), ((p3 28), .inr (0, [.int 0, .int 0, .int 0, .int 0])), ((p3 1), .inr (5, [.ref (p3 2), .ref (p3 3), .ref (p3 4), .ref (p3 5), .ref (p3 6), .ref (p3 7), .ref (p3 8), .ref (p3 9), .ref (p3 10), .ref (p3 11), .ref (p3 12), .ref (p3 13), .int 0, .int 0, .int 0, .int 0, .int 0, .int 100, .int 0, .int 0])), ((p3 12), .inl (cI, 3, .inl (fun _ => 0))), ((p3 11), .inl (cI, 3, .inl (fun _ => 0)))] | 1 => [(p0, .inr (6, [.ref (p3 0), .int 0, .ref (p3 1), .ref (p3 14), .ref (p3 27), .ref (p3 28), .ref (p3 29), .ref (p3 30), .ref (p3 54), .ref (u9.2 3), .int 1, .int 1, .int 999, .ref (p3 61), .ref (p3 62), .ref (p3 63), .ref (p3 60)])), ((p3 28), .inr (0, [.int 0, .int 0, .int 0, .int 0])), ((p3 1), .inr (5, [.ref (p3 2), .ref (p3 3), .ref (p3 4), .ref (p3 5), .ref (p3 6), .ref (p3 7), .ref (p3 8), .ref (p3 9), .ref (p3 10), .ref (p3 11), .ref (p3 12), .ref (p3 13), .int 0, .int 0, .int 0, .int 0, .int 0, .int 100, .int 0, .int 0])), ((p3 12), .inl (cI, 3, .inl (fun _ => 0))), ((p3 11), .inl (cI, 3, .inl (fun _ => 0))), ((u9.2 0), .inr (0, [.int 0, .int 0, .int 0, .int 0])), ((u9.2 1), .inr (0, [.int 0, .int 0, .int 0, .int 0])), ((u9.2 2), .inl (cI, 9216, .inl (upd (fun k => if 0 ≤ k ∧ k < 9 then 2147483647 else 0) 0 0))), ((u9.2 3), .inr (4, [.ref (u9.2 2), .ref (u9.2 0), .ref (u9.2 1), .ref (p3 1), .int 1, .int 1]))] | 2 => [(p0, .inr (6, [.ref (p3 0), .int 0, .ref (p3 1), .ref (p3 14), .ref (p3 27), .ref (p3 28), .ref (p3 29), .ref (p3 30), .ref (p3 54), .ref (u9.2 3), .int 1, .int 1, .int 999, .ref (p3 61), .ref (p3 62), .ref (p3 63), .ref (p3 60)])), ((p3 28), .inr (0, [.int 0, .int 0, .int 0, .int 0])), ((p3 1), .inr (5, [.ref (p3 2), .ref (p3 3), .ref (p3 4), .ref (p3 5), .ref (p3 6), .ref (p3 7), .ref (p3 8), .ref (p3 9), .ref (p3 10), .ref (p3 11), .ref (p3 12), .ref (p3 13), .int 0, .int 0, .int 0, .int 0, .int 0, .int 100, .int 0, .int 0])), ((p3 12), .inl (cI, 3, .inl (fun _ => 0))), ((p3 11), .inl (cI, 3, .inl (fun _ => 0))), ((u9.2 0), .inr (0, [.int 0, .int 0, .int 0, .int 0])), ((u9.2 1), .inr (0, [.int 0, .int 0, .int 0, .int 0])), ((u9.2 2), .inl (cI, 9216, .inl (upd (fun k => if 0 ≤ k ∧ k < 9 then 2147483647 else 0) 0 0))), ((u9.2 3), .inr (4, [.ref (u9.2 2), .ref (u9.2 0), .ref (u9.2 1), .ref (p3 1), .int 1, .int 1]))] | 3 => [(p0, .inr (6, [.ref (p3 0), .int 0, .ref (p3 1), .ref (p3 14), .ref (p3 27), .ref (p3 28), .ref (p3 29), .ref (p3 30), .ref (p3 54), .ref (u9.2 2), .int 1, .int 1, .int 999, .ref (p3 61), .ref (p3 62), .ref (p3 63), .ref (p3 60)])), ((p3 28), .inr (0, [.int 0, .int 0, .int 0, .int 0])), ((p3 1), .inr (5, [.ref (p3 2), .ref (p3 3), .ref (p3 4), .ref (p3 5), .ref (p3 6), .ref (p3 7), .ref (p3 8), .ref (p3 9), .ref (p3 10), .ref (p3 11), .ref (p3 12), .ref (p3 13), .int 0, .int 0, .int 0, .int 0, .int 0, .int 100, .int 0, .int 0])), ((p3 12), .inl (cI, 3, .inl (fun _ => 0))), ((p3 11), .inl (cI, 3, .inl (fun _ => 0))), ((u9.2 0), .inr (0, [.int 0, .int 0, .int 0, .int 0])), ((u9.2 1), .inr (0, [.int 0, .int 0, .int 0, .int 0])), ((u9.2 2), .inr (4, [.ref (u9.2 3), .ref (u9.2 0), .ref (u9.2 1), .ref (p3 1), .int 1, .int 1])), ((u9.2 3), .inl (cI, 9216, .inl (upd (fun k => if 0 ≤ k ∧ k < 9 then 2147483647 else 0) 0 0)))] | 4 => [(p0, .inr (6, [.ref (p3 0), .int 0, .ref (p3 1), .ref (p3 14), .ref (p3 27), .ref (p3 28), .ref (p3 29), .ref (p3 30), .ref (p3 54), .ref (u9.2 3), .int 1, .int 1, .int 999, .ref (p3 61), .ref (p3 62), .ref (p3 63), .ref (p3 60)])), ((p3 28), .inr (0, [.int 0, .int 0, .int 0, .int 0])), ((p3 1), .inr (5, [.ref (p3 2), .ref (p3 3), .ref (p3 4), .ref (p3 5), .ref (p3 6), .ref (p3 7), .ref (p3 8), .ref (p3 9), .ref (p3 10), .ref (p3 11), .ref (p3 12), .ref (p3 13), .int 0, .int 0, .int 0, .int 0, .int 0, .int 100, .int 0, .int 0])), ((p3 12), .inl (cI, 3, .inl (fun _ => 0))), ((p3 11), .inl (cI, 3, .inl (fun _ => 0))), ((u9.2 0), .inr (0, [.int 0, .int 0, .int 0, .int 0])), ((u9.2 1), .inr (0, [.int 0, .int 0, .int 0, .int 0])), ((u9.2 2), .inl (cI, 9216, .inl (upd (fun k => if 0 ≤ k ∧ k < 9 then 2147483647 else 0) 0 0))), ((u9.2 3), .inr (4, [.ref (u9.2 2), .ref (u9.2 0), .ref (u9.2 1), .ref (p3 1), .int 1, .int 1]))] | 5 => [(p0, .inr (6, [.ref (p3 0), .int 0, .ref (p3 1), .ref (p3 14), .ref (p3 27), .ref (p3 28), .ref (p3 29), .ref (p3 30), .ref (p3 54), .ref (u9.2 2), .int 1, .int 1, .int 999, .ref (p3 61), .ref (p3 62), .ref (p3 63), .ref (p3 60)])), ((p3 28), .inr (0, [.int 0, .int 0, .int 0, .int 0])), ((p3 1), .inr (5, [.ref (p3 2), .ref (p3 3), .ref (p3 4), .ref (p3 5), .ref (p3 6), .ref (p3 7), .ref (p3 8), .ref (p3 9), .ref (p3 10), .ref (p3 11), .ref (p3 12), .ref (p3 13), .int 0, .int 0, .int 0, .int 0, .int 0, .int 100, .int 0, .int 0])), ((p3 12), .inl (cI, 3, .inl (fun _ => 0))), ((p3 11), .inl (cI, 3, .inl (fun _ => 0))), ((u9.2 0), .inr (0, [.int 0, .int 0, .int 0, .int 0])), ((u9.2 1), .inr (0, [.int 0, .int 0, .int 0, .int 0])), ((u9.2 2), .inr (4, [.ref (u9.2 3), .ref (u9.2 0), .ref (u9.2 1), .ref (p3 1), .int 1, .int 1])), ((u9.2 3), .inl (cI, 9216, .inl (upd (fun k => if 0 ≤ k ∧ k < 9 then 2147483647 else 0) 0 0)))] | 6 => [(p0, .inr (6, [.ref (p3 0), .int 0, .ref (p3 1), .ref (p3 14), .ref (p3 27), .ref (p3 28), .ref (p3 29), .ref (p3 30), .ref (p3 54), .null, .int 1, .int 1, .int 999, .ref (p3 61), .ref (p3 62), .ref (p3 63), .ref (p3 60)])), ((p3 28), .inr (0, [.int 0, .int 0, .int 0, .int 0])), ((p3 1), .inr (5, [.ref (p3 2), .ref (p3 3), .ref (p3 4), .ref (p3 5), .ref (p3 6), .ref (p3 7), .ref (p3 8), .ref (p3 9), .ref (p3 10), .ref (p3 11), .ref (p3 12), .ref (p3 13), .int 0, .int 0, .int 0, .int 0, .int 0, .int 100, .int 0, .int 0])), ((p3 12), .inl (cI, 3, .inl (fun _ => 0))), ((p3 11), .inl (cI, 3, .inl (fun _ => 0)))] | _ => []) (fun (r9 : Int32) (u9 : (Nat × (Nat → Nat))) => match u9.1 with | 0 => (p1.toInt < 0) ∧ r9 = (-1) | 1 => (0 ≤ p1.toInt) ∧ (p1.toInt ≤ 8) ∧ (p2.toInt = 0) ∧ r9 = 0 | 2 => (0 ≤ p1.toInt) ∧ (p1.toInt ≤ 8) ∧ (p2.toInt = 1) ∧ r9 = 0 | 3 => (0 ≤ p1.toInt) ∧ (p1.toInt ≤ 8) ∧ (p2.toInt = 2) ∧ r9 = 0 | 4 => (0 ≤ p1.toInt) ∧ (p1.toInt ≤ 8) ∧ (p2.toInt = 3) ∧ r9 = 0 | 5 => (0 ≤ p1.toInt) ∧ (p1.toInt ≤ 8) ∧ (p2.toInt < 0 ∨ 3 < p2.toInt) ∧ r9 = (-1) | 6 => (0 ≤ p1.toInt) ∧ (8 < p1.toInt) ∧ r9 = (-1) | _ => False) := by
  refine fun sz => k_enter (cc := cX6_most) (maxL := 5) (ret := some (.int)) (Qc := fun A => va_Qi (fun (r9 : Int32) (u9 : (Nat × (Nat → Nat))) => match u9.1 with | 0 => (p1.toInt < 0) ∧ r9 = (-1) | 1 => (0 ≤ p1.toInt) ∧ (p1.toInt ≤ 8) ∧ (p2.toInt = 0) ∧ r9 = 0 | 2 => (0 ≤ p1.toInt) ∧ (p1.toInt ≤ 8) ∧ (p2.toInt = 1) ∧ r9 = 0 | 3 => (0 ≤ p1.toInt) ∧ (p1.toInt ≤ 8) ∧ (p2.toInt = 2) ∧ r9 = 0 | 4 => (0 ≤ p1.toInt) ∧ (p1.toInt ≤ 8) ∧ (p2.toInt = 3) ∧ r9 = 0 | 5 => (0 ≤ p1.toInt) ∧ (p1.toInt ≤ 8) ∧ (p2.toInt < 0 ∨ 3 < p2.toInt) ∧ r9 = (-1) | 6 => (0 ≤ p1.toInt) ∧ (8 < p1.toInt) ∧ r9 = (-1) | _ => False) (fun u => k_B (dC, dI) vwCl (tyy cI cJ cZ cM) A ((fun (u9 : (Nat × (Nat → Nat))) => match u9.1 with | 0 => [(p0, .inr (6, [.ref (p3 0), .int 0, .ref (p3 1), .ref (p3 14), .ref (p3 27), .ref (p3 28), .ref (p3 29), .ref (p3 30), .ref (p3 54), .null, .int 1, .int 1, .int 999, .ref (p3 61), .ref (p3 62), .ref (p3 63), .ref (p3 60)])), ((p3 28), .inr (0, [.int 0, .int 0, .int 0, .int 0])), ((p3 1), .inr (5, [.ref (p3 2), .ref (p3 3), .ref (p3 4), .ref (p3 5), .ref (p3 6), .ref (p3 7), .ref (p3 8), .ref (p3 9), .ref (p3 10), .ref (p3 11), .ref (p3 12), .ref (p3 13), .int 0, .int 0, .int 0, .int 0, .int 0, .int 100, .int 0, .int 0])), ((p3 12), .inl (cI, 3, .inl (fun _ => 0))), ((p3 11), .inl (cI, 3, .inl (fun _ => 0)))] | 1 => [(p0, .inr (6, [.ref (p3 0), .int 0, .ref (p3 1), .ref (p3 14), .ref (p3 27), .ref (p3 28), .ref (p3 29), .ref (p3 30), .ref (p3 54), .ref (u9.2 3), .int 1, .int 1, .int 999, .ref (p3 61), .ref (p3 62), .ref (p3 63), .ref (p3 60)])), ((p3 28), .inr (0, [.int 0, .int 0, .int 0, .int 0])), ((p3 1), .inr (5, [.ref (p3 2), .ref (p3 3), .ref (p3 4), .ref (p3 5), .ref (p3 6), .ref (p3 7), .ref (p3 8), .ref (p3 9), .ref (p3 10), .ref (p3 11), .ref (p3 12), .ref (p3 13), .int 0, .int 0, .int 0, .int 0, .int 0, .int 100, .int 0, .int 0])), ((p3 12), .inl (cI, 3, .inl (fun _ => 0))), ((p3 11), .inl (cI, 3, .inl (fun _ => 0))), ((u9.2 0), .inr (0, [.int 0, .int 0, .int 0, .int 0])), ((u9.2 1), .inr (0, [.int 0, .int 0, .int 0, .int 0])), ((u9.2 2), .inl (cI, 9216, .inl (upd (fun k => if 0 ≤ k ∧ k < 9 then 2147483647 else 0) 0 0))), ((u9.2 3), .inr (4, [.ref (u9.2 2), .ref (u9.2 0), .ref (u9.2 1), .ref (p3 1), .int 1, .int 1]))] | 2 => [(p0, .inr (6, [.ref (p3 0), .int 0, .ref (p3 1), .ref (p3 14), .ref (p3 27), .ref (p3 28), .ref (p3 29), .ref (p3 30), .ref (p3 54), .ref (u9.2 3), .int 1, .int 1, .int 999, .ref (p3 61), .ref (p3 62), .ref (p3 63), .ref (p3 60)])), ((p3 28), .inr (0, [.int 0, .int 0, .int 0, .int 0])), ((p3 1), .inr (5, [.ref (p3 2), .ref (p3 3), .ref (p3 4), .ref (p3 5), .ref (p3 6), .ref (p3 7), .ref (p3 8), .ref (p3 9), .ref (p3 10), .ref (p3 11), .ref (p3 12), .ref (p3 13), .int 0, .int 0, .int 0, .int 0, .int 0, .int 100, .int 0, .int 0])), ((p3 12), .inl (cI, 3, .inl (fun _ => 0))), ((p3 11), .inl (cI, 3, .inl (fun _ => 0))), ((u9.2 0), .inr (0, [.int 0, .int 0, .int 0, .int 0])), ((u9.2 1), .inr (0, [.int 0, .int 0, .int 0, .int 0])), ((u9.2 2), .inl (cI, 9216, .inl (upd (fun k => if 0 ≤ k ∧ k < 9 then 2147483647 else 0) 0 0))), ((u9.2 3), .inr (4, [.ref (u9.2 2), .ref (u9.2 0), .ref (u9.2 1), .ref (p3 1), .int 1, .int 1]))] | 3 => [(p0, .inr (6, [.ref (p3 0), .int 0, .ref (p3 1), .ref (p3 14), .ref (p3 27), .ref (p3 28), .ref (p3 29), .ref (p3 30), .ref (p3 54), .ref (u9.2 2), .int 1, .int 1, .int 999, .ref (p3 61), .ref (p3 62), .ref (p3 63), .ref (p3 60)])), ((p3 28), .inr (0, [.int 0, .int 0, .int 0, .int 0])), ((p3 1), .inr (5, [.ref (p3 2), .ref (p3 3), .ref (p3 4), .ref (p3 5), .ref (p3 6), .ref (p3 7), .ref (p3 8), .ref (p3 9), .ref (p3 10), .ref (p3 11), .ref (p3 12), .ref (p3 13), .int 0, .int 0, .int 0, .int 0, .int 0, .int 100, .int 0, .int 0])), ((p3 12), .inl (cI, 3, .inl (fun _ => 0))), ((p3 11), .inl (cI, 3, .inl (fun _ => 0))), ((u9.2 0), .inr (0, [.int 0, .int 0, .int 0, .int 0])), ((u9.2 1), .inr (0, [.int 0, .int 0, .int 0, .int 0])), ((u9.2 2), .inr (4, [.ref (u9.2 3), .ref (u9.2 0), .ref (u9.2 1), .ref (p3 1), .int 1, .int 1])), ((u9.2 3), .inl (cI, 9216, .inl (upd (fun k => if 0 ≤ k ∧ k < 9 then 2147483647 else 0) 0 0)))] | 4 => [(p0, .inr (6, [.ref (p3 0), .int 0, .ref (p3 1), .ref (p3 14), .ref (p3 27), .ref (p3 28), .ref (p3 29), .ref (p3 30), .ref (p3 54), .ref (u9.2 3), .int 1, .int 1, .int 999, .ref (p3 61), .ref (p3 62), .ref (p3 63), .ref (p3 60)])), ((p3 28), .inr (0, [.int 0, .int 0, .int 0, .int 0])), ((p3 1), .inr (5, [.ref (p3 2), .ref (p3 3), .ref (p3 4), .ref (p3 5), .ref (p3 6), .ref (p3 7), .ref (p3 8), .ref (p3 9), .ref (p3 10), .ref (p3 11), .ref (p3 12), .ref (p3 13), .int 0, .int 0, .int 0, .int 0, .int 0, .int 100, .int 0, .int 0])), ((p3 12), .inl (cI, 3, .inl (fun _ => 0))), ((p3 11), .inl (cI, 3, .inl (fun _ => 0))), ((u9.2 0), .inr (0, [.int 0, .int 0, .int 0, .int 0])), ((u9.2 1), .inr (0, [.int 0, .int 0, .int 0, .int 0])), ((u9.2 2), .inl (cI, 9216, .inl (upd (fun k => if 0 ≤ k ∧ k < 9 then 2147483647 else 0) 0 0))), ((u9.2 3), .inr (4, [.ref (u9.2 2), .ref (u9.2 0), .ref (u9.2 1), .ref (p3 1), .int 1, .int 1]))] | 5 => [(p0, .inr (6, [.ref (p3 0), .int 0, .ref (p3 1), .ref (p3 14), .ref (p3 27), .ref (p3 28), .ref (p3 29), .ref (p3 30), .ref (p3 54), .ref (u9.2 2), .int 1, .int 1, .int 999, .ref (p3 61), .ref (p3 62), .ref (p3 63), .ref (p3 60)])), ((p3 28), .inr (0, [.int 0, .int 0, .int 0, .int 0])), ((p3 1), .inr (5, [.ref (p3 2), .ref (p3 3), .ref (p3 4), .ref (p3 5), .ref (p3 6), .ref (p3 7), .ref (p3 8), .ref (p3 9), .ref (p3 10), .ref (p3 11), .ref (p3 12), .ref (p3 13), .int 0, .int 0, .int 0, .int 0, .int 0, .int 100, .int 0, .int 0])), ((p3 12), .inl (cI, 3, .inl (fun _ => 0))), ((p3 11), .inl (cI, 3, .inl (fun _ => 0))), ((u9.2 0), .inr (0, [.int 0, .int 0, .int 0, .int 0])), ((u9.2 1), .inr (0, [.int 0, .int 0, .int 0, .int 0])), ((u9.2 2), .inr (4, [.ref (u9.2 3), .ref (u9.2 0), .ref (u9.2 1), .ref (p3 1), .int 1, .int 1])), ((u9.2 3), .inl (cI, 9216, .inl (upd (fun k => if 0 ≤ k ∧ k < 9 then 2147483647 else 0) 0 0)))] | 6 => [(p0, .inr (6, [.ref (p3 0), .int 0, .ref (p3 1), .ref (p3 14), .ref (p3 27), .ref (p3 28), .ref (p3 29), .ref (p3 30), .ref (p3 54), .null, .int 1, .int 1, .int 999, .ref (p3 61), .ref (p3 62), .ref (p3 63), .ref (p3 60)])), ((p3 28), .inr (0, [.int 0, .int 0, .int 0, .int 0])), ((p3 1), .inr (5, [.ref (p3 2), .ref (p3 3), .ref (p3 4), .ref (p3 5), .ref (p3 6), .ref (p3 7), .ref (p3 8), .ref (p3 9), .ref (p3 10), .ref (p3 11), .ref (p3 12), .ref (p3 13), .int 0, .int 0, .int 0, .int 0, .int 0, .int 100, .int 0, .int 0])), ((p3 12), .inl (cI, 3, .inl (fun _ => 0))), ((p3 11), .inl (cI, 3, .inl (fun _ => 0)))] | _ => []) u)) A) sz (by decide +kernel) rfl (Nat.le_of_ble_eq_true rfl) (fun p e s m args below meth c A ls H locs B hP hD hS hl => ?_)
  obtain ⟨hx, hb, hml, hown, hts, hr, hlk, hnm, hK, hA, hN, hC⟩ := id B
  have hown : s.vm.findClass RX6 = some m.cls := hown
  have hl : lv_has ls 5 [(0, .ref p0), (1, .int p1), (2, .int p2)] := hl
  have w_0 : (Cond.fieldLink RX6 16 "WishSea" "live" "LWishSea$Shore;").before args s = true := hts _ (List.mem_of_getElem? (i := 1) rfl)
  have w_1 : (Cond.fieldLink RX6 35 "WishSea" "now" "LWishSea$Moment;").before args s = true := hts _ (List.mem_of_getElem? (i := 2) rfl)
  have hinX6 : ∀ w ∈ u_ws RX6 TX6 17, w ∈ wsX6_most := fun _ h => List.mem_cons_of_mem _ (List.mem_append_left _ (List.mem_append_left _ (List.mem_append_left _ (List.mem_append_right _ h))))
  refine lv_iload_n hx hb dX6_most_0 rfl (lv_at hl 1 rfl) ?_
  refine lv_if_lt (tgt := 10) hx hb dX6_most_1 (by decide) (fun c_1 => ?_) (fun c_1 => ?_)
  · have c_1 : p1.toInt < 0 := k_ltT rfl (by decide +kernel) c_1
    refine lv_iconst (v := (-1)) hx hb dX6_most_10 (by decide +kernel) ?_
    exact k_ri B hP hD hS dX6_most_11 (0, (fun _ => 0)) [0, 1, 2, 3, 4] rfl rfl rfl (Nat.le_of_ble_eq_true rfl) (Nat.le_of_ble_eq_true rfl) ⟨c_1, rfl⟩
  · have c_1 : 0 ≤ p1.toInt := k_ltF rfl (by decide +kernel) c_1
    refine lv_iload_n hx hb dX6_most_4 rfl (lv_at hl 1 rfl) ?_
    refine lv_bipush (v := 8) hx hb dX6_most_5 (by decide +kernel) ?_
    refine lv_icmp_le (tgt := 12) hx hb dX6_most_7 (by decide) (fun c_2 => ?_) (fun c_2 => ?_)
    · have c_2 : p1.toInt ≤ 8 := k_leT rfl (by decide +kernel) c_2
      refine lv_aload_n hx hb dX6_most_12 rfl (lv_at hl 0 rfl) ?_
      refine k_cr (wc := [(p0, .inr (6, [.ref (p3 0), .int 0, .ref (p3 1), .ref (p3 14), .ref (p3 27), .ref (p3 28), .ref (p3 29), .ref (p3 30), .ref (p3 54), .null, .int 1, .int 1, .int 999, .ref (p3 61), .ref (p3 62), .ref (p3 63), .ref (p3 60)]))]) (wr := [((p3 28), .inr (0, [.int 0, .int 0, .int 0, .int 0])), ((p3 1), .inr (5, [.ref (p3 2), .ref (p3 3), .ref (p3 4), .ref (p3 5), .ref (p3 6), .ref (p3 7), .ref (p3 8), .ref (p3 9), .ref (p3 10), .ref (p3 11), .ref (p3 12), .ref (p3 13), .int 0, .int 0, .int 0, .int 0, .int 0, .int 100, .int 0, .int 0])), ((p3 12), .inl (cI, 3, .inl (fun _ => 0))), ((p3 11), .inl (cI, 3, .inl (fun _ => 0)))]) (fun hPc hDc hFc => va_runV (As := []) (rest := []) ⟨hx, hb, hml, hown, hts⟩ (c_X6_theRungs_v0 l dC dI cI cJ cZ cM p0 p3 H.size) (cwV 0 hts gX6_most_X6_theRungs rfl rfl rfl (by decide +kernel) ⟨(Nat.le_of_ble_eq_true rfl), (Nat.le_of_ble_eq_true rfl)⟩) (k_pV hPc hDc hK hN hC hS hFc hP (q0 := 0) (ci := 6) rfl rfl) rfl rfl hl.1 rfl (lv_room (Nat.le_of_ble_eq_true rfl)) dX6_most_13 ⟨(Nat.le_of_ble_eq_true rfl), (Nat.le_of_ble_eq_true rfl)⟩) hP hD hS hA [0] [1, 2, 3, 4] rfl rfl rfl rfl (by decide) (fun _ => rfl) 4 9230 rfl rfl (fun r_3 u_4 H locs hw hP hD hS => ?_)
      obtain rfl : r_3 = (u_4 0) := hw
      have hP : va_P (dC, dI) vwCl [((p3 28), .inr (0, [.int 0, .int 0, .int 0, .int 0])), ((p3 1), .inr (5, [.ref (p3 2), .ref (p3 3), .ref (p3 4), .ref (p3 5), .ref (p3 6), .ref (p3 7), .ref (p3 8), .ref (p3 9), .ref (p3 10), .ref (p3 11), .ref (p3 12), .ref (p3 13), .int 0, .int 0, .int 0, .int 0, .int 0, .int 100, .int 0, .int 0])), ((p3 12), .inl (cI, 3, .inl (fun _ => 0))), ((p3 11), .inl (cI, 3, .inl (fun _ => 0))), (p0, .inr (6, [.ref (p3 0), .int 0, .ref (p3 1), .ref (p3 14), .ref (p3 27), .ref (p3 28), .ref (p3 29), .ref (p3 30), .ref (p3 54), .ref (u_4 0), .int 1, .int 1, .int 999, .ref (p3 61), .ref (p3 62), .ref (p3 63), .ref (p3 60)])), ((u_4 0), .inr (4, [.ref (u_4 1), .ref (u_4 2), .ref (u_4 3), .ref (p3 1), .int 0, .int 0])), ((u_4 1), .inl (cI, 9216, .inl (fun _ => 0))), ((u_4 2), .inr (0, [.int 0, .int 0, .int 0, .int 0])), ((u_4 3), .inr (0, [.int 0, .int 0, .int 0, .int 0]))] H := hP
      have hD : va_D A [((p3 28), .inr (0, [.int 0, .int 0, .int 0, .int 0])), ((p3 1), .inr (5, [.ref (p3 2), .ref (p3 3), .ref (p3 4), .ref (p3 5), .ref (p3 6), .ref (p3 7), .ref (p3 8), .ref (p3 9), .ref (p3 10), .ref (p3 11), .ref (p3 12), .ref (p3 13), .int 0, .int 0, .int 0, .int 0, .int 0, .int 100, .int 0, .int 0])), ((p3 12), .inl (cI, 3, .inl (fun _ => 0))), ((p3 11), .inl (cI, 3, .inl (fun _ => 0))), (p0, .inr (6, [.ref (p3 0), .int 0, .ref (p3 1), .ref (p3 14), .ref (p3 27), .ref (p3 28), .ref (p3 29), .ref (p3 30), .ref (p3 54), .ref (u_4 0), .int 1, .int 1, .int 999, .ref (p3 61), .ref (p3 62), .ref (p3 63), .ref (p3 60)])), ((u_4 0), .inr (4, [.ref (u_4 1), .ref (u_4 2), .ref (u_4 3), .ref (p3 1), .int 0, .int 0])), ((u_4 1), .inl (cI, 9216, .inl (fun _ => 0))), ((u_4 2), .inr (0, [.int 0, .int 0, .int 0, .int 0])), ((u_4 3), .inr (0, [.int 0, .int 0, .int 0, .int 0]))] := hD
      refine lv_aload_n hx hb dX6_most_16 rfl (lv_at hl 0 rfl) ?_
      refine k_get (D := (dC, dI)) (ci := 6) (v := .ref (p3 1)) (C := RX6) (T := TX6) (N := 17) hx hb hts hinX6 hown hK hP 4 rfl rfl 2 (by decide) w_0 rfl rfl dX6_most_17 ?_
      refine lv_aload_n hx hb dX6_most_20 rfl (lv_at hl 0 rfl) ?_
      refine k_get (D := (dC, dI)) (ci := 6) (v := .ref (p3 28)) (C := RX6) (T := TX6) (N := 17) hx hb hts hinX6 hown hK hP 4 rfl rfl 5 (by decide) w_1 rfl rfl dX6_most_21 ?_
      refine k_cr (wc := [((u_4 0), .inr (4, [.ref (u_4 1), .ref (u_4 2), .ref (u_4 3), .ref (p3 1), .int 0, .int 0])), ((p3 28), .inr (0, [.int 0, .int 0, .int 0, .int 0])), ((u_4 2), .inr (0, [.int 0, .int 0, .int 0, .int 0])), ((p3 1), .inr (5, [.ref (p3 2), .ref (p3 3), .ref (p3 4), .ref (p3 5), .ref (p3 6), .ref (p3 7), .ref (p3 8), .ref (p3 9), .ref (p3 10), .ref (p3 11), .ref (p3 12), .ref (p3 13), .int 0, .int 0, .int 0, .int 0, .int 0, .int 100, .int 0, .int 0])), ((u_4 1), .inl (cI, 9216, .inl (fun _ => 0))), ((u_4 3), .inr (0, [.int 0, .int 0, .int 0, .int 0])), ((p3 12), .inl (cI, 3, .inl (fun _ => 0))), ((p3 11), .inl (cI, 3, .inl (fun _ => 0)))]) (wr := [(p0, .inr (6, [.ref (p3 0), .int 0, .ref (p3 1), .ref (p3 14), .ref (p3 27), .ref (p3 28), .ref (p3 29), .ref (p3 30), .ref (p3 54), .ref (u_4 0), .int 1, .int 1, .int 999, .ref (p3 61), .ref (p3 62), .ref (p3 63), .ref (p3 60)]))]) (fun hPc hDc hFc => va_runV (As := [.ref (p3 1), .ref (p3 28)]) (rest := []) ⟨hx, hb, hml, hown, hts⟩ (c_X4_climb_v0 l dC dI cI cJ cZ cM u_4 p3 H.size) (cwV 2 hts gX6_most_X4_climb rfl rfl rfl (by decide +kernel) ⟨(Nat.le_of_ble_eq_true rfl), (Nat.le_of_ble_eq_true rfl)⟩) (k_pV hPc hDc hK hN hC hS hFc hP (q0 := 5) (ci := 4) rfl rfl) rfl rfl hl.1 rfl (lv_room (Nat.le_of_ble_eq_true rfl)) dX6_most_24 ⟨(Nat.le_of_ble_eq_true rfl), (Nat.le_of_ble_eq_true rfl)⟩) hP hD hS hA [5, 0, 7, 1, 6, 8, 2, 3] [4] rfl rfl rfl rfl (by decide) (fun _ => rfl) 4 9230 rfl rfl (fun r_5 u_6 H locs hw hP hD hS => ?_)
      obtain rfl : r_5 = (u_4 0) := hw
      have hP : va_P (dC, dI) vwCl [(p0, .inr (6, [.ref (p3 0), .int 0, .ref (p3 1), .ref (p3 14), .ref (p3 27), .ref (p3 28), .ref (p3 29), .ref (p3 30), .ref (p3 54), .ref (u_4 0), .int 1, .int 1, .int 999, .ref (p3 61), .ref (p3 62), .ref (p3 63), .ref (p3 60)])), ((u_4 0), .inr (4, [.ref (u_4 1), .ref (u_4 2), .ref (u_4 3), .ref (p3 1), .int 1, .int 1])), ((p3 28), .inr (0, [.int 0, .int 0, .int 0, .int 0])), ((u_4 2), .inr (0, [.int 0, .int 0, .int 0, .int 0])), ((p3 1), .inr (5, [.ref (p3 2), .ref (p3 3), .ref (p3 4), .ref (p3 5), .ref (p3 6), .ref (p3 7), .ref (p3 8), .ref (p3 9), .ref (p3 10), .ref (p3 11), .ref (p3 12), .ref (p3 13), .int 0, .int 0, .int 0, .int 0, .int 0, .int 100, .int 0, .int 0])), ((u_4 1), .inl (cI, 9216, .inl (upd (fun k => if 0 ≤ k ∧ k < 9 then 2147483647 else 0) 0 0))), ((u_4 3), .inr (0, [.int 0, .int 0, .int 0, .int 0])), ((p3 12), .inl (cI, 3, .inl (fun _ => 0))), ((p3 11), .inl (cI, 3, .inl (fun _ => 0)))] H := hP
      have hD : va_D A [(p0, .inr (6, [.ref (p3 0), .int 0, .ref (p3 1), .ref (p3 14), .ref (p3 27), .ref (p3 28), .ref (p3 29), .ref (p3 30), .ref (p3 54), .ref (u_4 0), .int 1, .int 1, .int 999, .ref (p3 61), .ref (p3 62), .ref (p3 63), .ref (p3 60)])), ((u_4 0), .inr (4, [.ref (u_4 1), .ref (u_4 2), .ref (u_4 3), .ref (p3 1), .int 1, .int 1])), ((p3 28), .inr (0, [.int 0, .int 0, .int 0, .int 0])), ((u_4 2), .inr (0, [.int 0, .int 0, .int 0, .int 0])), ((p3 1), .inr (5, [.ref (p3 2), .ref (p3 3), .ref (p3 4), .ref (p3 5), .ref (p3 6), .ref (p3 7), .ref (p3 8), .ref (p3 9), .ref (p3 10), .ref (p3 11), .ref (p3 12), .ref (p3 13), .int 0, .int 0, .int 0, .int 0, .int 0, .int 100, .int 0, .int 0])), ((u_4 1), .inl (cI, 9216, .inl (upd (fun k => if 0 ≤ k ∧ k < 9 then 2147483647 else 0) 0 0))), ((u_4 3), .inr (0, [.int 0, .int 0, .int 0, .int 0])), ((p3 12), .inl (cI, 3, .inl (fun _ => 0))), ((p3 11), .inl (cI, 3, .inl (fun _ => 0)))] := hD
      refine lv_astore_n (lv' := [(3, .ref (u_4 0)), (0, .ref p0), (1, .int p1), (2, .int p2)]) hx hb dX6_most_27 rfl hl (by decide) rfl (fun ls hl => ?_)
      refine lv_aload_n hx hb dX6_most_28 rfl (lv_at hl 0 rfl) ?_
      refine lv_iload_n hx hb dX6_most_29 rfl (lv_at hl 2 rfl) ?_
      refine k_ci (wc := [((u_4 0), .inr (4, [.ref (u_4 1), .ref (u_4 2), .ref (u_4 3), .ref (p3 1), .int 1, .int 1])), ((u_4 1), .inl (cI, 9216, .inl (upd (fun k => if 0 ≤ k ∧ k < 9 then 2147483647 else 0) 0 0))), ((p3 1), .inr (5, [.ref (p3 2), .ref (p3 3), .ref (p3 4), .ref (p3 5), .ref (p3 6), .ref (p3 7), .ref (p3 8), .ref (p3 9), .ref (p3 10), .ref (p3 11), .ref (p3 12), .ref (p3 13), .int 0, .int 0, .int 0, .int 0, .int 0, .int 100, .int 0, .int 0]))]) (wr := [(p0, .inr (6, [.ref (p3 0), .int 0, .ref (p3 1), .ref (p3 14), .ref (p3 27), .ref (p3 28), .ref (p3 29), .ref (p3 30), .ref (p3 54), .ref (u_4 0), .int 1, .int 1, .int 999, .ref (p3 61), .ref (p3 62), .ref (p3 63), .ref (p3 60)])), ((p3 28), .inr (0, [.int 0, .int 0, .int 0, .int 0])), ((u_4 2), .inr (0, [.int 0, .int 0, .int 0, .int 0])), ((u_4 3), .inr (0, [.int 0, .int 0, .int 0, .int 0])), ((p3 12), .inl (cI, 3, .inl (fun _ => 0))), ((p3 11), .inl (cI, 3, .inl (fun _ => 0)))]) (fun hPc hDc hFc => va_runV (As := [.int p1]) (rest := []) ⟨hx, hb, hml, hown, hts⟩ (c_X4_mostBy_v0 l dC dI cI cJ cZ cM u_4 p1 p3 (by omega) (by omega) H.size) (cwV 1 hts gX6_most_X4_mostBy rfl rfl rfl (by decide +kernel) ⟨(Nat.le_of_ble_eq_true rfl), (Nat.le_of_ble_eq_true rfl)⟩) (k_pV hPc hDc hK hN hC hS hFc hP (q0 := 1) (ci := 4) rfl rfl) rfl rfl hl.1 rfl (lv_room (Nat.le_of_ble_eq_true rfl)) dX6_most_30 ⟨(Nat.le_of_ble_eq_true rfl), (Nat.le_of_ble_eq_true rfl)⟩) hP hD hS hA [1, 5, 4] [0, 2, 3, 6, 7, 8] rfl rfl rfl rfl (by decide) (fun _ => rfl) 4 9230 rfl rfl (fun r_7 u_8 H locs hw hP hD hS => ?_)
      obtain rfl : r_7 = 0 := hw
      have hP : va_P (dC, dI) vwCl [(p0, .inr (6, [.ref (p3 0), .int 0, .ref (p3 1), .ref (p3 14), .ref (p3 27), .ref (p3 28), .ref (p3 29), .ref (p3 30), .ref (p3 54), .ref (u_4 0), .int 1, .int 1, .int 999, .ref (p3 61), .ref (p3 62), .ref (p3 63), .ref (p3 60)])), ((p3 28), .inr (0, [.int 0, .int 0, .int 0, .int 0])), ((u_4 2), .inr (0, [.int 0, .int 0, .int 0, .int 0])), ((u_4 3), .inr (0, [.int 0, .int 0, .int 0, .int 0])), ((p3 12), .inl (cI, 3, .inl (fun _ => 0))), ((p3 11), .inl (cI, 3, .inl (fun _ => 0))), ((u_4 0), .inr (4, [.ref (u_4 1), .ref (u_4 2), .ref (u_4 3), .ref (p3 1), .int 1, .int 1])), ((u_4 1), .inl (cI, 9216, .inl (upd (fun k => if 0 ≤ k ∧ k < 9 then 2147483647 else 0) 0 0))), ((p3 1), .inr (5, [.ref (p3 2), .ref (p3 3), .ref (p3 4), .ref (p3 5), .ref (p3 6), .ref (p3 7), .ref (p3 8), .ref (p3 9), .ref (p3 10), .ref (p3 11), .ref (p3 12), .ref (p3 13), .int 0, .int 0, .int 0, .int 0, .int 0, .int 100, .int 0, .int 0]))] H := hP
      have hD : va_D A [(p0, .inr (6, [.ref (p3 0), .int 0, .ref (p3 1), .ref (p3 14), .ref (p3 27), .ref (p3 28), .ref (p3 29), .ref (p3 30), .ref (p3 54), .ref (u_4 0), .int 1, .int 1, .int 999, .ref (p3 61), .ref (p3 62), .ref (p3 63), .ref (p3 60)])), ((p3 28), .inr (0, [.int 0, .int 0, .int 0, .int 0])), ((u_4 2), .inr (0, [.int 0, .int 0, .int 0, .int 0])), ((u_4 3), .inr (0, [.int 0, .int 0, .int 0, .int 0])), ((p3 12), .inl (cI, 3, .inl (fun _ => 0))), ((p3 11), .inl (cI, 3, .inl (fun _ => 0))), ((u_4 0), .inr (4, [.ref (u_4 1), .ref (u_4 2), .ref (u_4 3), .ref (p3 1), .int 1, .int 1])), ((u_4 1), .inl (cI, 9216, .inl (upd (fun k => if 0 ≤ k ∧ k < 9 then 2147483647 else 0) 0 0))), ((p3 1), .inr (5, [.ref (p3 2), .ref (p3 3), .ref (p3 4), .ref (p3 5), .ref (p3 6), .ref (p3 7), .ref (p3 8), .ref (p3 9), .ref (p3 10), .ref (p3 11), .ref (p3 12), .ref (p3 13), .int 0, .int 0, .int 0, .int 0, .int 0, .int 100, .int 0, .int 0]))] := hD
      refine lv_istore (lv' := [(4, .int 0), (3, .ref (u_4 0)), (0, .ref p0), (1, .int p1), (2, .int p2)]) hx hb dX6_most_33 hl (by decide) rfl (fun ls hl => ?_)
      refine lv_iload hx hb dX6_most_35 (lv_at hl 0 rfl) ?_
      refine lv_if_ge (tgt := 42) hx hb dX6_most_37 (by decide) (fun _ => ?_) (fun q9 => absurd q9 (by decide +kernel))
      refine lv_iload_n hx hb dX6_most_42 rfl (lv_at hl 4 rfl) ?_
      rcases k_sw4 p2 with c_9 | c_9 | c_9 | c_9 | c_9
      · have c_9 : p2.toInt = 0 := c_9
        refine lv_tableIn (off := 29) (tgt := 72) hx hb dX6_most_43 (by rw [c_9]; decide) (by rw [c_9]; decide) (by rw [c_9]; decide +kernel) (by decide +kernel) ?_
        refine lv_aload_n hx hb dX6_most_72 rfl (lv_at hl 2 rfl) ?_
        refine k_get (D := (dC, dI)) (ci := 6) (v := .ref (p3 1)) (C := RX6) (T := TX6) (N := 17) hx hb hts hinX6 hown hK hP 0 rfl rfl 2 (by decide) w_0 rfl rfl dX6_most_73 ?_
        refine lv_aload_n hx hb dX6_most_76 rfl (lv_at hl 1 rfl) ?_
        refine lv_iload hx hb dX6_most_77 (lv_at hl 0 rfl) ?_
        refine k_ci (wc := [((u_4 0), .inr (4, [.ref (u_4 1), .ref (u_4 2), .ref (u_4 3), .ref (p3 1), .int 1, .int 1]))]) (wr := [(p0, .inr (6, [.ref (p3 0), .int 0, .ref (p3 1), .ref (p3 14), .ref (p3 27), .ref (p3 28), .ref (p3 29), .ref (p3 30), .ref (p3 54), .ref (u_4 0), .int 1, .int 1, .int 999, .ref (p3 61), .ref (p3 62), .ref (p3 63), .ref (p3 60)])), ((p3 28), .inr (0, [.int 0, .int 0, .int 0, .int 0])), ((u_4 2), .inr (0, [.int 0, .int 0, .int 0, .int 0])), ((u_4 3), .inr (0, [.int 0, .int 0, .int 0, .int 0])), ((p3 12), .inl (cI, 3, .inl (fun _ => 0))), ((p3 11), .inl (cI, 3, .inl (fun _ => 0))), ((u_4 1), .inl (cI, 9216, .inl (upd (fun k => if 0 ≤ k ∧ k < 9 then 2147483647 else 0) 0 0))), ((p3 1), .inr (5, [.ref (p3 2), .ref (p3 3), .ref (p3 4), .ref (p3 5), .ref (p3 6), .ref (p3 7), .ref (p3 8), .ref (p3 9), .ref (p3 10), .ref (p3 11), .ref (p3 12), .ref (p3 13), .int 0, .int 0, .int 0, .int 0, .int 0, .int 100, .int 0, .int 0]))]) (fun hPc hDc hFc => va_runV (As := [.int 0]) (rest := [.ref (p3 1)]) ⟨hx, hb, hml, hown, hts⟩ (c_X4_setOf_v0 l dC dI cI cJ cZ cM u_4 p3 H.size) (cwV 1 hts gX6_most_X4_setOf rfl rfl rfl (by decide +kernel) ⟨(Nat.le_of_ble_eq_true rfl), (Nat.le_of_ble_eq_true rfl)⟩) (k_pV hPc hDc hK hN hC hS hFc hP (q0 := 6) (ci := 4) rfl rfl) rfl rfl hl.1 rfl (lv_room (Nat.le_of_ble_eq_true rfl)) dX6_most_79 ⟨(Nat.le_of_ble_eq_true rfl), (Nat.le_of_ble_eq_true rfl)⟩) hP hD hS hA [6] [0, 1, 2, 3, 4, 5, 7, 8] rfl rfl rfl rfl (by decide) (fun _ => rfl) 4 9230 rfl rfl (fun r_10 u_11 H locs hw hP hD hS => ?_)
        obtain rfl : r_10 = 0 := hw
        have hP : va_P (dC, dI) vwCl [(p0, .inr (6, [.ref (p3 0), .int 0, .ref (p3 1), .ref (p3 14), .ref (p3 27), .ref (p3 28), .ref (p3 29), .ref (p3 30), .ref (p3 54), .ref (u_4 0), .int 1, .int 1, .int 999, .ref (p3 61), .ref (p3 62), .ref (p3 63), .ref (p3 60)])), ((p3 28), .inr (0, [.int 0, .int 0, .int 0, .int 0])), ((u_4 2), .inr (0, [.int 0, .int 0, .int 0, .int 0])), ((u_4 3), .inr (0, [.int 0, .int 0, .int 0, .int 0])), ((p3 12), .inl (cI, 3, .inl (fun _ => 0))), ((p3 11), .inl (cI, 3, .inl (fun _ => 0))), ((u_4 1), .inl (cI, 9216, .inl (upd (fun k => if 0 ≤ k ∧ k < 9 then 2147483647 else 0) 0 0))), ((p3 1), .inr (5, [.ref (p3 2), .ref (p3 3), .ref (p3 4), .ref (p3 5), .ref (p3 6), .ref (p3 7), .ref (p3 8), .ref (p3 9), .ref (p3 10), .ref (p3 11), .ref (p3 12), .ref (p3 13), .int 0, .int 0, .int 0, .int 0, .int 0, .int 100, .int 0, .int 0])), ((u_4 0), .inr (4, [.ref (u_4 1), .ref (u_4 2), .ref (u_4 3), .ref (p3 1), .int 1, .int 1]))] H := hP
        have hD : va_D A [(p0, .inr (6, [.ref (p3 0), .int 0, .ref (p3 1), .ref (p3 14), .ref (p3 27), .ref (p3 28), .ref (p3 29), .ref (p3 30), .ref (p3 54), .ref (u_4 0), .int 1, .int 1, .int 999, .ref (p3 61), .ref (p3 62), .ref (p3 63), .ref (p3 60)])), ((p3 28), .inr (0, [.int 0, .int 0, .int 0, .int 0])), ((u_4 2), .inr (0, [.int 0, .int 0, .int 0, .int 0])), ((u_4 3), .inr (0, [.int 0, .int 0, .int 0, .int 0])), ((p3 12), .inl (cI, 3, .inl (fun _ => 0))), ((p3 11), .inl (cI, 3, .inl (fun _ => 0))), ((u_4 1), .inl (cI, 9216, .inl (upd (fun k => if 0 ≤ k ∧ k < 9 then 2147483647 else 0) 0 0))), ((p3 1), .inr (5, [.ref (p3 2), .ref (p3 3), .ref (p3 4), .ref (p3 5), .ref (p3 6), .ref (p3 7), .ref (p3 8), .ref (p3 9), .ref (p3 10), .ref (p3 11), .ref (p3 12), .ref (p3 13), .int 0, .int 0, .int 0, .int 0, .int 0, .int 100, .int 0, .int 0])), ((u_4 0), .inr (4, [.ref (u_4 1), .ref (u_4 2), .ref (u_4 3), .ref (p3 1), .int 1, .int 1]))] := hD
        refine k_ci (wc := [((p3 1), .inr (5, [.ref (p3 2), .ref (p3 3), .ref (p3 4), .ref (p3 5), .ref (p3 6), .ref (p3 7), .ref (p3 8), .ref (p3 9), .ref (p3 10), .ref (p3 11), .ref (p3 12), .ref (p3 13), .int 0, .int 0, .int 0, .int 0, .int 0, .int 100, .int 0, .int 0]))]) (wr := [(p0, .inr (6, [.ref (p3 0), .int 0, .ref (p3 1), .ref (p3 14), .ref (p3 27), .ref (p3 28), .ref (p3 29), .ref (p3 30), .ref (p3 54), .ref (u_4 0), .int 1, .int 1, .int 999, .ref (p3 61), .ref (p3 62), .ref (p3 63), .ref (p3 60)])), ((p3 28), .inr (0, [.int 0, .int 0, .int 0, .int 0])), ((u_4 2), .inr (0, [.int 0, .int 0, .int 0, .int 0])), ((u_4 3), .inr (0, [.int 0, .int 0, .int 0, .int 0])), ((p3 12), .inl (cI, 3, .inl (fun _ => 0))), ((p3 11), .inl (cI, 3, .inl (fun _ => 0))), ((u_4 1), .inl (cI, 9216, .inl (upd (fun k => if 0 ≤ k ∧ k < 9 then 2147483647 else 0) 0 0))), ((u_4 0), .inr (4, [.ref (u_4 1), .ref (u_4 2), .ref (u_4 3), .ref (p3 1), .int 1, .int 1]))]) (fun hPc hDc hFc => va_runV (As := [.int 0]) (rest := []) ⟨hx, hb, hml, hown, hts⟩ (c_X5_lastingWorthOf_v0 l dC dI cI cJ cZ cM p3 H.size) (cwV 1 hts gX6_most_X5_lastingWorthOf rfl rfl rfl (by decide +kernel) ⟨(Nat.le_of_ble_eq_true rfl), (Nat.le_of_ble_eq_true rfl)⟩) (k_pV hPc hDc hK hN hC hS hFc hP (q0 := 7) (ci := 5) rfl rfl) rfl rfl hl.1 rfl (lv_room (Nat.le_of_ble_eq_true rfl)) dX6_most_82 ⟨(Nat.le_of_ble_eq_true rfl), (Nat.le_of_ble_eq_true rfl)⟩) hP hD hS hA [7] [0, 1, 2, 3, 4, 5, 6, 8] rfl rfl rfl rfl (by decide) (fun _ => rfl) 4 9230 rfl rfl (fun r_12 u_13 H locs hw hP hD hS => ?_)
        obtain rfl : r_12 = 0 := hw
        have hP : va_P (dC, dI) vwCl [(p0, .inr (6, [.ref (p3 0), .int 0, .ref (p3 1), .ref (p3 14), .ref (p3 27), .ref (p3 28), .ref (p3 29), .ref (p3 30), .ref (p3 54), .ref (u_4 0), .int 1, .int 1, .int 999, .ref (p3 61), .ref (p3 62), .ref (p3 63), .ref (p3 60)])), ((p3 28), .inr (0, [.int 0, .int 0, .int 0, .int 0])), ((u_4 2), .inr (0, [.int 0, .int 0, .int 0, .int 0])), ((u_4 3), .inr (0, [.int 0, .int 0, .int 0, .int 0])), ((p3 12), .inl (cI, 3, .inl (fun _ => 0))), ((p3 11), .inl (cI, 3, .inl (fun _ => 0))), ((u_4 1), .inl (cI, 9216, .inl (upd (fun k => if 0 ≤ k ∧ k < 9 then 2147483647 else 0) 0 0))), ((u_4 0), .inr (4, [.ref (u_4 1), .ref (u_4 2), .ref (u_4 3), .ref (p3 1), .int 1, .int 1])), ((p3 1), .inr (5, [.ref (p3 2), .ref (p3 3), .ref (p3 4), .ref (p3 5), .ref (p3 6), .ref (p3 7), .ref (p3 8), .ref (p3 9), .ref (p3 10), .ref (p3 11), .ref (p3 12), .ref (p3 13), .int 0, .int 0, .int 0, .int 0, .int 0, .int 100, .int 0, .int 0]))] H := hP
        have hD : va_D A [(p0, .inr (6, [.ref (p3 0), .int 0, .ref (p3 1), .ref (p3 14), .ref (p3 27), .ref (p3 28), .ref (p3 29), .ref (p3 30), .ref (p3 54), .ref (u_4 0), .int 1, .int 1, .int 999, .ref (p3 61), .ref (p3 62), .ref (p3 63), .ref (p3 60)])), ((p3 28), .inr (0, [.int 0, .int 0, .int 0, .int 0])), ((u_4 2), .inr (0, [.int 0, .int 0, .int 0, .int 0])), ((u_4 3), .inr (0, [.int 0, .int 0, .int 0, .int 0])), ((p3 12), .inl (cI, 3, .inl (fun _ => 0))), ((p3 11), .inl (cI, 3, .inl (fun _ => 0))), ((u_4 1), .inl (cI, 9216, .inl (upd (fun k => if 0 ≤ k ∧ k < 9 then 2147483647 else 0) 0 0))), ((u_4 0), .inr (4, [.ref (u_4 1), .ref (u_4 2), .ref (u_4 3), .ref (p3 1), .int 1, .int 1])), ((p3 1), .inr (5, [.ref (p3 2), .ref (p3 3), .ref (p3 4), .ref (p3 5), .ref (p3 6), .ref (p3 7), .ref (p3 8), .ref (p3 9), .ref (p3 10), .ref (p3 11), .ref (p3 12), .ref (p3 13), .int 0, .int 0, .int 0, .int 0, .int 0, .int 100, .int 0, .int 0]))] := hD
        exact k_ri B hP hD hS dX6_most_85 (1, (fun k9 => match k9 with | 0 => (u_4 2) | 1 => (u_4 3) | 2 => (u_4 1) | 3 => (u_4 0) | _ => 0)) [0, 1, 8, 4, 5, 2, 3, 6, 7] rfl rfl rfl (Nat.le_of_ble_eq_true rfl) (Nat.le_of_ble_eq_true rfl) ⟨c_1, c_2, c_9, rfl⟩
      · have c_9 : p2.toInt = 1 := c_9
        refine lv_tableIn (off := 43) (tgt := 86) hx hb dX6_most_43 (by rw [c_9]; decide) (by rw [c_9]; decide) (by rw [c_9]; decide +kernel) (by decide +kernel) ?_
        refine lv_aload_n hx hb dX6_most_86 rfl (lv_at hl 1 rfl) ?_
        refine lv_iload hx hb dX6_most_87 (lv_at hl 0 rfl) ?_
        refine k_ci (wc := [((u_4 0), .inr (4, [.ref (u_4 1), .ref (u_4 2), .ref (u_4 3), .ref (p3 1), .int 1, .int 1]))]) (wr := [(p0, .inr (6, [.ref (p3 0), .int 0, .ref (p3 1), .ref (p3 14), .ref (p3 27), .ref (p3 28), .ref (p3 29), .ref (p3 30), .ref (p3 54), .ref (u_4 0), .int 1, .int 1, .int 999, .ref (p3 61), .ref (p3 62), .ref (p3 63), .ref (p3 60)])), ((p3 28), .inr (0, [.int 0, .int 0, .int 0, .int 0])), ((u_4 2), .inr (0, [.int 0, .int 0, .int 0, .int 0])), ((u_4 3), .inr (0, [.int 0, .int 0, .int 0, .int 0])), ((p3 12), .inl (cI, 3, .inl (fun _ => 0))), ((p3 11), .inl (cI, 3, .inl (fun _ => 0))), ((u_4 1), .inl (cI, 9216, .inl (upd (fun k => if 0 ≤ k ∧ k < 9 then 2147483647 else 0) 0 0))), ((p3 1), .inr (5, [.ref (p3 2), .ref (p3 3), .ref (p3 4), .ref (p3 5), .ref (p3 6), .ref (p3 7), .ref (p3 8), .ref (p3 9), .ref (p3 10), .ref (p3 11), .ref (p3 12), .ref (p3 13), .int 0, .int 0, .int 0, .int 0, .int 0, .int 100, .int 0, .int 0]))]) (fun hPc hDc hFc => va_runV (As := [.int 0]) (rest := []) ⟨hx, hb, hml, hown, hts⟩ (c_X4_wishesOf_v0 l dC dI cI cJ cZ cM u_4 p3 H.size) (cwV 1 hts gX6_most_X4_wishesOf rfl rfl rfl (by decide +kernel) ⟨(Nat.le_of_ble_eq_true rfl), (Nat.le_of_ble_eq_true rfl)⟩) (k_pV hPc hDc hK hN hC hS hFc hP (q0 := 6) (ci := 4) rfl rfl) rfl rfl hl.1 rfl (lv_room (Nat.le_of_ble_eq_true rfl)) dX6_most_89 ⟨(Nat.le_of_ble_eq_true rfl), (Nat.le_of_ble_eq_true rfl)⟩) hP hD hS hA [6] [0, 1, 2, 3, 4, 5, 7, 8] rfl rfl rfl rfl (by decide) (fun _ => rfl) 4 9230 rfl rfl (fun r_14 u_15 H locs hw hP hD hS => ?_)
        obtain rfl : r_14 = 0 := hw
        have hP : va_P (dC, dI) vwCl [(p0, .inr (6, [.ref (p3 0), .int 0, .ref (p3 1), .ref (p3 14), .ref (p3 27), .ref (p3 28), .ref (p3 29), .ref (p3 30), .ref (p3 54), .ref (u_4 0), .int 1, .int 1, .int 999, .ref (p3 61), .ref (p3 62), .ref (p3 63), .ref (p3 60)])), ((p3 28), .inr (0, [.int 0, .int 0, .int 0, .int 0])), ((u_4 2), .inr (0, [.int 0, .int 0, .int 0, .int 0])), ((u_4 3), .inr (0, [.int 0, .int 0, .int 0, .int 0])), ((p3 12), .inl (cI, 3, .inl (fun _ => 0))), ((p3 11), .inl (cI, 3, .inl (fun _ => 0))), ((u_4 1), .inl (cI, 9216, .inl (upd (fun k => if 0 ≤ k ∧ k < 9 then 2147483647 else 0) 0 0))), ((p3 1), .inr (5, [.ref (p3 2), .ref (p3 3), .ref (p3 4), .ref (p3 5), .ref (p3 6), .ref (p3 7), .ref (p3 8), .ref (p3 9), .ref (p3 10), .ref (p3 11), .ref (p3 12), .ref (p3 13), .int 0, .int 0, .int 0, .int 0, .int 0, .int 100, .int 0, .int 0])), ((u_4 0), .inr (4, [.ref (u_4 1), .ref (u_4 2), .ref (u_4 3), .ref (p3 1), .int 1, .int 1]))] H := hP
        have hD : va_D A [(p0, .inr (6, [.ref (p3 0), .int 0, .ref (p3 1), .ref (p3 14), .ref (p3 27), .ref (p3 28), .ref (p3 29), .ref (p3 30), .ref (p3 54), .ref (u_4 0), .int 1, .int 1, .int 999, .ref (p3 61), .ref (p3 62), .ref (p3 63), .ref (p3 60)])), ((p3 28), .inr (0, [.int 0, .int 0, .int 0, .int 0])), ((u_4 2), .inr (0, [.int 0, .int 0, .int 0, .int 0])), ((u_4 3), .inr (0, [.int 0, .int 0, .int 0, .int 0])), ((p3 12), .inl (cI, 3, .inl (fun _ => 0))), ((p3 11), .inl (cI, 3, .inl (fun _ => 0))), ((u_4 1), .inl (cI, 9216, .inl (upd (fun k => if 0 ≤ k ∧ k < 9 then 2147483647 else 0) 0 0))), ((p3 1), .inr (5, [.ref (p3 2), .ref (p3 3), .ref (p3 4), .ref (p3 5), .ref (p3 6), .ref (p3 7), .ref (p3 8), .ref (p3 9), .ref (p3 10), .ref (p3 11), .ref (p3 12), .ref (p3 13), .int 0, .int 0, .int 0, .int 0, .int 0, .int 100, .int 0, .int 0])), ((u_4 0), .inr (4, [.ref (u_4 1), .ref (u_4 2), .ref (u_4 3), .ref (p3 1), .int 1, .int 1]))] := hD
        exact k_ri B hP hD hS dX6_most_92 (2, (fun k9 => match k9 with | 0 => (u_4 2) | 1 => (u_4 3) | 2 => (u_4 1) | 3 => (u_4 0) | _ => 0)) [0, 1, 7, 4, 5, 2, 3, 6, 8] rfl rfl rfl (Nat.le_of_ble_eq_true rfl) (Nat.le_of_ble_eq_true rfl) ⟨c_1, c_2, c_9, rfl⟩
      · have c_9 : p2.toInt = 2 := c_9
        refine lv_tableIn (off := 50) (tgt := 93) hx hb dX6_most_43 (by rw [c_9]; decide) (by rw [c_9]; decide) (by rw [c_9]; decide +kernel) (by decide +kernel) ?_
        refine lv_aload_n hx hb dX6_most_93 rfl (lv_at hl 1 rfl) ?_
        refine lv_iload hx hb dX6_most_94 (lv_at hl 0 rfl) ?_
        refine k_ci (wc := [((u_4 0), .inr (4, [.ref (u_4 1), .ref (u_4 2), .ref (u_4 3), .ref (p3 1), .int 1, .int 1])), ((u_4 1), .inl (cI, 9216, .inl (upd (fun k => if 0 ≤ k ∧ k < 9 then 2147483647 else 0) 0 0)))]) (wr := [(p0, .inr (6, [.ref (p3 0), .int 0, .ref (p3 1), .ref (p3 14), .ref (p3 27), .ref (p3 28), .ref (p3 29), .ref (p3 30), .ref (p3 54), .ref (u_4 0), .int 1, .int 1, .int 999, .ref (p3 61), .ref (p3 62), .ref (p3 63), .ref (p3 60)])), ((p3 28), .inr (0, [.int 0, .int 0, .int 0, .int 0])), ((u_4 2), .inr (0, [.int 0, .int 0, .int 0, .int 0])), ((u_4 3), .inr (0, [.int 0, .int 0, .int 0, .int 0])), ((p3 12), .inl (cI, 3, .inl (fun _ => 0))), ((p3 11), .inl (cI, 3, .inl (fun _ => 0))), ((p3 1), .inr (5, [.ref (p3 2), .ref (p3 3), .ref (p3 4), .ref (p3 5), .ref (p3 6), .ref (p3 7), .ref (p3 8), .ref (p3 9), .ref (p3 10), .ref (p3 11), .ref (p3 12), .ref (p3 13), .int 0, .int 0, .int 0, .int 0, .int 0, .int 100, .int 0, .int 0]))]) (fun hPc hDc hFc => va_runV (As := [.int 0]) (rest := []) ⟨hx, hb, hml, hown, hts⟩ (c_X4_seaOf_v0 l dC dI cI cJ cZ cM u_4 p3 H.size) (cwV 1 hts gX6_most_X4_seaOf rfl rfl rfl (by decide +kernel) ⟨(Nat.le_of_ble_eq_true rfl), (Nat.le_of_ble_eq_true rfl)⟩) (k_pV hPc hDc hK hN hC hS hFc hP (q0 := 6) (ci := 4) rfl rfl) rfl rfl hl.1 rfl (lv_room (Nat.le_of_ble_eq_true rfl)) dX6_most_96 ⟨(Nat.le_of_ble_eq_true rfl), (Nat.le_of_ble_eq_true rfl)⟩) hP hD hS hA [6, 7] [0, 1, 2, 3, 4, 5, 8] rfl rfl rfl rfl (by decide) (fun _ => rfl) 4 9230 rfl rfl (fun r_16 u_17 H locs hw hP hD hS => ?_)
        obtain rfl : r_16 = 0 := hw
        have hP : va_P (dC, dI) vwCl [(p0, .inr (6, [.ref (p3 0), .int 0, .ref (p3 1), .ref (p3 14), .ref (p3 27), .ref (p3 28), .ref (p3 29), .ref (p3 30), .ref (p3 54), .ref (u_4 0), .int 1, .int 1, .int 999, .ref (p3 61), .ref (p3 62), .ref (p3 63), .ref (p3 60)])), ((p3 28), .inr (0, [.int 0, .int 0, .int 0, .int 0])), ((u_4 2), .inr (0, [.int 0, .int 0, .int 0, .int 0])), ((u_4 3), .inr (0, [.int 0, .int 0, .int 0, .int 0])), ((p3 12), .inl (cI, 3, .inl (fun _ => 0))), ((p3 11), .inl (cI, 3, .inl (fun _ => 0))), ((p3 1), .inr (5, [.ref (p3 2), .ref (p3 3), .ref (p3 4), .ref (p3 5), .ref (p3 6), .ref (p3 7), .ref (p3 8), .ref (p3 9), .ref (p3 10), .ref (p3 11), .ref (p3 12), .ref (p3 13), .int 0, .int 0, .int 0, .int 0, .int 0, .int 100, .int 0, .int 0])), ((u_4 0), .inr (4, [.ref (u_4 1), .ref (u_4 2), .ref (u_4 3), .ref (p3 1), .int 1, .int 1])), ((u_4 1), .inl (cI, 9216, .inl (upd (fun k => if 0 ≤ k ∧ k < 9 then 2147483647 else 0) 0 0)))] H := hP
        have hD : va_D A [(p0, .inr (6, [.ref (p3 0), .int 0, .ref (p3 1), .ref (p3 14), .ref (p3 27), .ref (p3 28), .ref (p3 29), .ref (p3 30), .ref (p3 54), .ref (u_4 0), .int 1, .int 1, .int 999, .ref (p3 61), .ref (p3 62), .ref (p3 63), .ref (p3 60)])), ((p3 28), .inr (0, [.int 0, .int 0, .int 0, .int 0])), ((u_4 2), .inr (0, [.int 0, .int 0, .int 0, .int 0])), ((u_4 3), .inr (0, [.int 0, .int 0, .int 0, .int 0])), ((p3 12), .inl (cI, 3, .inl (fun _ => 0))), ((p3 11), .inl (cI, 3, .inl (fun _ => 0))), ((p3 1), .inr (5, [.ref (p3 2), .ref (p3 3), .ref (p3 4), .ref (p3 5), .ref (p3 6), .ref (p3 7), .ref (p3 8), .ref (p3 9), .ref (p3 10), .ref (p3 11), .ref (p3 12), .ref (p3 13), .int 0, .int 0, .int 0, .int 0, .int 0, .int 100, .int 0, .int 0])), ((u_4 0), .inr (4, [.ref (u_4 1), .ref (u_4 2), .ref (u_4 3), .ref (p3 1), .int 1, .int 1])), ((u_4 1), .inl (cI, 9216, .inl (upd (fun k => if 0 ≤ k ∧ k < 9 then 2147483647 else 0) 0 0)))] := hD
        exact k_ri B hP hD hS dX6_most_99 (3, (fun k9 => match k9 with | 0 => (u_4 2) | 1 => (u_4 3) | 2 => (u_4 0) | 3 => (u_4 1) | _ => 0)) [0, 1, 6, 4, 5, 2, 3, 7, 8] rfl rfl rfl (Nat.le_of_ble_eq_true rfl) (Nat.le_of_ble_eq_true rfl) ⟨c_1, c_2, c_9, rfl⟩
      · have c_9 : p2.toInt = 3 := c_9
        refine lv_tableIn (off := 57) (tgt := 100) hx hb dX6_most_43 (by rw [c_9]; decide) (by rw [c_9]; decide) (by rw [c_9]; decide +kernel) (by decide +kernel) ?_
        refine lv_aload_n hx hb dX6_most_100 rfl (lv_at hl 1 rfl) ?_
        refine lv_iload hx hb dX6_most_101 (lv_at hl 0 rfl) ?_
        refine k_ci (wc := [((u_4 0), .inr (4, [.ref (u_4 1), .ref (u_4 2), .ref (u_4 3), .ref (p3 1), .int 1, .int 1]))]) (wr := [(p0, .inr (6, [.ref (p3 0), .int 0, .ref (p3 1), .ref (p3 14), .ref (p3 27), .ref (p3 28), .ref (p3 29), .ref (p3 30), .ref (p3 54), .ref (u_4 0), .int 1, .int 1, .int 999, .ref (p3 61), .ref (p3 62), .ref (p3 63), .ref (p3 60)])), ((p3 28), .inr (0, [.int 0, .int 0, .int 0, .int 0])), ((u_4 2), .inr (0, [.int 0, .int 0, .int 0, .int 0])), ((u_4 3), .inr (0, [.int 0, .int 0, .int 0, .int 0])), ((p3 12), .inl (cI, 3, .inl (fun _ => 0))), ((p3 11), .inl (cI, 3, .inl (fun _ => 0))), ((u_4 1), .inl (cI, 9216, .inl (upd (fun k => if 0 ≤ k ∧ k < 9 then 2147483647 else 0) 0 0))), ((p3 1), .inr (5, [.ref (p3 2), .ref (p3 3), .ref (p3 4), .ref (p3 5), .ref (p3 6), .ref (p3 7), .ref (p3 8), .ref (p3 9), .ref (p3 10), .ref (p3 11), .ref (p3 12), .ref (p3 13), .int 0, .int 0, .int 0, .int 0, .int 0, .int 100, .int 0, .int 0]))]) (fun hPc hDc hFc => va_runV (As := [.int 0]) (rest := []) ⟨hx, hb, hml, hown, hts⟩ (c_X4_setOf_v0 l dC dI cI cJ cZ cM u_4 p3 H.size) (cwV 1 hts gX6_most_X4_setOf rfl rfl rfl (by decide +kernel) ⟨(Nat.le_of_ble_eq_true rfl), (Nat.le_of_ble_eq_true rfl)⟩) (k_pV hPc hDc hK hN hC hS hFc hP (q0 := 6) (ci := 4) rfl rfl) rfl rfl hl.1 rfl (lv_room (Nat.le_of_ble_eq_true rfl)) dX6_most_103 ⟨(Nat.le_of_ble_eq_true rfl), (Nat.le_of_ble_eq_true rfl)⟩) hP hD hS hA [6] [0, 1, 2, 3, 4, 5, 7, 8] rfl rfl rfl rfl (by decide) (fun _ => rfl) 4 9230 rfl rfl (fun r_18 u_19 H locs hw hP hD hS => ?_)
        obtain rfl : r_18 = 0 := hw
        have hP : va_P (dC, dI) vwCl [(p0, .inr (6, [.ref (p3 0), .int 0, .ref (p3 1), .ref (p3 14), .ref (p3 27), .ref (p3 28), .ref (p3 29), .ref (p3 30), .ref (p3 54), .ref (u_4 0), .int 1, .int 1, .int 999, .ref (p3 61), .ref (p3 62), .ref (p3 63), .ref (p3 60)])), ((p3 28), .inr (0, [.int 0, .int 0, .int 0, .int 0])), ((u_4 2), .inr (0, [.int 0, .int 0, .int 0, .int 0])), ((u_4 3), .inr (0, [.int 0, .int 0, .int 0, .int 0])), ((p3 12), .inl (cI, 3, .inl (fun _ => 0))), ((p3 11), .inl (cI, 3, .inl (fun _ => 0))), ((u_4 1), .inl (cI, 9216, .inl (upd (fun k => if 0 ≤ k ∧ k < 9 then 2147483647 else 0) 0 0))), ((p3 1), .inr (5, [.ref (p3 2), .ref (p3 3), .ref (p3 4), .ref (p3 5), .ref (p3 6), .ref (p3 7), .ref (p3 8), .ref (p3 9), .ref (p3 10), .ref (p3 11), .ref (p3 12), .ref (p3 13), .int 0, .int 0, .int 0, .int 0, .int 0, .int 100, .int 0, .int 0])), ((u_4 0), .inr (4, [.ref (u_4 1), .ref (u_4 2), .ref (u_4 3), .ref (p3 1), .int 1, .int 1]))] H := hP
        have hD : va_D A [(p0, .inr (6, [.ref (p3 0), .int 0, .ref (p3 1), .ref (p3 14), .ref (p3 27), .ref (p3 28), .ref (p3 29), .ref (p3 30), .ref (p3 54), .ref (u_4 0), .int 1, .int 1, .int 999, .ref (p3 61), .ref (p3 62), .ref (p3 63), .ref (p3 60)])), ((p3 28), .inr (0, [.int 0, .int 0, .int 0, .int 0])), ((u_4 2), .inr (0, [.int 0, .int 0, .int 0, .int 0])), ((u_4 3), .inr (0, [.int 0, .int 0, .int 0, .int 0])), ((p3 12), .inl (cI, 3, .inl (fun _ => 0))), ((p3 11), .inl (cI, 3, .inl (fun _ => 0))), ((u_4 1), .inl (cI, 9216, .inl (upd (fun k => if 0 ≤ k ∧ k < 9 then 2147483647 else 0) 0 0))), ((p3 1), .inr (5, [.ref (p3 2), .ref (p3 3), .ref (p3 4), .ref (p3 5), .ref (p3 6), .ref (p3 7), .ref (p3 8), .ref (p3 9), .ref (p3 10), .ref (p3 11), .ref (p3 12), .ref (p3 13), .int 0, .int 0, .int 0, .int 0, .int 0, .int 100, .int 0, .int 0])), ((u_4 0), .inr (4, [.ref (u_4 1), .ref (u_4 2), .ref (u_4 3), .ref (p3 1), .int 1, .int 1]))] := hD
        exact k_ri B hP hD hS dX6_most_106 (4, (fun k9 => match k9 with | 0 => (u_4 2) | 1 => (u_4 3) | 2 => (u_4 1) | 3 => (u_4 0) | _ => 0)) [0, 1, 7, 4, 5, 2, 3, 6, 8] rfl rfl rfl (Nat.le_of_ble_eq_true rfl) (Nat.le_of_ble_eq_true rfl) ⟨c_1, c_2, c_9, rfl⟩
      · refine lv_tableOut (tgt := 107) hx hb dX6_most_43 c_9 (by decide +kernel) ?_
        refine lv_iconst (v := (-1)) hx hb dX6_most_107 (by decide +kernel) ?_
        exact k_ri B hP hD hS dX6_most_108 (5, (fun k9 => match k9 with | 0 => (u_4 2) | 1 => (u_4 3) | 2 => (u_4 0) | 3 => (u_4 1) | _ => 0)) [0, 1, 8, 4, 5, 2, 3, 6, 7] rfl rfl rfl (Nat.le_of_ble_eq_true rfl) (Nat.le_of_ble_eq_true rfl) ⟨c_1, c_2, c_9, rfl⟩
    · have c_2 : 8 < p1.toInt := k_leF rfl (by decide +kernel) c_2
      refine lv_iconst (v := (-1)) hx hb dX6_most_10 (by decide +kernel) ?_
      exact k_ri B hP hD hS dX6_most_11 (6, (fun _ => 0)) [0, 1, 2, 3, 4] rfl rfl rfl (Nat.le_of_ble_eq_true rfl) (Nat.le_of_ble_eq_true rfl) ⟨c_1, c_2, rfl⟩
set_option maxHeartbeats 4000000 in
set_option maxRecDepth 100000 in
theorem c_X7_most_v0 (l : Launch) (dC : Nat → ClassId) (dI : Nat → Nat → Nat) (cI cJ cZ cM : ClassId) (p0 : Nat) (p1 : Int32) (p2 : Int32) (b_0 : -2147483648 ≤ p1.toInt) (t_0 : p1.toInt ≤ -1)  : k_Mi l yX7_most wsX7_most ({ frames := 2, cells := 0, slots := 0, locals := 62 }) (dC, dI) vwCl (tyy cI cJ cZ cM) [] [.ref p0, .int p1, .int p2] 0 0 (fun (u9 : Unit) => []) (fun (r9 : Int32) (u9 : Unit) => r9 = (-1)) := by
  refine fun sz => k_enter (cc := cX7_most) (maxL := 9) (ret := some (.int)) (Qc := fun A => va_Qi (fun (r9 : Int32) (u9 : Unit) => r9 = (-1)) (fun u => k_B (dC, dI) vwCl (tyy cI cJ cZ cM) A ((fun (u9 : Unit) => []) u)) A) sz (by decide +kernel) rfl (Nat.le_of_ble_eq_true rfl) (fun p e s m args below meth c A ls H locs B hP hD hS hl => ?_)
  obtain ⟨hx, hb, hml, hown, hts, hr, hlk, hnm, hK, hA, hN, hC⟩ := id B
  have hown : s.vm.findClass RX7 = some m.cls := hown
  have hl : lv_has ls 9 [(0, .ref p0), (1, .int p1), (2, .int p2)] := hl
  refine lv_iload_n hx hb dX7_most_0 rfl (lv_at hl 1 rfl) ?_
  refine lv_iconst (v := 0) hx hb dX7_most_1 (by decide +kernel) ?_
  refine lv_bipush (v := 8) hx hb dX7_most_2 (by decide +kernel) ?_
  refine k_ci (wc := []) (wr := []) (fun hPc hDc hFc => va_runS (As := [.int p1, .int 0, .int 8]) (rest := []) ⟨hx, hb, hml, hown, hts⟩ (c_X7_is_v5 l dC dI cI cJ cZ cM p1 (by omega) (by omega) H.size) (va_cwS 3 hts gX7_most_X7_is rfl rfl rfl (by decide +kernel) ⟨(Nat.le_of_ble_eq_true rfl), (Nat.le_of_ble_eq_true rfl)⟩) (k_pS hPc hDc hK hN hC hS hFc) rfl rfl hl.1 rfl (lv_room (Nat.le_of_ble_eq_true rfl)) dX7_most_4 ⟨(Nat.le_of_ble_eq_true rfl), (Nat.le_of_ble_eq_true rfl)⟩) hP hD hS hA [] [] rfl rfl rfl rfl (by decide) (fun _ => rfl) 0 0 rfl rfl (fun r_1 u_2 H locs hw hP hD hS => ?_)
  obtain rfl : r_1 = 0 := hw
  have hP : va_P (dC, dI) vwCl [] H := hP
  have hD : va_D A [] := hD
  refine lv_if_eq (tgt := 19) hx hb dX7_most_7 (by decide) (fun _ => ?_) (fun q9 => absurd q9 (by decide +kernel))
  refine lv_iconst (v := (-1)) hx hb dX7_most_19 (by decide +kernel) ?_
  exact k_ri B hP hD hS dX7_most_20 () [] rfl rfl rfl (Nat.le_of_ble_eq_true rfl) (Nat.le_of_ble_eq_true rfl) rfl
set_option maxHeartbeats 4000000 in
set_option maxRecDepth 100000 in
theorem c_X7_is_v20 (l : Launch) (dC : Nat → ClassId) (dI : Nat → Nat → Nat) (cI cJ cZ cM : ClassId) (p0 : Int32) (b_0 : 0 ≤ p0.toInt) (t_0 : p0.toInt ≤ 0)  : k_Mi l yX7_is wsX7_is ({ frames := 1, cells := 0, slots := 0, locals := 40 }) (dC, dI) vwCl (tyy cI cJ cZ cM) [] [.int p0, .int 0, .int 3] 0 0 (fun (u9 : Unit) => []) (fun (r9 : Int32) (u9 : Unit) => r9 = 1) := by
  refine fun sz => k_enter (cc := cX7_is) (maxL := 3) (ret := some (.boolean)) (Qc := fun A => va_Qi (fun (r9 : Int32) (u9 : Unit) => r9 = 1) (fun u => k_B (dC, dI) vwCl (tyy cI cJ cZ cM) A ((fun (u9 : Unit) => []) u)) A) sz (by decide +kernel) rfl (Nat.le_of_ble_eq_true rfl) (fun p e s m args below meth c A ls H locs B hP hD hS hl => ?_)
  obtain ⟨hx, hb, hml, hown, hts, hr, hlk, hnm, hK, hA, hN, hC⟩ := id B
  have hown : s.vm.findClass RX7 = some m.cls := hown
  have hl : lv_has ls 3 [(0, .int p0), (1, .int 0), (2, .int 3)] := hl
  rcases (show p0.toInt = 0 by omega) with c_1
  obtain rfl : p0 = 0 := k_eqL (by decide +kernel) c_1
  refine lv_iload_n hx hb dX7_is_0 rfl (lv_at hl 0 rfl) ?_
  refine lv_iload_n hx hb dX7_is_1 rfl (lv_at hl 1 rfl) ?_
  refine lv_icmp_lt (tgt := 14) hx hb dX7_is_2 (by decide) (fun q9 => absurd q9 (by decide +kernel)) (fun _ => ?_)
  refine lv_iload_n hx hb dX7_is_5 rfl (lv_at hl 0 rfl) ?_
  refine lv_iload_n hx hb dX7_is_6 rfl (lv_at hl 2 rfl) ?_
  refine lv_icmp_gt (tgt := 14) hx hb dX7_is_7 (by decide) (fun q9 => absurd q9 (by decide +kernel)) (fun _ => ?_)
  refine lv_iconst (v := 1) hx hb dX7_is_10 (by decide +kernel) ?_
  refine lv_goto (tgt := 15) hx hb dX7_is_11 (by decide) ?_
  exact k_ri B hP hD hS dX7_is_15 () [] rfl rfl rfl (Nat.le_of_ble_eq_true rfl) (Nat.le_of_ble_eq_true rfl) rfl
set_option maxHeartbeats 4000000 in
set_option maxRecDepth 100000 in
theorem c_X7_briefOnes_v2 (l : Launch) (dC : Nat → ClassId) (dI : Nat → Nat → Nat) (cI cJ cZ cM : ClassId) (p0 : Nat) (p1 : Nat → Nat)   : k_Mi l yX7_briefOnes wsX7_briefOnes ({ frames := 1, cells := 0, slots := 0, locals := 40 }) (dC, dI) vwCl (tyy cI cJ cZ cM) [(p0, .inr (7, oM p1 i7 j7)), ((p1 14), .inl (cI, 2, .inl (fun _ => 0)))] [.ref p0] 0 0 (fun (u9 : Unit) => [(p0, .inr (7, oM p1 i7 j7)), ((p1 14), .inl (cI, 2, .inl (fun _ => 0)))]) (fun (r9 : Int32) (u9 : Unit) => r9 = 0) := by
  refine fun sz => k_enter (cc := cX7_briefOnes) (maxL := 3) (ret := some (.int)) (Qc := fun A => va_Qi (fun (r9 : Int32) (u9 : Unit) => r9 = 0) (fun u => k_B (dC, dI) vwCl (tyy cI cJ cZ cM) A ((fun (u9 : Unit) => [(p0, .inr (7, oM p1 i7 j7)), ((p1 14), .inl (cI, 2, .inl (fun _ => 0)))]) u)) A) sz (by decide +kernel) rfl (Nat.le_of_ble_eq_true rfl) (fun p e s m args below meth c A ls H locs B hP hD hS hl => ?_)
  obtain ⟨hx, hb, hml, hown, hts, hr, hlk, hnm, hK, hA, hN, hC⟩ := id B
  have hown : s.vm.findClass RX7 = some m.cls := hown
  have hl : lv_has ls 3 [(0, .ref p0)] := hl
  have w_0 : (Cond.fieldLink RX7 54 "WishSeaModel" "things" "[I").before args s = true := hts _ (List.mem_of_getElem? (i := 1) rfl)
  have w_1 : (Cond.fieldLink RX7 51 "WishSeaModel" "bank" "I").before args s = true := hts _ (List.mem_of_getElem? (i := 2) rfl)
  have hinX7 : ∀ w ∈ u_ws RX7 TX7 92, w ∈ wsX7_briefOnes := fun _ h => List.mem_cons_of_mem _ (List.mem_append_right _ h)
  refine lv_iconst (v := 0) hx hb dX7_briefOnes_0 (by decide +kernel) ?_
  refine lv_istore_n (lv' := [(1, .int 0), (0, .ref p0)]) hx hb dX7_briefOnes_1 rfl hl (by decide) rfl (fun ls hl => ?_)
  refine lv_iconst (v := 0) hx hb dX7_briefOnes_2 (by decide +kernel) ?_
  refine lv_istore_n (lv' := [(2, .int 0), (1, .int 0), (0, .ref p0)]) hx hb dX7_briefOnes_3 rfl hl (by decide) rfl (fun ls hl => ?_)
  refine lv_iload_n hx hb dX7_briefOnes_4 rfl (lv_at hl 0 rfl) ?_
  refine lv_aload_n hx hb dX7_briefOnes_5 rfl (lv_at hl 2 rfl) ?_
  refine k_get (D := (dC, dI)) (ci := 7) (v := .ref (p1 14)) (C := RX7) (T := TX7) (N := 92) hx hb hts hinX7 hown hK hP 0 rfl rfl 14 (by decide) w_0 rfl rfl dX7_briefOnes_6 ?_
  refine lv_aload_n hx hb dX7_briefOnes_9 rfl (lv_at hl 2 rfl) ?_
  refine k_get (D := (dC, dI)) (ci := 7) (v := .int 0) (C := RX7) (T := TX7) (N := 92) hx hb hts hinX7 hown hK hP 0 rfl rfl 13 (by decide) w_1 rfl rfl dX7_briefOnes_10 ?_
  refine k_iald (v := 0) hx hb hK hP 1 0 0 rfl rfl rfl (Nat.le_of_ble_eq_true rfl) (Nat.le_of_ble_eq_true rfl) rfl dX7_briefOnes_13 ?_
  refine lv_icmp_ge (tgt := 42) hx hb dX7_briefOnes_14 (by decide) (fun _ => ?_) (fun q9 => absurd q9 (by decide +kernel))
  refine lv_iload_n hx hb dX7_briefOnes_42 rfl (lv_at hl 1 rfl) ?_
  exact k_ri B hP hD hS dX7_briefOnes_43 () [0, 1] rfl rfl rfl (Nat.le_of_ble_eq_true rfl) (Nat.le_of_ble_eq_true rfl) rfl
set_option maxHeartbeats 4000000 in
set_option maxRecDepth 100000 in
theorem c_X7_worthOf_v1 (l : Launch) (dC : Nat → ClassId) (dI : Nat → Nat → Nat) (cI cJ cZ cM : ClassId) (p0 : Nat) (p1 : Nat → Nat)   : k_Mi l yX7_worthOf wsX7_worthOf ({ frames := 1, cells := 0, slots := 0, locals := 40 }) (dC, dI) vwCl (tyy cI cJ cZ cM) [(p0, .inr (7, oM p1 (upd i7 75 (-1)) j7)), ((p1 14), .inl (cI, 2, .inl (fun _ => 0)))] [.ref p0, .int 0] 0 0 (fun (u9 : Unit) => [(p0, .inr (7, oM p1 (upd i7 75 (-1)) j7)), ((p1 14), .inl (cI, 2, .inl (fun _ => 0)))]) (fun (r9 : Int32) (u9 : Unit) => r9 = 0) := by
  refine fun sz => k_enter (cc := cX7_worthOf) (maxL := 4) (ret := some (.int)) (Qc := fun A => va_Qi (fun (r9 : Int32) (u9 : Unit) => r9 = 0) (fun u => k_B (dC, dI) vwCl (tyy cI cJ cZ cM) A ((fun (u9 : Unit) => [(p0, .inr (7, oM p1 (upd i7 75 (-1)) j7)), ((p1 14), .inl (cI, 2, .inl (fun _ => 0)))]) u)) A) sz (by decide +kernel) rfl (Nat.le_of_ble_eq_true rfl) (fun p e s m args below meth c A ls H locs B hP hD hS hl => ?_)
  obtain ⟨hx, hb, hml, hown, hts, hr, hlk, hnm, hK, hA, hN, hC⟩ := id B
  have hown : s.vm.findClass RX7 = some m.cls := hown
  have hl : lv_has ls 4 [(0, .ref p0), (1, .int 0)] := hl
  have w_0 : (Cond.fieldLink RX7 54 "WishSeaModel" "things" "[I").before args s = true := hts _ (List.mem_of_getElem? (i := 1) rfl)
  have w_1 : (Cond.fieldLink RX7 51 "WishSeaModel" "bank" "I").before args s = true := hts _ (List.mem_of_getElem? (i := 2) rfl)
  have hinX7 : ∀ w ∈ u_ws RX7 TX7 92, w ∈ wsX7_worthOf := fun _ h => List.mem_cons_of_mem _ (List.mem_append_right _ h)
  refine lv_iconst (v := 0) hx hb dX7_worthOf_0 (by decide +kernel) ?_
  refine lv_istore_n (lv' := [(2, .int 0), (0, .ref p0), (1, .int 0)]) hx hb dX7_worthOf_1 rfl hl (by decide) rfl (fun ls hl => ?_)
  refine lv_iconst (v := 0) hx hb dX7_worthOf_2 (by decide +kernel) ?_
  refine lv_istore_n (lv' := [(3, .int 0), (2, .int 0), (0, .ref p0), (1, .int 0)]) hx hb dX7_worthOf_3 rfl hl (by decide) rfl (fun ls hl => ?_)
  refine lv_iload_n hx hb dX7_worthOf_4 rfl (lv_at hl 0 rfl) ?_
  refine lv_aload_n hx hb dX7_worthOf_5 rfl (lv_at hl 2 rfl) ?_
  refine k_get (D := (dC, dI)) (ci := 7) (v := .ref (p1 14)) (C := RX7) (T := TX7) (N := 92) hx hb hts hinX7 hown hK hP 0 rfl rfl 14 (by decide) w_0 rfl rfl dX7_worthOf_6 ?_
  refine lv_aload_n hx hb dX7_worthOf_9 rfl (lv_at hl 2 rfl) ?_
  refine k_get (D := (dC, dI)) (ci := 7) (v := .int 0) (C := RX7) (T := TX7) (N := 92) hx hb hts hinX7 hown hK hP 0 rfl rfl 13 (by decide) w_1 rfl rfl dX7_worthOf_10 ?_
  refine k_iald (v := 0) hx hb hK hP 1 0 0 rfl rfl rfl (Nat.le_of_ble_eq_true rfl) (Nat.le_of_ble_eq_true rfl) rfl dX7_worthOf_13 ?_
  refine lv_icmp_ge (tgt := 52) hx hb dX7_worthOf_14 (by decide) (fun _ => ?_) (fun q9 => absurd q9 (by decide +kernel))
  refine lv_iload_n hx hb dX7_worthOf_52 rfl (lv_at hl 1 rfl) ?_
  exact k_ri B hP hD hS dX7_worthOf_53 () [0, 1] rfl rfl rfl (Nat.le_of_ble_eq_true rfl) (Nat.le_of_ble_eq_true rfl) rfl
set_option maxHeartbeats 4000000 in
set_option maxRecDepth 100000 in
theorem c_X7_most_v1 (l : Launch) (dC : Nat → ClassId) (dI : Nat → Nat → Nat) (cI cJ cZ cM : ClassId) (p0 : Nat) (p1 : Int32) (p2 : Int32) (p3 : Nat → Nat) (b_0 : 0 ≤ p1.toInt) (t_0 : p1.toInt ≤ 8) (b_1 : 0 ≤ p2.toInt) (t_1 : p2.toInt ≤ 0)  : k_Mi l yX7_most wsX7_most ({ frames := 3, cells := 0, slots := 0, locals := 88 }) (dC, dI) vwCl (tyy cI cJ cZ cM) [(p0, .inr (7, oM p3 i7 j7)), ((p3 49), .inl (cI, 22, .inl (fun _ => 0))), ((p3 50), .inl (cI, 22, .inl (fun _ => 0))), ((p3 72), .inl (cI, 9216, .inl (fun _ => 0))), ((p3 14), .inl (cI, 2, .inl (fun _ => 0))), ((p3 18), .inl (cI, 2, .inl (fun _ => 0)))] [.ref p0, .int p1, .int p2] 0 0 (fun (u9 : Unit) => [(p0, .inr (7, oM p3 (upd (upd i7 75 0) 76 0) j7)), ((p3 49), .inl (cI, 22, .inl (fun _ => 0))), ((p3 50), .inl (cI, 22, .inl (fun _ => 0))), ((p3 72), .inl (cI, 9216, .inl (upd (fun _ => (-1)) 0 0))), ((p3 14), .inl (cI, 2, .inl (fun _ => 0))), ((p3 18), .inl (cI, 2, .inl (fun _ => 0)))]) (fun (r9 : Int32) (u9 : Unit) => r9 = 0) := by
  refine fun sz => k_enter (cc := cX7_most) (maxL := 9) (ret := some (.int)) (Qc := fun A => va_Qi (fun (r9 : Int32) (u9 : Unit) => r9 = 0) (fun u => k_B (dC, dI) vwCl (tyy cI cJ cZ cM) A ((fun (u9 : Unit) => [(p0, .inr (7, oM p3 (upd (upd i7 75 0) 76 0) j7)), ((p3 49), .inl (cI, 22, .inl (fun _ => 0))), ((p3 50), .inl (cI, 22, .inl (fun _ => 0))), ((p3 72), .inl (cI, 9216, .inl (upd (fun _ => (-1)) 0 0))), ((p3 14), .inl (cI, 2, .inl (fun _ => 0))), ((p3 18), .inl (cI, 2, .inl (fun _ => 0)))]) u)) A) sz (by decide +kernel) rfl (Nat.le_of_ble_eq_true rfl) (fun p e s m args below meth c A ls H locs B hP hD hS hl => ?_)
  obtain ⟨hx, hb, hml, hown, hts, hr, hlk, hnm, hK, hA, hN, hC⟩ := id B
  have hown : s.vm.findClass RX7 = some m.cls := hown
  have hl : lv_has ls 9 [(0, .ref p0), (1, .int p1), (2, .int p2)] := hl
  have w_0 : (Cond.fieldLink RX7 240 "WishSeaModel" "foundRung" "I").before args s = true := hts _ (List.mem_of_getElem? (i := 1) rfl)
  have w_1 : (Cond.fieldLink RX7 54 "WishSeaModel" "things" "[I").before args s = true := hts _ (List.mem_of_getElem? (i := 2) rfl)
  have w_2 : (Cond.fieldLink RX7 51 "WishSeaModel" "bank" "I").before args s = true := hts _ (List.mem_of_getElem? (i := 3) rfl)
  have w_3 : (Cond.fieldLink RX7 231 "WishSeaModel" "rungSea" "[I").before args s = true := hts _ (List.mem_of_getElem? (i := 4) rfl)
  have w_4 : (Cond.fieldLink RX7 243 "WishSeaModel" "foundSet" "I").before args s = true := hts _ (List.mem_of_getElem? (i := 5) rfl)
  have hinX7 : ∀ w ∈ u_ws RX7 TX7 92, w ∈ wsX7_most := fun _ h => List.mem_cons_of_mem _ (List.mem_append_right _ h)
  rcases (show p1.toInt = 0 ∨ p1.toInt = 1 ∨ p1.toInt = 2 ∨ p1.toInt = 3 ∨ p1.toInt = 4 ∨ p1.toInt = 5 ∨ p1.toInt = 6 ∨ p1.toInt = 7 ∨ p1.toInt = 8 by omega) with c_1 | c_1 | c_1 | c_1 | c_1 | c_1 | c_1 | c_1 | c_1
  · obtain rfl : p1 = 0 := k_eqL (by decide +kernel) c_1
    refine lv_iload_n hx hb dX7_most_0 rfl (lv_at hl 1 rfl) ?_
    refine lv_iconst (v := 0) hx hb dX7_most_1 (by decide +kernel) ?_
    refine lv_bipush (v := 8) hx hb dX7_most_2 (by decide +kernel) ?_
    refine k_ci (wc := []) (wr := [(p0, .inr (7, oM p3 i7 j7)), ((p3 49), .inl (cI, 22, .inl (fun _ => 0))), ((p3 50), .inl (cI, 22, .inl (fun _ => 0))), ((p3 72), .inl (cI, 9216, .inl (fun _ => 0))), ((p3 14), .inl (cI, 2, .inl (fun _ => 0))), ((p3 18), .inl (cI, 2, .inl (fun _ => 0)))]) (fun hPc hDc hFc => va_runS (As := [.int 0, .int 0, .int 8]) (rest := []) ⟨hx, hb, hml, hown, hts⟩ (c_X7_is_v6 l dC dI cI cJ cZ cM H.size) (va_cwS 3 hts gX7_most_X7_is rfl rfl rfl (by decide +kernel) ⟨(Nat.le_of_ble_eq_true rfl), (Nat.le_of_ble_eq_true rfl)⟩) (k_pS hPc hDc hK hN hC hS hFc) rfl rfl hl.1 rfl (lv_room (Nat.le_of_ble_eq_true rfl)) dX7_most_4 ⟨(Nat.le_of_ble_eq_true rfl), (Nat.le_of_ble_eq_true rfl)⟩) hP hD hS hA [] [0, 1, 2, 3, 4, 5] rfl rfl rfl rfl (by decide) (fun _ => rfl) 0 0 rfl rfl (fun r_2 u_3 H locs hw hP hD hS => ?_)
    obtain rfl : r_2 = 1 := hw
    have hP : va_P (dC, dI) vwCl [(p0, .inr (7, oM p3 i7 j7)), ((p3 49), .inl (cI, 22, .inl (fun _ => 0))), ((p3 50), .inl (cI, 22, .inl (fun _ => 0))), ((p3 72), .inl (cI, 9216, .inl (fun _ => 0))), ((p3 14), .inl (cI, 2, .inl (fun _ => 0))), ((p3 18), .inl (cI, 2, .inl (fun _ => 0)))] H := hP
    have hD : va_D A [(p0, .inr (7, oM p3 i7 j7)), ((p3 49), .inl (cI, 22, .inl (fun _ => 0))), ((p3 50), .inl (cI, 22, .inl (fun _ => 0))), ((p3 72), .inl (cI, 9216, .inl (fun _ => 0))), ((p3 14), .inl (cI, 2, .inl (fun _ => 0))), ((p3 18), .inl (cI, 2, .inl (fun _ => 0)))] := hD
    refine lv_if_eq (tgt := 19) hx hb dX7_most_7 (by decide) (fun q9 => absurd q9 (by decide +kernel)) (fun _ => ?_)
    refine lv_iload_n hx hb dX7_most_10 rfl (lv_at hl 2 rfl) ?_
    refine lv_iconst (v := 0) hx hb dX7_most_11 (by decide +kernel) ?_
    refine lv_iconst (v := 3) hx hb dX7_most_12 (by decide +kernel) ?_
    refine k_ci (wc := []) (wr := [(p0, .inr (7, oM p3 i7 j7)), ((p3 49), .inl (cI, 22, .inl (fun _ => 0))), ((p3 50), .inl (cI, 22, .inl (fun _ => 0))), ((p3 72), .inl (cI, 9216, .inl (fun _ => 0))), ((p3 14), .inl (cI, 2, .inl (fun _ => 0))), ((p3 18), .inl (cI, 2, .inl (fun _ => 0)))]) (fun hPc hDc hFc => va_runS (As := [.int p2, .int 0, .int 3]) (rest := []) ⟨hx, hb, hml, hown, hts⟩ (c_X7_is_v20 l dC dI cI cJ cZ cM p2 (by omega) (by omega) H.size) (va_cwS 3 hts gX7_most_X7_is rfl rfl rfl (by decide +kernel) ⟨(Nat.le_of_ble_eq_true rfl), (Nat.le_of_ble_eq_true rfl)⟩) (k_pS hPc hDc hK hN hC hS hFc) rfl rfl hl.1 rfl (lv_room (Nat.le_of_ble_eq_true rfl)) dX7_most_13 ⟨(Nat.le_of_ble_eq_true rfl), (Nat.le_of_ble_eq_true rfl)⟩) hP hD hS hA [] [0, 1, 2, 3, 4, 5] rfl rfl rfl rfl (by decide) (fun _ => rfl) 0 0 rfl rfl (fun r_4 u_5 H locs hw hP hD hS => ?_)
    obtain rfl : r_4 = 1 := hw
    have hP : va_P (dC, dI) vwCl [(p0, .inr (7, oM p3 i7 j7)), ((p3 49), .inl (cI, 22, .inl (fun _ => 0))), ((p3 50), .inl (cI, 22, .inl (fun _ => 0))), ((p3 72), .inl (cI, 9216, .inl (fun _ => 0))), ((p3 14), .inl (cI, 2, .inl (fun _ => 0))), ((p3 18), .inl (cI, 2, .inl (fun _ => 0)))] H := hP
    have hD : va_D A [(p0, .inr (7, oM p3 i7 j7)), ((p3 49), .inl (cI, 22, .inl (fun _ => 0))), ((p3 50), .inl (cI, 22, .inl (fun _ => 0))), ((p3 72), .inl (cI, 9216, .inl (fun _ => 0))), ((p3 14), .inl (cI, 2, .inl (fun _ => 0))), ((p3 18), .inl (cI, 2, .inl (fun _ => 0)))] := hD
    refine lv_if_ne (tgt := 21) hx hb dX7_most_16 (by decide) (fun _ => ?_) (fun q9 => absurd q9 (by decide +kernel))
    refine lv_aload_n hx hb dX7_most_21 rfl (lv_at hl 0 rfl) ?_
    refine k_cv (wc := [(p0, .inr (7, oM p3 i7 j7)), ((p3 49), .inl (cI, 22, .inl (fun _ => 0))), ((p3 50), .inl (cI, 22, .inl (fun _ => 0))), ((p3 72), .inl (cI, 9216, .inl (fun _ => 0))), ((p3 14), .inl (cI, 2, .inl (fun _ => 0))), ((p3 18), .inl (cI, 2, .inl (fun _ => 0)))]) (wr := []) (fun hPc hDc hFc => va_runV (As := []) (rest := []) ⟨hx, hb, hml, hown, hts⟩ (c_X7_climbs_v0 l dC dI cI cJ cZ cM p0 p3 H.size) (cwV 0 hts gX7_most_X7_climbs rfl rfl rfl (by decide +kernel) ⟨(Nat.le_of_ble_eq_true rfl), (Nat.le_of_ble_eq_true rfl)⟩) (k_pV hPc hDc hK hN hC hS hFc hP (q0 := 0) (ci := 7) rfl rfl) rfl rfl hl.1 rfl (lv_room (Nat.le_of_ble_eq_true rfl)) dX7_most_22 ⟨(Nat.le_of_ble_eq_true rfl), (Nat.le_of_ble_eq_true rfl)⟩) hP hD hS hA [0, 1, 2, 3, 4, 5] [] rfl rfl rfl rfl (by decide) (fun _ => rfl) 0 0 rfl rfl (fun u_7 H locs hw hP hD hS => ?_)
    have hP : va_P (dC, dI) vwCl [(p0, .inr (7, oM p3 i7 j7)), ((p3 49), .inl (cI, 22, .inl (fun _ => 0))), ((p3 50), .inl (cI, 22, .inl (fun _ => 0))), ((p3 72), .inl (cI, 9216, .inl (upd (fun _ => (-1)) 0 0))), ((p3 14), .inl (cI, 2, .inl (fun _ => 0))), ((p3 18), .inl (cI, 2, .inl (fun _ => 0)))] H := hP
    have hD : va_D A [(p0, .inr (7, oM p3 i7 j7)), ((p3 49), .inl (cI, 22, .inl (fun _ => 0))), ((p3 50), .inl (cI, 22, .inl (fun _ => 0))), ((p3 72), .inl (cI, 9216, .inl (upd (fun _ => (-1)) 0 0))), ((p3 14), .inl (cI, 2, .inl (fun _ => 0))), ((p3 18), .inl (cI, 2, .inl (fun _ => 0)))] := hD
    refine lv_aload_n hx hb dX7_most_25 rfl (lv_at hl 0 rfl) ?_
    refine k_ci (wc := [(p0, .inr (7, oM p3 i7 j7)), ((p3 14), .inl (cI, 2, .inl (fun _ => 0)))]) (wr := [((p3 49), .inl (cI, 22, .inl (fun _ => 0))), ((p3 50), .inl (cI, 22, .inl (fun _ => 0))), ((p3 72), .inl (cI, 9216, .inl (upd (fun _ => (-1)) 0 0))), ((p3 18), .inl (cI, 2, .inl (fun _ => 0)))]) (fun hPc hDc hFc => va_runV (As := []) (rest := []) ⟨hx, hb, hml, hown, hts⟩ (c_X7_briefOnes_v2 l dC dI cI cJ cZ cM p0 p3 H.size) (cwV 0 hts gX7_most_X7_briefOnes rfl rfl rfl (by decide +kernel) ⟨(Nat.le_of_ble_eq_true rfl), (Nat.le_of_ble_eq_true rfl)⟩) (k_pV hPc hDc hK hN hC hS hFc hP (q0 := 0) (ci := 7) rfl rfl) rfl rfl hl.1 rfl (lv_room (Nat.le_of_ble_eq_true rfl)) dX7_most_26 ⟨(Nat.le_of_ble_eq_true rfl), (Nat.le_of_ble_eq_true rfl)⟩) hP hD hS hA [0, 4] [1, 2, 3, 5] rfl rfl rfl rfl (by decide) (fun _ => rfl) 0 0 rfl rfl (fun r_8 u_9 H locs hw hP hD hS => ?_)
    obtain rfl : r_8 = 0 := hw
    have hP : va_P (dC, dI) vwCl [((p3 49), .inl (cI, 22, .inl (fun _ => 0))), ((p3 50), .inl (cI, 22, .inl (fun _ => 0))), ((p3 72), .inl (cI, 9216, .inl (upd (fun _ => (-1)) 0 0))), ((p3 18), .inl (cI, 2, .inl (fun _ => 0))), (p0, .inr (7, oM p3 i7 j7)), ((p3 14), .inl (cI, 2, .inl (fun _ => 0)))] H := hP
    have hD : va_D A [((p3 49), .inl (cI, 22, .inl (fun _ => 0))), ((p3 50), .inl (cI, 22, .inl (fun _ => 0))), ((p3 72), .inl (cI, 9216, .inl (upd (fun _ => (-1)) 0 0))), ((p3 18), .inl (cI, 2, .inl (fun _ => 0))), (p0, .inr (7, oM p3 i7 j7)), ((p3 14), .inl (cI, 2, .inl (fun _ => 0)))] := hD
    refine lv_iconst (v := (-1)) hx hb dX7_most_29 (by decide +kernel) ?_
    refine lv_ixor hx hb dX7_most_30 ?_
    refine k_int (v := (-1)) (by decide +kernel) ?_
    refine lv_istore_n (lv' := [(3, .int (-1)), (0, .ref p0), (1, .int 0), (2, .int p2)]) hx hb dX7_most_31 rfl hl (by decide) rfl (fun ls hl => ?_)
    refine lv_aload_n hx hb dX7_most_32 rfl (lv_at hl 1 rfl) ?_
    refine lv_iconst (v := (-1)) hx hb dX7_most_33 (by decide +kernel) ?_
    refine k_put (D := (dC, dI)) (ci := 7) (v := .int (-1)) (C := RX7) (T := TX7) (N := 92) (ws' := [((p3 49), .inl (cI, 22, .inl (fun _ => 0))), ((p3 50), .inl (cI, 22, .inl (fun _ => 0))), ((p3 72), .inl (cI, 9216, .inl (upd (fun _ => (-1)) 0 0))), ((p3 18), .inl (cI, 2, .inl (fun _ => 0))), (p0, .inr (7, oM p3 (upd i7 75 (-1)) j7)), ((p3 14), .inl (cI, 2, .inl (fun _ => 0)))]) hx hb hts hinX7 tyX7 tyX7_ok nmX7 hown hK hP hD hS 4 rfl rfl 75 (by decide) w_0 rfl rfl rfl rfl (Nat.le_of_ble_eq_true rfl) rfl dX7_most_34 (fun H locs hP hD hS => ?_)
    refine lv_iconst (v := (-1)) hx hb dX7_most_37 (by decide +kernel) ?_
    refine lv_istore (lv' := [(4, .int (-1)), (3, .int (-1)), (0, .ref p0), (1, .int 0), (2, .int p2)]) hx hb dX7_most_38 hl (by decide) rfl (fun ls hl => ?_)
    refine lv_iconst (v := 0) hx hb dX7_most_40 (by decide +kernel) ?_
    refine lv_istore (lv' := [(5, .int 0), (4, .int (-1)), (3, .int (-1)), (0, .ref p0), (1, .int 0), (2, .int p2)]) hx hb dX7_most_41 hl (by decide) rfl (fun ls hl => ?_)
    refine lv_iload hx hb dX7_most_43 (lv_at hl 0 rfl) ?_
    refine lv_iload_n hx hb dX7_most_45 rfl (lv_at hl 4 rfl) ?_
    refine lv_icmp_gt (tgt := 166) hx hb dX7_most_46 (by decide) (fun q9 => absurd q9 (by decide +kernel)) (fun _ => ?_)
    refine lv_iconst (v := 0) hx hb dX7_most_49 (by decide +kernel) ?_
    refine lv_istore (lv' := [(6, .int 0), (5, .int 0), (4, .int (-1)), (3, .int (-1)), (0, .ref p0), (1, .int 0), (2, .int p2)]) hx hb dX7_most_50 hl (by decide) rfl (fun ls hl => ?_)
    refine lv_iload hx hb dX7_most_52 (lv_at hl 0 rfl) ?_
    refine lv_iconst (v := 1) hx hb dX7_most_54 (by decide +kernel) ?_
    refine lv_aload_n hx hb dX7_most_55 rfl (lv_at hl 4 rfl) ?_
    refine k_get (D := (dC, dI)) (ci := 7) (v := .ref (p3 14)) (C := RX7) (T := TX7) (N := 92) hx hb hts hinX7 hown hK hP 4 rfl rfl 14 (by decide) w_1 rfl rfl dX7_most_56 ?_
    refine lv_aload_n hx hb dX7_most_59 rfl (lv_at hl 4 rfl) ?_
    refine k_get (D := (dC, dI)) (ci := 7) (v := .int 0) (C := RX7) (T := TX7) (N := 92) hx hb hts hinX7 hown hK hP 4 rfl rfl 13 (by decide) w_2 rfl rfl dX7_most_60 ?_
    refine k_iald (v := 0) hx hb hK hP 5 0 0 rfl rfl rfl (Nat.le_of_ble_eq_true rfl) (Nat.le_of_ble_eq_true rfl) rfl dX7_most_63 ?_
    refine lv_ishl hx hb dX7_most_64 ?_
    refine k_int (v := 1) (by decide +kernel) ?_
    refine lv_icmp_ge (tgt := 160) hx hb dX7_most_65 (by decide) (fun q9 => absurd q9 (by decide +kernel)) (fun _ => ?_)
    refine lv_aload_n hx hb dX7_most_68 rfl (lv_at hl 4 rfl) ?_
    refine k_get (D := (dC, dI)) (ci := 7) (v := .ref (p3 72)) (C := RX7) (T := TX7) (N := 92) hx hb hts hinX7 hown hK hP 4 rfl rfl 72 (by decide) w_3 rfl rfl dX7_most_69 ?_
    refine lv_sipush (v := 1024) hx hb dX7_most_72 (by decide +kernel) ?_
    refine lv_iload hx hb dX7_most_75 (lv_at hl 1 rfl) ?_
    refine lv_imul hx hb dX7_most_77 ?_
    refine k_int (v := 0) (by decide +kernel) ?_
    refine lv_iload hx hb dX7_most_78 (lv_at hl 0 rfl) ?_
    refine lv_iadd hx hb dX7_most_80 ?_
    refine k_int (v := 0) (by decide +kernel) ?_
    refine k_iald (v := 0) hx hb hK hP 2 0 0 rfl rfl rfl (Nat.le_of_ble_eq_true rfl) (Nat.le_of_ble_eq_true rfl) rfl dX7_most_81 ?_
    refine lv_istore (lv' := [(7, .int 0), (6, .int 0), (5, .int 0), (4, .int (-1)), (3, .int (-1)), (0, .ref p0), (1, .int 0), (2, .int p2)]) hx hb dX7_most_82 hl (by decide) rfl (fun ls hl => ?_)
    refine lv_iload hx hb dX7_most_84 (lv_at hl 0 rfl) ?_
    refine lv_iconst (v := (-1)) hx hb dX7_most_86 (by decide +kernel) ?_
    refine lv_icmp_ne (tgt := 93) hx hb dX7_most_87 (by decide) (fun _ => ?_) (fun q9 => absurd q9 (by decide +kernel))
    refine lv_aload_n hx hb dX7_most_93 rfl (lv_at hl 5 rfl) ?_
    refine lv_iload hx hb dX7_most_94 (lv_at hl 1 rfl) ?_
    refine lv_iload_n hx hb dX7_most_96 rfl (lv_at hl 4 rfl) ?_
    refine lv_iand hx hb dX7_most_97 ?_
    refine k_int (v := 0) (by decide +kernel) ?_
    refine k_ci (wc := [(p0, .inr (7, oM p3 (upd i7 75 (-1)) j7)), ((p3 14), .inl (cI, 2, .inl (fun _ => 0)))]) (wr := [((p3 49), .inl (cI, 22, .inl (fun _ => 0))), ((p3 50), .inl (cI, 22, .inl (fun _ => 0))), ((p3 72), .inl (cI, 9216, .inl (upd (fun _ => (-1)) 0 0))), ((p3 18), .inl (cI, 2, .inl (fun _ => 0)))]) (fun hPc hDc hFc => va_runV (As := [.int 0]) (rest := []) ⟨hx, hb, hml, hown, hts⟩ (c_X7_worthOf_v1 l dC dI cI cJ cZ cM p0 p3 H.size) (cwV 1 hts gX7_most_X7_worthOf rfl rfl rfl (by decide +kernel) ⟨(Nat.le_of_ble_eq_true rfl), (Nat.le_of_ble_eq_true rfl)⟩) (k_pV hPc hDc hK hN hC hS hFc hP (q0 := 4) (ci := 7) rfl rfl) rfl rfl hl.1 rfl (lv_room (Nat.le_of_ble_eq_true rfl)) dX7_most_98 ⟨(Nat.le_of_ble_eq_true rfl), (Nat.le_of_ble_eq_true rfl)⟩) hP hD hS hA [4, 5] [0, 1, 2, 3] rfl rfl rfl rfl (by decide) (fun _ => rfl) 0 0 rfl rfl (fun r_10 u_11 H locs hw hP hD hS => ?_)
    obtain rfl : r_10 = 0 := hw
    have hP : va_P (dC, dI) vwCl [((p3 49), .inl (cI, 22, .inl (fun _ => 0))), ((p3 50), .inl (cI, 22, .inl (fun _ => 0))), ((p3 72), .inl (cI, 9216, .inl (upd (fun _ => (-1)) 0 0))), ((p3 18), .inl (cI, 2, .inl (fun _ => 0))), (p0, .inr (7, oM p3 (upd i7 75 (-1)) j7)), ((p3 14), .inl (cI, 2, .inl (fun _ => 0)))] H := hP
    have hD : va_D A [((p3 49), .inl (cI, 22, .inl (fun _ => 0))), ((p3 50), .inl (cI, 22, .inl (fun _ => 0))), ((p3 72), .inl (cI, 9216, .inl (upd (fun _ => (-1)) 0 0))), ((p3 18), .inl (cI, 2, .inl (fun _ => 0))), (p0, .inr (7, oM p3 (upd i7 75 (-1)) j7)), ((p3 14), .inl (cI, 2, .inl (fun _ => 0)))] := hD
    refine lv_istore (lv' := [(8, .int 0), (7, .int 0), (6, .int 0), (5, .int 0), (4, .int (-1)), (3, .int (-1)), (0, .ref p0), (1, .int 0), (2, .int p2)]) hx hb dX7_most_101 hl (by decide) rfl (fun ls hl => ?_)
    refine lv_iload hx hb dX7_most_103 (lv_at hl 0 rfl) ?_
    refine lv_iload hx hb dX7_most_105 (lv_at hl 4 rfl) ?_
    refine lv_icmp_lt (tgt := 154) hx hb dX7_most_107 (by decide) (fun q9 => absurd q9 (by decide +kernel)) (fun _ => ?_)
    refine lv_iload hx hb dX7_most_110 (lv_at hl 0 rfl) ?_
    refine lv_iload hx hb dX7_most_112 (lv_at hl 4 rfl) ?_
    refine lv_icmp_ne (tgt := 138) hx hb dX7_most_114 (by decide) (fun _ => ?_) (fun q9 => absurd q9 (by decide +kernel))
    refine lv_iload hx hb dX7_most_138 (lv_at hl 0 rfl) ?_
    refine lv_istore (lv' := [(4, .int 0), (8, .int 0), (7, .int 0), (6, .int 0), (5, .int 0), (3, .int (-1)), (0, .ref p0), (1, .int 0), (2, .int p2)]) hx hb dX7_most_140 hl (by decide) rfl (fun ls hl => ?_)
    refine lv_aload_n hx hb dX7_most_142 rfl (lv_at hl 6 rfl) ?_
    refine lv_iload hx hb dX7_most_143 (lv_at hl 4 rfl) ?_
    refine k_put (D := (dC, dI)) (ci := 7) (v := .int 0) (C := RX7) (T := TX7) (N := 92) (ws' := [((p3 49), .inl (cI, 22, .inl (fun _ => 0))), ((p3 50), .inl (cI, 22, .inl (fun _ => 0))), ((p3 72), .inl (cI, 9216, .inl (upd (fun _ => (-1)) 0 0))), ((p3 18), .inl (cI, 2, .inl (fun _ => 0))), (p0, .inr (7, oM p3 (upd i7 75 0) j7)), ((p3 14), .inl (cI, 2, .inl (fun _ => 0)))]) hx hb hts hinX7 tyX7 tyX7_ok nmX7 hown hK hP hD hS 4 rfl rfl 75 (by decide) w_0 rfl rfl rfl rfl (Nat.le_of_ble_eq_true rfl) rfl dX7_most_145 (fun H locs hP hD hS => ?_)
    refine lv_aload_n hx hb dX7_most_148 rfl (lv_at hl 6 rfl) ?_
    refine lv_iload hx hb dX7_most_149 (lv_at hl 3 rfl) ?_
    refine k_put (D := (dC, dI)) (ci := 7) (v := .int 0) (C := RX7) (T := TX7) (N := 92) (ws' := [((p3 49), .inl (cI, 22, .inl (fun _ => 0))), ((p3 50), .inl (cI, 22, .inl (fun _ => 0))), ((p3 72), .inl (cI, 9216, .inl (upd (fun _ => (-1)) 0 0))), ((p3 18), .inl (cI, 2, .inl (fun _ => 0))), (p0, .inr (7, oM p3 (upd (upd i7 75 0) 76 0) j7)), ((p3 14), .inl (cI, 2, .inl (fun _ => 0)))]) hx hb hts hinX7 tyX7 tyX7_ok nmX7 hown hK hP hD hS 4 rfl rfl 76 (by decide) w_4 rfl rfl rfl rfl (Nat.le_of_ble_eq_true rfl) rfl dX7_most_151 (fun H locs hP hD hS => ?_)
    refine lv_iinc (v := 1) (lv' := [(6, .int 1), (4, .int 0), (8, .int 0), (7, .int 0), (5, .int 0), (3, .int (-1)), (0, .ref p0), (1, .int 0), (2, .int p2)]) hx hb dX7_most_154 hl (k := 3) rfl (by decide +kernel) (by decide) rfl (fun ls hl => ?_)
    refine lv_goto (tgt := 52) hx hb dX7_most_157 (by decide) ?_
    refine lv_iload hx hb dX7_most_52 (lv_at hl 0 rfl) ?_
    refine lv_iconst (v := 1) hx hb dX7_most_54 (by decide +kernel) ?_
    refine lv_aload_n hx hb dX7_most_55 rfl (lv_at hl 6 rfl) ?_
    refine k_get (D := (dC, dI)) (ci := 7) (v := .ref (p3 14)) (C := RX7) (T := TX7) (N := 92) hx hb hts hinX7 hown hK hP 4 rfl rfl 14 (by decide) w_1 rfl rfl dX7_most_56 ?_
    refine lv_aload_n hx hb dX7_most_59 rfl (lv_at hl 6 rfl) ?_
    refine k_get (D := (dC, dI)) (ci := 7) (v := .int 0) (C := RX7) (T := TX7) (N := 92) hx hb hts hinX7 hown hK hP 4 rfl rfl 13 (by decide) w_2 rfl rfl dX7_most_60 ?_
    refine k_iald (v := 0) hx hb hK hP 5 0 0 rfl rfl rfl (Nat.le_of_ble_eq_true rfl) (Nat.le_of_ble_eq_true rfl) rfl dX7_most_63 ?_
    refine lv_ishl hx hb dX7_most_64 ?_
    refine k_int (v := 1) (by decide +kernel) ?_
    refine lv_icmp_ge (tgt := 160) hx hb dX7_most_65 (by decide) (fun _ => ?_) (fun q9 => absurd q9 (by decide +kernel))
    refine lv_iinc (v := 1) (lv' := [(5, .int 1), (6, .int 1), (4, .int 0), (8, .int 0), (7, .int 0), (3, .int (-1)), (0, .ref p0), (1, .int 0), (2, .int p2)]) hx hb dX7_most_160 hl (k := 4) rfl (by decide +kernel) (by decide) rfl (fun ls hl => ?_)
    refine lv_goto (tgt := 43) hx hb dX7_most_163 (by decide) ?_
    refine lv_iload hx hb dX7_most_43 (lv_at hl 0 rfl) ?_
    refine lv_iload_n hx hb dX7_most_45 rfl (lv_at hl 7 rfl) ?_
    refine lv_icmp_gt (tgt := 166) hx hb dX7_most_46 (by decide) (fun _ => ?_) (fun q9 => absurd q9 (by decide +kernel))
    refine lv_iload_n hx hb dX7_most_166 rfl (lv_at hl 8 rfl) ?_
    refine lv_if_ne (tgt := 175) hx hb dX7_most_167 (by decide) (fun c_12 => ?_) (fun c_12 => ?_)
    · have c_12 : ¬ p2.toInt = 0 := k_eqF rfl (by decide +kernel) c_12
      exfalso; omega
    · have c_12 : p2.toInt = 0 := k_eqT rfl (by decide +kernel) c_12
      refine lv_iload hx hb dX7_most_170 (lv_at hl 2 rfl) ?_
      refine lv_goto (tgt := 203) hx hb dX7_most_172 (by decide) ?_
      exact k_ri B hP hD hS dX7_most_203 () [4, 0, 1, 2, 5, 3] rfl rfl rfl (Nat.le_of_ble_eq_true rfl) (Nat.le_of_ble_eq_true rfl) rfl
  · obtain rfl : p1 = 1 := k_eqL (by decide +kernel) c_1
    refine lv_iload_n hx hb dX7_most_0 rfl (lv_at hl 1 rfl) ?_
    refine lv_iconst (v := 0) hx hb dX7_most_1 (by decide +kernel) ?_
    refine lv_bipush (v := 8) hx hb dX7_most_2 (by decide +kernel) ?_
    refine k_ci (wc := []) (wr := [(p0, .inr (7, oM p3 i7 j7)), ((p3 49), .inl (cI, 22, .inl (fun _ => 0))), ((p3 50), .inl (cI, 22, .inl (fun _ => 0))), ((p3 72), .inl (cI, 9216, .inl (fun _ => 0))), ((p3 14), .inl (cI, 2, .inl (fun _ => 0))), ((p3 18), .inl (cI, 2, .inl (fun _ => 0)))]) (fun hPc hDc hFc => va_runS (As := [.int 1, .int 0, .int 8]) (rest := []) ⟨hx, hb, hml, hown, hts⟩ (c_X7_is_v7 l dC dI cI cJ cZ cM H.size) (va_cwS 3 hts gX7_most_X7_is rfl rfl rfl (by decide +kernel) ⟨(Nat.le_of_ble_eq_true rfl), (Nat.le_of_ble_eq_true rfl)⟩) (k_pS hPc hDc hK hN hC hS hFc) rfl rfl hl.1 rfl (lv_room (Nat.le_of_ble_eq_true rfl)) dX7_most_4 ⟨(Nat.le_of_ble_eq_true rfl), (Nat.le_of_ble_eq_true rfl)⟩) hP hD hS hA [] [0, 1, 2, 3, 4, 5] rfl rfl rfl rfl (by decide) (fun _ => rfl) 0 0 rfl rfl (fun r_13 u_14 H locs hw hP hD hS => ?_)
    obtain rfl : r_13 = 1 := hw
    have hP : va_P (dC, dI) vwCl [(p0, .inr (7, oM p3 i7 j7)), ((p3 49), .inl (cI, 22, .inl (fun _ => 0))), ((p3 50), .inl (cI, 22, .inl (fun _ => 0))), ((p3 72), .inl (cI, 9216, .inl (fun _ => 0))), ((p3 14), .inl (cI, 2, .inl (fun _ => 0))), ((p3 18), .inl (cI, 2, .inl (fun _ => 0)))] H := hP
    have hD : va_D A [(p0, .inr (7, oM p3 i7 j7)), ((p3 49), .inl (cI, 22, .inl (fun _ => 0))), ((p3 50), .inl (cI, 22, .inl (fun _ => 0))), ((p3 72), .inl (cI, 9216, .inl (fun _ => 0))), ((p3 14), .inl (cI, 2, .inl (fun _ => 0))), ((p3 18), .inl (cI, 2, .inl (fun _ => 0)))] := hD
    refine lv_if_eq (tgt := 19) hx hb dX7_most_7 (by decide) (fun q9 => absurd q9 (by decide +kernel)) (fun _ => ?_)
    refine lv_iload_n hx hb dX7_most_10 rfl (lv_at hl 2 rfl) ?_
    refine lv_iconst (v := 0) hx hb dX7_most_11 (by decide +kernel) ?_
    refine lv_iconst (v := 3) hx hb dX7_most_12 (by decide +kernel) ?_
    refine k_ci (wc := []) (wr := [(p0, .inr (7, oM p3 i7 j7)), ((p3 49), .inl (cI, 22, .inl (fun _ => 0))), ((p3 50), .inl (cI, 22, .inl (fun _ => 0))), ((p3 72), .inl (cI, 9216, .inl (fun _ => 0))), ((p3 14), .inl (cI, 2, .inl (fun _ => 0))), ((p3 18), .inl (cI, 2, .inl (fun _ => 0)))]) (fun hPc hDc hFc => va_runS (As := [.int p2, .int 0, .int 3]) (rest := []) ⟨hx, hb, hml, hown, hts⟩ (c_X7_is_v20 l dC dI cI cJ cZ cM p2 (by omega) (by omega) H.size) (va_cwS 3 hts gX7_most_X7_is rfl rfl rfl (by decide +kernel) ⟨(Nat.le_of_ble_eq_true rfl), (Nat.le_of_ble_eq_true rfl)⟩) (k_pS hPc hDc hK hN hC hS hFc) rfl rfl hl.1 rfl (lv_room (Nat.le_of_ble_eq_true rfl)) dX7_most_13 ⟨(Nat.le_of_ble_eq_true rfl), (Nat.le_of_ble_eq_true rfl)⟩) hP hD hS hA [] [0, 1, 2, 3, 4, 5] rfl rfl rfl rfl (by decide) (fun _ => rfl) 0 0 rfl rfl (fun r_15 u_16 H locs hw hP hD hS => ?_)
    obtain rfl : r_15 = 1 := hw
    have hP : va_P (dC, dI) vwCl [(p0, .inr (7, oM p3 i7 j7)), ((p3 49), .inl (cI, 22, .inl (fun _ => 0))), ((p3 50), .inl (cI, 22, .inl (fun _ => 0))), ((p3 72), .inl (cI, 9216, .inl (fun _ => 0))), ((p3 14), .inl (cI, 2, .inl (fun _ => 0))), ((p3 18), .inl (cI, 2, .inl (fun _ => 0)))] H := hP
    have hD : va_D A [(p0, .inr (7, oM p3 i7 j7)), ((p3 49), .inl (cI, 22, .inl (fun _ => 0))), ((p3 50), .inl (cI, 22, .inl (fun _ => 0))), ((p3 72), .inl (cI, 9216, .inl (fun _ => 0))), ((p3 14), .inl (cI, 2, .inl (fun _ => 0))), ((p3 18), .inl (cI, 2, .inl (fun _ => 0)))] := hD
    refine lv_if_ne (tgt := 21) hx hb dX7_most_16 (by decide) (fun _ => ?_) (fun q9 => absurd q9 (by decide +kernel))
    refine lv_aload_n hx hb dX7_most_21 rfl (lv_at hl 0 rfl) ?_
    refine k_cv (wc := [(p0, .inr (7, oM p3 i7 j7)), ((p3 49), .inl (cI, 22, .inl (fun _ => 0))), ((p3 50), .inl (cI, 22, .inl (fun _ => 0))), ((p3 72), .inl (cI, 9216, .inl (fun _ => 0))), ((p3 14), .inl (cI, 2, .inl (fun _ => 0))), ((p3 18), .inl (cI, 2, .inl (fun _ => 0)))]) (wr := []) (fun hPc hDc hFc => va_runV (As := []) (rest := []) ⟨hx, hb, hml, hown, hts⟩ (c_X7_climbs_v0 l dC dI cI cJ cZ cM p0 p3 H.size) (cwV 0 hts gX7_most_X7_climbs rfl rfl rfl (by decide +kernel) ⟨(Nat.le_of_ble_eq_true rfl), (Nat.le_of_ble_eq_true rfl)⟩) (k_pV hPc hDc hK hN hC hS hFc hP (q0 := 0) (ci := 7) rfl rfl) rfl rfl hl.1 rfl (lv_room (Nat.le_of_ble_eq_true rfl)) dX7_most_22 ⟨(Nat.le_of_ble_eq_true rfl), (Nat.le_of_ble_eq_true rfl)⟩) hP hD hS hA [0, 1, 2, 3, 4, 5] [] rfl rfl rfl rfl (by decide) (fun _ => rfl) 0 0 rfl rfl (fun u_18 H locs hw hP hD hS => ?_)
    have hP : va_P (dC, dI) vwCl [(p0, .inr (7, oM p3 i7 j7)), ((p3 49), .inl (cI, 22, .inl (fun _ => 0))), ((p3 50), .inl (cI, 22, .inl (fun _ => 0))), ((p3 72), .inl (cI, 9216, .inl (upd (fun _ => (-1)) 0 0))), ((p3 14), .inl (cI, 2, .inl (fun _ => 0))), ((p3 18), .inl (cI, 2, .inl (fun _ => 0)))] H := hP
    have hD : va_D A [(p0, .inr (7, oM p3 i7 j7)), ((p3 49), .inl (cI, 22, .inl (fun _ => 0))), ((p3 50), .inl (cI, 22, .inl (fun _ => 0))), ((p3 72), .inl (cI, 9216, .inl (upd (fun _ => (-1)) 0 0))), ((p3 14), .inl (cI, 2, .inl (fun _ => 0))), ((p3 18), .inl (cI, 2, .inl (fun _ => 0)))] := hD
    refine lv_aload_n hx hb dX7_most_25 rfl (lv_at hl 0 rfl) ?_
    refine k_ci (wc := [(p0, .inr (7, oM p3 i7 j7)), ((p3 14), .inl (cI, 2, .inl (fun _ => 0)))]) (wr := [((p3 49), .inl (cI, 22, .inl (fun _ => 0))), ((p3 50), .inl (cI, 22, .inl (fun _ => 0))), ((p3 72), .inl (cI, 9216, .inl (upd (fun _ => (-1)) 0 0))), ((p3 18), .inl (cI, 2, .inl (fun _ => 0)))]) (fun hPc hDc hFc => va_runV (As := []) (rest := []) ⟨hx, hb, hml, hown, hts⟩ (c_X7_briefOnes_v2 l dC dI cI cJ cZ cM p0 p3 H.size) (cwV 0 hts gX7_most_X7_briefOnes rfl rfl rfl (by decide +kernel) ⟨(Nat.le_of_ble_eq_true rfl), (Nat.le_of_ble_eq_true rfl)⟩) (k_pV hPc hDc hK hN hC hS hFc hP (q0 := 0) (ci := 7) rfl rfl) rfl rfl hl.1 rfl (lv_room (Nat.le_of_ble_eq_true rfl)) dX7_most_26 ⟨(Nat.le_of_ble_eq_true rfl), (Nat.le_of_ble_eq_true rfl)⟩) hP hD hS hA [0, 4] [1, 2, 3, 5] rfl rfl rfl rfl (by decide) (fun _ => rfl) 0 0 rfl rfl (fun r_19 u_20 H locs hw hP hD hS => ?_)
    obtain rfl : r_19 = 0 := hw
    have hP : va_P (dC, dI) vwCl [((p3 49), .inl (cI, 22, .inl (fun _ => 0))), ((p3 50), .inl (cI, 22, .inl (fun _ => 0))), ((p3 72), .inl (cI, 9216, .inl (upd (fun _ => (-1)) 0 0))), ((p3 18), .inl (cI, 2, .inl (fun _ => 0))), (p0, .inr (7, oM p3 i7 j7)), ((p3 14), .inl (cI, 2, .inl (fun _ => 0)))] H := hP
    have hD : va_D A [((p3 49), .inl (cI, 22, .inl (fun _ => 0))), ((p3 50), .inl (cI, 22, .inl (fun _ => 0))), ((p3 72), .inl (cI, 9216, .inl (upd (fun _ => (-1)) 0 0))), ((p3 18), .inl (cI, 2, .inl (fun _ => 0))), (p0, .inr (7, oM p3 i7 j7)), ((p3 14), .inl (cI, 2, .inl (fun _ => 0)))] := hD
    refine lv_iconst (v := (-1)) hx hb dX7_most_29 (by decide +kernel) ?_
    refine lv_ixor hx hb dX7_most_30 ?_
    refine k_int (v := (-1)) (by decide +kernel) ?_
    refine lv_istore_n (lv' := [(3, .int (-1)), (0, .ref p0), (1, .int 1), (2, .int p2)]) hx hb dX7_most_31 rfl hl (by decide) rfl (fun ls hl => ?_)
    refine lv_aload_n hx hb dX7_most_32 rfl (lv_at hl 1 rfl) ?_
    refine lv_iconst (v := (-1)) hx hb dX7_most_33 (by decide +kernel) ?_
    refine k_put (D := (dC, dI)) (ci := 7) (v := .int (-1)) (C := RX7) (T := TX7) (N := 92) (ws' := [((p3 49), .inl (cI, 22, .inl (fun _ => 0))), ((p3 50), .inl (cI, 22, .inl (fun _ => 0))), ((p3 72), .inl (cI, 9216, .inl (upd (fun _ => (-1)) 0 0))), ((p3 18), .inl (cI, 2, .inl (fun _ => 0))), (p0, .inr (7, oM p3 (upd i7 75 (-1)) j7)), ((p3 14), .inl (cI, 2, .inl (fun _ => 0)))]) hx hb hts hinX7 tyX7 tyX7_ok nmX7 hown hK hP hD hS 4 rfl rfl 75 (by decide) w_0 rfl rfl rfl rfl (Nat.le_of_ble_eq_true rfl) rfl dX7_most_34 (fun H locs hP hD hS => ?_)
    refine lv_iconst (v := (-1)) hx hb dX7_most_37 (by decide +kernel) ?_
    refine lv_istore (lv' := [(4, .int (-1)), (3, .int (-1)), (0, .ref p0), (1, .int 1), (2, .int p2)]) hx hb dX7_most_38 hl (by decide) rfl (fun ls hl => ?_)
    refine lv_iconst (v := 0) hx hb dX7_most_40 (by decide +kernel) ?_
    refine lv_istore (lv' := [(5, .int 0), (4, .int (-1)), (3, .int (-1)), (0, .ref p0), (1, .int 1), (2, .int p2)]) hx hb dX7_most_41 hl (by decide) rfl (fun ls hl => ?_)
    refine lv_iload hx hb dX7_most_43 (lv_at hl 0 rfl) ?_
    refine lv_iload_n hx hb dX7_most_45 rfl (lv_at hl 4 rfl) ?_
    refine lv_icmp_gt (tgt := 166) hx hb dX7_most_46 (by decide) (fun q9 => absurd q9 (by decide +kernel)) (fun _ => ?_)
    refine lv_iconst (v := 0) hx hb dX7_most_49 (by decide +kernel) ?_
    refine lv_istore (lv' := [(6, .int 0), (5, .int 0), (4, .int (-1)), (3, .int (-1)), (0, .ref p0), (1, .int 1), (2, .int p2)]) hx hb dX7_most_50 hl (by decide) rfl (fun ls hl => ?_)
    refine lv_iload hx hb dX7_most_52 (lv_at hl 0 rfl) ?_
    refine lv_iconst (v := 1) hx hb dX7_most_54 (by decide +kernel) ?_
    refine lv_aload_n hx hb dX7_most_55 rfl (lv_at hl 4 rfl) ?_
    refine k_get (D := (dC, dI)) (ci := 7) (v := .ref (p3 14)) (C := RX7) (T := TX7) (N := 92) hx hb hts hinX7 hown hK hP 4 rfl rfl 14 (by decide) w_1 rfl rfl dX7_most_56 ?_
    refine lv_aload_n hx hb dX7_most_59 rfl (lv_at hl 4 rfl) ?_
    refine k_get (D := (dC, dI)) (ci := 7) (v := .int 0) (C := RX7) (T := TX7) (N := 92) hx hb hts hinX7 hown hK hP 4 rfl rfl 13 (by decide) w_2 rfl rfl dX7_most_60 ?_
    refine k_iald (v := 0) hx hb hK hP 5 0 0 rfl rfl rfl (Nat.le_of_ble_eq_true rfl) (Nat.le_of_ble_eq_true rfl) rfl dX7_most_63 ?_
    refine lv_ishl hx hb dX7_most_64 ?_
    refine k_int (v := 1) (by decide +kernel) ?_
    refine lv_icmp_ge (tgt := 160) hx hb dX7_most_65 (by decide) (fun q9 => absurd q9 (by decide +kernel)) (fun _ => ?_)
    refine lv_aload_n hx hb dX7_most_68 rfl (lv_at hl 4 rfl) ?_
    refine k_get (D := (dC, dI)) (ci := 7) (v := .ref (p3 72)) (C := RX7) (T := TX7) (N := 92) hx hb hts hinX7 hown hK hP 4 rfl rfl 72 (by decide) w_3 rfl rfl dX7_most_69 ?_
    refine lv_sipush (v := 1024) hx hb dX7_most_72 (by decide +kernel) ?_
    refine lv_iload hx hb dX7_most_75 (lv_at hl 1 rfl) ?_
    refine lv_imul hx hb dX7_most_77 ?_
    refine k_int (v := 0) (by decide +kernel) ?_
    refine lv_iload hx hb dX7_most_78 (lv_at hl 0 rfl) ?_
    refine lv_iadd hx hb dX7_most_80 ?_
    refine k_int (v := 0) (by decide +kernel) ?_
    refine k_iald (v := 0) hx hb hK hP 2 0 0 rfl rfl rfl (Nat.le_of_ble_eq_true rfl) (Nat.le_of_ble_eq_true rfl) rfl dX7_most_81 ?_
    refine lv_istore (lv' := [(7, .int 0), (6, .int 0), (5, .int 0), (4, .int (-1)), (3, .int (-1)), (0, .ref p0), (1, .int 1), (2, .int p2)]) hx hb dX7_most_82 hl (by decide) rfl (fun ls hl => ?_)
    refine lv_iload hx hb dX7_most_84 (lv_at hl 0 rfl) ?_
    refine lv_iconst (v := (-1)) hx hb dX7_most_86 (by decide +kernel) ?_
    refine lv_icmp_ne (tgt := 93) hx hb dX7_most_87 (by decide) (fun _ => ?_) (fun q9 => absurd q9 (by decide +kernel))
    refine lv_aload_n hx hb dX7_most_93 rfl (lv_at hl 5 rfl) ?_
    refine lv_iload hx hb dX7_most_94 (lv_at hl 1 rfl) ?_
    refine lv_iload_n hx hb dX7_most_96 rfl (lv_at hl 4 rfl) ?_
    refine lv_iand hx hb dX7_most_97 ?_
    refine k_int (v := 0) (by decide +kernel) ?_
    refine k_ci (wc := [(p0, .inr (7, oM p3 (upd i7 75 (-1)) j7)), ((p3 14), .inl (cI, 2, .inl (fun _ => 0)))]) (wr := [((p3 49), .inl (cI, 22, .inl (fun _ => 0))), ((p3 50), .inl (cI, 22, .inl (fun _ => 0))), ((p3 72), .inl (cI, 9216, .inl (upd (fun _ => (-1)) 0 0))), ((p3 18), .inl (cI, 2, .inl (fun _ => 0)))]) (fun hPc hDc hFc => va_runV (As := [.int 0]) (rest := []) ⟨hx, hb, hml, hown, hts⟩ (c_X7_worthOf_v1 l dC dI cI cJ cZ cM p0 p3 H.size) (cwV 1 hts gX7_most_X7_worthOf rfl rfl rfl (by decide +kernel) ⟨(Nat.le_of_ble_eq_true rfl), (Nat.le_of_ble_eq_true rfl)⟩) (k_pV hPc hDc hK hN hC hS hFc hP (q0 := 4) (ci := 7) rfl rfl) rfl rfl hl.1 rfl (lv_room (Nat.le_of_ble_eq_true rfl)) dX7_most_98 ⟨(Nat.le_of_ble_eq_true rfl), (Nat.le_of_ble_eq_true rfl)⟩) hP hD hS hA [4, 5] [0, 1, 2, 3] rfl rfl rfl rfl (by decide) (fun _ => rfl) 0 0 rfl rfl (fun r_21 u_22 H locs hw hP hD hS => ?_)
    obtain rfl : r_21 = 0 := hw
    have hP : va_P (dC, dI) vwCl [((p3 49), .inl (cI, 22, .inl (fun _ => 0))), ((p3 50), .inl (cI, 22, .inl (fun _ => 0))), ((p3 72), .inl (cI, 9216, .inl (upd (fun _ => (-1)) 0 0))), ((p3 18), .inl (cI, 2, .inl (fun _ => 0))), (p0, .inr (7, oM p3 (upd i7 75 (-1)) j7)), ((p3 14), .inl (cI, 2, .inl (fun _ => 0)))] H := hP
    have hD : va_D A [((p3 49), .inl (cI, 22, .inl (fun _ => 0))), ((p3 50), .inl (cI, 22, .inl (fun _ => 0))), ((p3 72), .inl (cI, 9216, .inl (upd (fun _ => (-1)) 0 0))), ((p3 18), .inl (cI, 2, .inl (fun _ => 0))), (p0, .inr (7, oM p3 (upd i7 75 (-1)) j7)), ((p3 14), .inl (cI, 2, .inl (fun _ => 0)))] := hD
    refine lv_istore (lv' := [(8, .int 0), (7, .int 0), (6, .int 0), (5, .int 0), (4, .int (-1)), (3, .int (-1)), (0, .ref p0), (1, .int 1), (2, .int p2)]) hx hb dX7_most_101 hl (by decide) rfl (fun ls hl => ?_)
    refine lv_iload hx hb dX7_most_103 (lv_at hl 0 rfl) ?_
    refine lv_iload hx hb dX7_most_105 (lv_at hl 4 rfl) ?_
    refine lv_icmp_lt (tgt := 154) hx hb dX7_most_107 (by decide) (fun q9 => absurd q9 (by decide +kernel)) (fun _ => ?_)
    refine lv_iload hx hb dX7_most_110 (lv_at hl 0 rfl) ?_
    refine lv_iload hx hb dX7_most_112 (lv_at hl 4 rfl) ?_
    refine lv_icmp_ne (tgt := 138) hx hb dX7_most_114 (by decide) (fun _ => ?_) (fun q9 => absurd q9 (by decide +kernel))
    refine lv_iload hx hb dX7_most_138 (lv_at hl 0 rfl) ?_
    refine lv_istore (lv' := [(4, .int 0), (8, .int 0), (7, .int 0), (6, .int 0), (5, .int 0), (3, .int (-1)), (0, .ref p0), (1, .int 1), (2, .int p2)]) hx hb dX7_most_140 hl (by decide) rfl (fun ls hl => ?_)
    refine lv_aload_n hx hb dX7_most_142 rfl (lv_at hl 6 rfl) ?_
    refine lv_iload hx hb dX7_most_143 (lv_at hl 4 rfl) ?_
    refine k_put (D := (dC, dI)) (ci := 7) (v := .int 0) (C := RX7) (T := TX7) (N := 92) (ws' := [((p3 49), .inl (cI, 22, .inl (fun _ => 0))), ((p3 50), .inl (cI, 22, .inl (fun _ => 0))), ((p3 72), .inl (cI, 9216, .inl (upd (fun _ => (-1)) 0 0))), ((p3 18), .inl (cI, 2, .inl (fun _ => 0))), (p0, .inr (7, oM p3 (upd i7 75 0) j7)), ((p3 14), .inl (cI, 2, .inl (fun _ => 0)))]) hx hb hts hinX7 tyX7 tyX7_ok nmX7 hown hK hP hD hS 4 rfl rfl 75 (by decide) w_0 rfl rfl rfl rfl (Nat.le_of_ble_eq_true rfl) rfl dX7_most_145 (fun H locs hP hD hS => ?_)
    refine lv_aload_n hx hb dX7_most_148 rfl (lv_at hl 6 rfl) ?_
    refine lv_iload hx hb dX7_most_149 (lv_at hl 3 rfl) ?_
    refine k_put (D := (dC, dI)) (ci := 7) (v := .int 0) (C := RX7) (T := TX7) (N := 92) (ws' := [((p3 49), .inl (cI, 22, .inl (fun _ => 0))), ((p3 50), .inl (cI, 22, .inl (fun _ => 0))), ((p3 72), .inl (cI, 9216, .inl (upd (fun _ => (-1)) 0 0))), ((p3 18), .inl (cI, 2, .inl (fun _ => 0))), (p0, .inr (7, oM p3 (upd (upd i7 75 0) 76 0) j7)), ((p3 14), .inl (cI, 2, .inl (fun _ => 0)))]) hx hb hts hinX7 tyX7 tyX7_ok nmX7 hown hK hP hD hS 4 rfl rfl 76 (by decide) w_4 rfl rfl rfl rfl (Nat.le_of_ble_eq_true rfl) rfl dX7_most_151 (fun H locs hP hD hS => ?_)
    refine lv_iinc (v := 1) (lv' := [(6, .int 1), (4, .int 0), (8, .int 0), (7, .int 0), (5, .int 0), (3, .int (-1)), (0, .ref p0), (1, .int 1), (2, .int p2)]) hx hb dX7_most_154 hl (k := 3) rfl (by decide +kernel) (by decide) rfl (fun ls hl => ?_)
    refine lv_goto (tgt := 52) hx hb dX7_most_157 (by decide) ?_
    refine lv_iload hx hb dX7_most_52 (lv_at hl 0 rfl) ?_
    refine lv_iconst (v := 1) hx hb dX7_most_54 (by decide +kernel) ?_
    refine lv_aload_n hx hb dX7_most_55 rfl (lv_at hl 6 rfl) ?_
    refine k_get (D := (dC, dI)) (ci := 7) (v := .ref (p3 14)) (C := RX7) (T := TX7) (N := 92) hx hb hts hinX7 hown hK hP 4 rfl rfl 14 (by decide) w_1 rfl rfl dX7_most_56 ?_
    refine lv_aload_n hx hb dX7_most_59 rfl (lv_at hl 6 rfl) ?_
    refine k_get (D := (dC, dI)) (ci := 7) (v := .int 0) (C := RX7) (T := TX7) (N := 92) hx hb hts hinX7 hown hK hP 4 rfl rfl 13 (by decide) w_2 rfl rfl dX7_most_60 ?_
    refine k_iald (v := 0) hx hb hK hP 5 0 0 rfl rfl rfl (Nat.le_of_ble_eq_true rfl) (Nat.le_of_ble_eq_true rfl) rfl dX7_most_63 ?_
    refine lv_ishl hx hb dX7_most_64 ?_
    refine k_int (v := 1) (by decide +kernel) ?_
    refine lv_icmp_ge (tgt := 160) hx hb dX7_most_65 (by decide) (fun _ => ?_) (fun q9 => absurd q9 (by decide +kernel))
    refine lv_iinc (v := 1) (lv' := [(5, .int 1), (6, .int 1), (4, .int 0), (8, .int 0), (7, .int 0), (3, .int (-1)), (0, .ref p0), (1, .int 1), (2, .int p2)]) hx hb dX7_most_160 hl (k := 4) rfl (by decide +kernel) (by decide) rfl (fun ls hl => ?_)
    refine lv_goto (tgt := 43) hx hb dX7_most_163 (by decide) ?_
    refine lv_iload hx hb dX7_most_43 (lv_at hl 0 rfl) ?_
    refine lv_iload_n hx hb dX7_most_45 rfl (lv_at hl 7 rfl) ?_
    refine lv_icmp_gt (tgt := 166) hx hb dX7_most_46 (by decide) (fun q9 => absurd q9 (by decide +kernel)) (fun _ => ?_)
    refine lv_iconst (v := 0) hx hb dX7_most_49 (by decide +kernel) ?_
    refine lv_istore (lv' := [(6, .int 0), (5, .int 1), (4, .int 0), (8, .int 0), (7, .int 0), (3, .int (-1)), (0, .ref p0), (1, .int 1), (2, .int p2)]) hx hb dX7_most_50 hl (by decide) rfl (fun ls hl => ?_)
    refine lv_iload hx hb dX7_most_52 (lv_at hl 0 rfl) ?_
    refine lv_iconst (v := 1) hx hb dX7_most_54 (by decide +kernel) ?_
    refine lv_aload_n hx hb dX7_most_55 rfl (lv_at hl 6 rfl) ?_
    refine k_get (D := (dC, dI)) (ci := 7) (v := .ref (p3 14)) (C := RX7) (T := TX7) (N := 92) hx hb hts hinX7 hown hK hP 4 rfl rfl 14 (by decide) w_1 rfl rfl dX7_most_56 ?_
    refine lv_aload_n hx hb dX7_most_59 rfl (lv_at hl 6 rfl) ?_
    refine k_get (D := (dC, dI)) (ci := 7) (v := .int 0) (C := RX7) (T := TX7) (N := 92) hx hb hts hinX7 hown hK hP 4 rfl rfl 13 (by decide) w_2 rfl rfl dX7_most_60 ?_
    refine k_iald (v := 0) hx hb hK hP 5 0 0 rfl rfl rfl (Nat.le_of_ble_eq_true rfl) (Nat.le_of_ble_eq_true rfl) rfl dX7_most_63 ?_
    refine lv_ishl hx hb dX7_most_64 ?_
    refine k_int (v := 1) (by decide +kernel) ?_
    refine lv_icmp_ge (tgt := 160) hx hb dX7_most_65 (by decide) (fun q9 => absurd q9 (by decide +kernel)) (fun _ => ?_)
    refine lv_aload_n hx hb dX7_most_68 rfl (lv_at hl 6 rfl) ?_
    refine k_get (D := (dC, dI)) (ci := 7) (v := .ref (p3 72)) (C := RX7) (T := TX7) (N := 92) hx hb hts hinX7 hown hK hP 4 rfl rfl 72 (by decide) w_3 rfl rfl dX7_most_69 ?_
    refine lv_sipush (v := 1024) hx hb dX7_most_72 (by decide +kernel) ?_
    refine lv_iload hx hb dX7_most_75 (lv_at hl 1 rfl) ?_
    refine lv_imul hx hb dX7_most_77 ?_
    refine k_int (v := 1024) (by decide +kernel) ?_
    refine lv_iload hx hb dX7_most_78 (lv_at hl 0 rfl) ?_
    refine lv_iadd hx hb dX7_most_80 ?_
    refine k_int (v := 1024) (by decide +kernel) ?_
    refine k_iald (v := (-1)) hx hb hK hP 2 0 1024 rfl rfl rfl (Nat.le_of_ble_eq_true rfl) (Nat.le_of_ble_eq_true rfl) rfl dX7_most_81 ?_
    refine lv_istore (lv' := [(7, .int (-1)), (6, .int 0), (5, .int 1), (4, .int 0), (8, .int 0), (3, .int (-1)), (0, .ref p0), (1, .int 1), (2, .int p2)]) hx hb dX7_most_82 hl (by decide) rfl (fun ls hl => ?_)
    refine lv_iload hx hb dX7_most_84 (lv_at hl 0 rfl) ?_
    refine lv_iconst (v := (-1)) hx hb dX7_most_86 (by decide +kernel) ?_
    refine lv_icmp_ne (tgt := 93) hx hb dX7_most_87 (by decide) (fun q9 => absurd q9 (by decide +kernel)) (fun _ => ?_)
    refine lv_goto (tgt := 154) hx hb dX7_most_90 (by decide) ?_
    refine lv_iinc (v := 1) (lv' := [(6, .int 1), (7, .int (-1)), (5, .int 1), (4, .int 0), (8, .int 0), (3, .int (-1)), (0, .ref p0), (1, .int 1), (2, .int p2)]) hx hb dX7_most_154 hl (k := 1) rfl (by decide +kernel) (by decide) rfl (fun ls hl => ?_)
    refine lv_goto (tgt := 52) hx hb dX7_most_157 (by decide) ?_
    refine lv_iload hx hb dX7_most_52 (lv_at hl 0 rfl) ?_
    refine lv_iconst (v := 1) hx hb dX7_most_54 (by decide +kernel) ?_
    refine lv_aload_n hx hb dX7_most_55 rfl (lv_at hl 6 rfl) ?_
    refine k_get (D := (dC, dI)) (ci := 7) (v := .ref (p3 14)) (C := RX7) (T := TX7) (N := 92) hx hb hts hinX7 hown hK hP 4 rfl rfl 14 (by decide) w_1 rfl rfl dX7_most_56 ?_
    refine lv_aload_n hx hb dX7_most_59 rfl (lv_at hl 6 rfl) ?_
    refine k_get (D := (dC, dI)) (ci := 7) (v := .int 0) (C := RX7) (T := TX7) (N := 92) hx hb hts hinX7 hown hK hP 4 rfl rfl 13 (by decide) w_2 rfl rfl dX7_most_60 ?_
    refine k_iald (v := 0) hx hb hK hP 5 0 0 rfl rfl rfl (Nat.le_of_ble_eq_true rfl) (Nat.le_of_ble_eq_true rfl) rfl dX7_most_63 ?_
    refine lv_ishl hx hb dX7_most_64 ?_
    refine k_int (v := 1) (by decide +kernel) ?_
    refine lv_icmp_ge (tgt := 160) hx hb dX7_most_65 (by decide) (fun _ => ?_) (fun q9 => absurd q9 (by decide +kernel))
    refine lv_iinc (v := 2) (lv' := [(5, .int 2), (6, .int 1), (7, .int (-1)), (4, .int 0), (8, .int 0), (3, .int (-1)), (0, .ref p0), (1, .int 1), (2, .int p2)]) hx hb dX7_most_160 hl (k := 2) rfl (by decide +kernel) (by decide) rfl (fun ls hl => ?_)
    refine lv_goto (tgt := 43) hx hb dX7_most_163 (by decide) ?_
    refine lv_iload hx hb dX7_most_43 (lv_at hl 0 rfl) ?_
    refine lv_iload_n hx hb dX7_most_45 rfl (lv_at hl 7 rfl) ?_
    refine lv_icmp_gt (tgt := 166) hx hb dX7_most_46 (by decide) (fun _ => ?_) (fun q9 => absurd q9 (by decide +kernel))
    refine lv_iload_n hx hb dX7_most_166 rfl (lv_at hl 8 rfl) ?_
    refine lv_if_ne (tgt := 175) hx hb dX7_most_167 (by decide) (fun c_23 => ?_) (fun c_23 => ?_)
    · have c_23 : ¬ p2.toInt = 0 := k_eqF rfl (by decide +kernel) c_23
      exfalso; omega
    · have c_23 : p2.toInt = 0 := k_eqT rfl (by decide +kernel) c_23
      refine lv_iload hx hb dX7_most_170 (lv_at hl 3 rfl) ?_
      refine lv_goto (tgt := 203) hx hb dX7_most_172 (by decide) ?_
      exact k_ri B hP hD hS dX7_most_203 () [4, 0, 1, 2, 5, 3] rfl rfl rfl (Nat.le_of_ble_eq_true rfl) (Nat.le_of_ble_eq_true rfl) rfl
  · obtain rfl : p1 = 2 := k_eqL (by decide +kernel) c_1
    refine lv_iload_n hx hb dX7_most_0 rfl (lv_at hl 1 rfl) ?_
    refine lv_iconst (v := 0) hx hb dX7_most_1 (by decide +kernel) ?_
    refine lv_bipush (v := 8) hx hb dX7_most_2 (by decide +kernel) ?_
    refine k_ci (wc := []) (wr := [(p0, .inr (7, oM p3 i7 j7)), ((p3 49), .inl (cI, 22, .inl (fun _ => 0))), ((p3 50), .inl (cI, 22, .inl (fun _ => 0))), ((p3 72), .inl (cI, 9216, .inl (fun _ => 0))), ((p3 14), .inl (cI, 2, .inl (fun _ => 0))), ((p3 18), .inl (cI, 2, .inl (fun _ => 0)))]) (fun hPc hDc hFc => va_runS (As := [.int 2, .int 0, .int 8]) (rest := []) ⟨hx, hb, hml, hown, hts⟩ (c_X7_is_v8 l dC dI cI cJ cZ cM H.size) (va_cwS 3 hts gX7_most_X7_is rfl rfl rfl (by decide +kernel) ⟨(Nat.le_of_ble_eq_true rfl), (Nat.le_of_ble_eq_true rfl)⟩) (k_pS hPc hDc hK hN hC hS hFc) rfl rfl hl.1 rfl (lv_room (Nat.le_of_ble_eq_true rfl)) dX7_most_4 ⟨(Nat.le_of_ble_eq_true rfl), (Nat.le_of_ble_eq_true rfl)⟩) hP hD hS hA [] [0, 1, 2, 3, 4, 5] rfl rfl rfl rfl (by decide) (fun _ => rfl) 0 0 rfl rfl (fun r_24 u_25 H locs hw hP hD hS => ?_)
    obtain rfl : r_24 = 1 := hw
    have hP : va_P (dC, dI) vwCl [(p0, .inr (7, oM p3 i7 j7)), ((p3 49), .inl (cI, 22, .inl (fun _ => 0))), ((p3 50), .inl (cI, 22, .inl (fun _ => 0))), ((p3 72), .inl (cI, 9216, .inl (fun _ => 0))), ((p3 14), .inl (cI, 2, .inl (fun _ => 0))), ((p3 18), .inl (cI, 2, .inl (fun _ => 0)))] H := hP
    have hD : va_D A [(p0, .inr (7, oM p3 i7 j7)), ((p3 49), .inl (cI, 22, .inl (fun _ => 0))), ((p3 50), .inl (cI, 22, .inl (fun _ => 0))), ((p3 72), .inl (cI, 9216, .inl (fun _ => 0))), ((p3 14), .inl (cI, 2, .inl (fun _ => 0))), ((p3 18), .inl (cI, 2, .inl (fun _ => 0)))] := hD
    refine lv_if_eq (tgt := 19) hx hb dX7_most_7 (by decide) (fun q9 => absurd q9 (by decide +kernel)) (fun _ => ?_)
    refine lv_iload_n hx hb dX7_most_10 rfl (lv_at hl 2 rfl) ?_
    refine lv_iconst (v := 0) hx hb dX7_most_11 (by decide +kernel) ?_
    refine lv_iconst (v := 3) hx hb dX7_most_12 (by decide +kernel) ?_
    refine k_ci (wc := []) (wr := [(p0, .inr (7, oM p3 i7 j7)), ((p3 49), .inl (cI, 22, .inl (fun _ => 0))), ((p3 50), .inl (cI, 22, .inl (fun _ => 0))), ((p3 72), .inl (cI, 9216, .inl (fun _ => 0))), ((p3 14), .inl (cI, 2, .inl (fun _ => 0))), ((p3 18), .inl (cI, 2, .inl (fun _ => 0)))]) (fun hPc hDc hFc => va_runS (As := [.int p2, .int 0, .int 3]) (rest := []) ⟨hx, hb, hml, hown, hts⟩ (c_X7_is_v20 l dC dI cI cJ cZ cM p2 (by omega) (by omega) H.size) (va_cwS 3 hts gX7_most_X7_is rfl rfl rfl (by decide +kernel) ⟨(Nat.le_of_ble_eq_true rfl), (Nat.le_of_ble_eq_true rfl)⟩) (k_pS hPc hDc hK hN hC hS hFc) rfl rfl hl.1 rfl (lv_room (Nat.le_of_ble_eq_true rfl)) dX7_most_13 ⟨(Nat.le_of_ble_eq_true rfl), (Nat.le_of_ble_eq_true rfl)⟩) hP hD hS hA [] [0, 1, 2, 3, 4, 5] rfl rfl rfl rfl (by decide) (fun _ => rfl) 0 0 rfl rfl (fun r_26 u_27 H locs hw hP hD hS => ?_)
    obtain rfl : r_26 = 1 := hw
    have hP : va_P (dC, dI) vwCl [(p0, .inr (7, oM p3 i7 j7)), ((p3 49), .inl (cI, 22, .inl (fun _ => 0))), ((p3 50), .inl (cI, 22, .inl (fun _ => 0))), ((p3 72), .inl (cI, 9216, .inl (fun _ => 0))), ((p3 14), .inl (cI, 2, .inl (fun _ => 0))), ((p3 18), .inl (cI, 2, .inl (fun _ => 0)))] H := hP
    have hD : va_D A [(p0, .inr (7, oM p3 i7 j7)), ((p3 49), .inl (cI, 22, .inl (fun _ => 0))), ((p3 50), .inl (cI, 22, .inl (fun _ => 0))), ((p3 72), .inl (cI, 9216, .inl (fun _ => 0))), ((p3 14), .inl (cI, 2, .inl (fun _ => 0))), ((p3 18), .inl (cI, 2, .inl (fun _ => 0)))] := hD
    refine lv_if_ne (tgt := 21) hx hb dX7_most_16 (by decide) (fun _ => ?_) (fun q9 => absurd q9 (by decide +kernel))
    refine lv_aload_n hx hb dX7_most_21 rfl (lv_at hl 0 rfl) ?_
    refine k_cv (wc := [(p0, .inr (7, oM p3 i7 j7)), ((p3 49), .inl (cI, 22, .inl (fun _ => 0))), ((p3 50), .inl (cI, 22, .inl (fun _ => 0))), ((p3 72), .inl (cI, 9216, .inl (fun _ => 0))), ((p3 14), .inl (cI, 2, .inl (fun _ => 0))), ((p3 18), .inl (cI, 2, .inl (fun _ => 0)))]) (wr := []) (fun hPc hDc hFc => va_runV (As := []) (rest := []) ⟨hx, hb, hml, hown, hts⟩ (c_X7_climbs_v0 l dC dI cI cJ cZ cM p0 p3 H.size) (cwV 0 hts gX7_most_X7_climbs rfl rfl rfl (by decide +kernel) ⟨(Nat.le_of_ble_eq_true rfl), (Nat.le_of_ble_eq_true rfl)⟩) (k_pV hPc hDc hK hN hC hS hFc hP (q0 := 0) (ci := 7) rfl rfl) rfl rfl hl.1 rfl (lv_room (Nat.le_of_ble_eq_true rfl)) dX7_most_22 ⟨(Nat.le_of_ble_eq_true rfl), (Nat.le_of_ble_eq_true rfl)⟩) hP hD hS hA [0, 1, 2, 3, 4, 5] [] rfl rfl rfl rfl (by decide) (fun _ => rfl) 0 0 rfl rfl (fun u_29 H locs hw hP hD hS => ?_)
    have hP : va_P (dC, dI) vwCl [(p0, .inr (7, oM p3 i7 j7)), ((p3 49), .inl (cI, 22, .inl (fun _ => 0))), ((p3 50), .inl (cI, 22, .inl (fun _ => 0))), ((p3 72), .inl (cI, 9216, .inl (upd (fun _ => (-1)) 0 0))), ((p3 14), .inl (cI, 2, .inl (fun _ => 0))), ((p3 18), .inl (cI, 2, .inl (fun _ => 0)))] H := hP
    have hD : va_D A [(p0, .inr (7, oM p3 i7 j7)), ((p3 49), .inl (cI, 22, .inl (fun _ => 0))), ((p3 50), .inl (cI, 22, .inl (fun _ => 0))), ((p3 72), .inl (cI, 9216, .inl (upd (fun _ => (-1)) 0 0))), ((p3 14), .inl (cI, 2, .inl (fun _ => 0))), ((p3 18), .inl (cI, 2, .inl (fun _ => 0)))] := hD
    refine lv_aload_n hx hb dX7_most_25 rfl (lv_at hl 0 rfl) ?_
    refine k_ci (wc := [(p0, .inr (7, oM p3 i7 j7)), ((p3 14), .inl (cI, 2, .inl (fun _ => 0)))]) (wr := [((p3 49), .inl (cI, 22, .inl (fun _ => 0))), ((p3 50), .inl (cI, 22, .inl (fun _ => 0))), ((p3 72), .inl (cI, 9216, .inl (upd (fun _ => (-1)) 0 0))), ((p3 18), .inl (cI, 2, .inl (fun _ => 0)))]) (fun hPc hDc hFc => va_runV (As := []) (rest := []) ⟨hx, hb, hml, hown, hts⟩ (c_X7_briefOnes_v2 l dC dI cI cJ cZ cM p0 p3 H.size) (cwV 0 hts gX7_most_X7_briefOnes rfl rfl rfl (by decide +kernel) ⟨(Nat.le_of_ble_eq_true rfl), (Nat.le_of_ble_eq_true rfl)⟩) (k_pV hPc hDc hK hN hC hS hFc hP (q0 := 0) (ci := 7) rfl rfl) rfl rfl hl.1 rfl (lv_room (Nat.le_of_ble_eq_true rfl)) dX7_most_26 ⟨(Nat.le_of_ble_eq_true rfl), (Nat.le_of_ble_eq_true rfl)⟩) hP hD hS hA [0, 4] [1, 2, 3, 5] rfl rfl rfl rfl (by decide) (fun _ => rfl) 0 0 rfl rfl (fun r_30 u_31 H locs hw hP hD hS => ?_)
    obtain rfl : r_30 = 0 := hw
    have hP : va_P (dC, dI) vwCl [((p3 49), .inl (cI, 22, .inl (fun _ => 0))), ((p3 50), .inl (cI, 22, .inl (fun _ => 0))), ((p3 72), .inl (cI, 9216, .inl (upd (fun _ => (-1)) 0 0))), ((p3 18), .inl (cI, 2, .inl (fun _ => 0))), (p0, .inr (7, oM p3 i7 j7)), ((p3 14), .inl (cI, 2, .inl (fun _ => 0)))] H := hP
    have hD : va_D A [((p3 49), .inl (cI, 22, .inl (fun _ => 0))), ((p3 50), .inl (cI, 22, .inl (fun _ => 0))), ((p3 72), .inl (cI, 9216, .inl (upd (fun _ => (-1)) 0 0))), ((p3 18), .inl (cI, 2, .inl (fun _ => 0))), (p0, .inr (7, oM p3 i7 j7)), ((p3 14), .inl (cI, 2, .inl (fun _ => 0)))] := hD
    refine lv_iconst (v := (-1)) hx hb dX7_most_29 (by decide +kernel) ?_
    refine lv_ixor hx hb dX7_most_30 ?_
    refine k_int (v := (-1)) (by decide +kernel) ?_
    refine lv_istore_n (lv' := [(3, .int (-1)), (0, .ref p0), (1, .int 2), (2, .int p2)]) hx hb dX7_most_31 rfl hl (by decide) rfl (fun ls hl => ?_)
    refine lv_aload_n hx hb dX7_most_32 rfl (lv_at hl 1 rfl) ?_
    refine lv_iconst (v := (-1)) hx hb dX7_most_33 (by decide +kernel) ?_
    refine k_put (D := (dC, dI)) (ci := 7) (v := .int (-1)) (C := RX7) (T := TX7) (N := 92) (ws' := [((p3 49), .inl (cI, 22, .inl (fun _ => 0))), ((p3 50), .inl (cI, 22, .inl (fun _ => 0))), ((p3 72), .inl (cI, 9216, .inl (upd (fun _ => (-1)) 0 0))), ((p3 18), .inl (cI, 2, .inl (fun _ => 0))), (p0, .inr (7, oM p3 (upd i7 75 (-1)) j7)), ((p3 14), .inl (cI, 2, .inl (fun _ => 0)))]) hx hb hts hinX7 tyX7 tyX7_ok nmX7 hown hK hP hD hS 4 rfl rfl 75 (by decide) w_0 rfl rfl rfl rfl (Nat.le_of_ble_eq_true rfl) rfl dX7_most_34 (fun H locs hP hD hS => ?_)
    refine lv_iconst (v := (-1)) hx hb dX7_most_37 (by decide +kernel) ?_
    refine lv_istore (lv' := [(4, .int (-1)), (3, .int (-1)), (0, .ref p0), (1, .int 2), (2, .int p2)]) hx hb dX7_most_38 hl (by decide) rfl (fun ls hl => ?_)
    refine lv_iconst (v := 0) hx hb dX7_most_40 (by decide +kernel) ?_
    refine lv_istore (lv' := [(5, .int 0), (4, .int (-1)), (3, .int (-1)), (0, .ref p0), (1, .int 2), (2, .int p2)]) hx hb dX7_most_41 hl (by decide) rfl (fun ls hl => ?_)
    refine lv_iload hx hb dX7_most_43 (lv_at hl 0 rfl) ?_
    refine lv_iload_n hx hb dX7_most_45 rfl (lv_at hl 4 rfl) ?_
    refine lv_icmp_gt (tgt := 166) hx hb dX7_most_46 (by decide) (fun q9 => absurd q9 (by decide +kernel)) (fun _ => ?_)
    refine lv_iconst (v := 0) hx hb dX7_most_49 (by decide +kernel) ?_
    refine lv_istore (lv' := [(6, .int 0), (5, .int 0), (4, .int (-1)), (3, .int (-1)), (0, .ref p0), (1, .int 2), (2, .int p2)]) hx hb dX7_most_50 hl (by decide) rfl (fun ls hl => ?_)
    refine lv_iload hx hb dX7_most_52 (lv_at hl 0 rfl) ?_
    refine lv_iconst (v := 1) hx hb dX7_most_54 (by decide +kernel) ?_
    refine lv_aload_n hx hb dX7_most_55 rfl (lv_at hl 4 rfl) ?_
    refine k_get (D := (dC, dI)) (ci := 7) (v := .ref (p3 14)) (C := RX7) (T := TX7) (N := 92) hx hb hts hinX7 hown hK hP 4 rfl rfl 14 (by decide) w_1 rfl rfl dX7_most_56 ?_
    refine lv_aload_n hx hb dX7_most_59 rfl (lv_at hl 4 rfl) ?_
    refine k_get (D := (dC, dI)) (ci := 7) (v := .int 0) (C := RX7) (T := TX7) (N := 92) hx hb hts hinX7 hown hK hP 4 rfl rfl 13 (by decide) w_2 rfl rfl dX7_most_60 ?_
    refine k_iald (v := 0) hx hb hK hP 5 0 0 rfl rfl rfl (Nat.le_of_ble_eq_true rfl) (Nat.le_of_ble_eq_true rfl) rfl dX7_most_63 ?_
    refine lv_ishl hx hb dX7_most_64 ?_
    refine k_int (v := 1) (by decide +kernel) ?_
    refine lv_icmp_ge (tgt := 160) hx hb dX7_most_65 (by decide) (fun q9 => absurd q9 (by decide +kernel)) (fun _ => ?_)
    refine lv_aload_n hx hb dX7_most_68 rfl (lv_at hl 4 rfl) ?_
    refine k_get (D := (dC, dI)) (ci := 7) (v := .ref (p3 72)) (C := RX7) (T := TX7) (N := 92) hx hb hts hinX7 hown hK hP 4 rfl rfl 72 (by decide) w_3 rfl rfl dX7_most_69 ?_
    refine lv_sipush (v := 1024) hx hb dX7_most_72 (by decide +kernel) ?_
    refine lv_iload hx hb dX7_most_75 (lv_at hl 1 rfl) ?_
    refine lv_imul hx hb dX7_most_77 ?_
    refine k_int (v := 0) (by decide +kernel) ?_
    refine lv_iload hx hb dX7_most_78 (lv_at hl 0 rfl) ?_
    refine lv_iadd hx hb dX7_most_80 ?_
    refine k_int (v := 0) (by decide +kernel) ?_
    refine k_iald (v := 0) hx hb hK hP 2 0 0 rfl rfl rfl (Nat.le_of_ble_eq_true rfl) (Nat.le_of_ble_eq_true rfl) rfl dX7_most_81 ?_
    refine lv_istore (lv' := [(7, .int 0), (6, .int 0), (5, .int 0), (4, .int (-1)), (3, .int (-1)), (0, .ref p0), (1, .int 2), (2, .int p2)]) hx hb dX7_most_82 hl (by decide) rfl (fun ls hl => ?_)
    refine lv_iload hx hb dX7_most_84 (lv_at hl 0 rfl) ?_
    refine lv_iconst (v := (-1)) hx hb dX7_most_86 (by decide +kernel) ?_
    refine lv_icmp_ne (tgt := 93) hx hb dX7_most_87 (by decide) (fun _ => ?_) (fun q9 => absurd q9 (by decide +kernel))
    refine lv_aload_n hx hb dX7_most_93 rfl (lv_at hl 5 rfl) ?_
    refine lv_iload hx hb dX7_most_94 (lv_at hl 1 rfl) ?_
    refine lv_iload_n hx hb dX7_most_96 rfl (lv_at hl 4 rfl) ?_
    refine lv_iand hx hb dX7_most_97 ?_
    refine k_int (v := 0) (by decide +kernel) ?_
    refine k_ci (wc := [(p0, .inr (7, oM p3 (upd i7 75 (-1)) j7)), ((p3 14), .inl (cI, 2, .inl (fun _ => 0)))]) (wr := [((p3 49), .inl (cI, 22, .inl (fun _ => 0))), ((p3 50), .inl (cI, 22, .inl (fun _ => 0))), ((p3 72), .inl (cI, 9216, .inl (upd (fun _ => (-1)) 0 0))), ((p3 18), .inl (cI, 2, .inl (fun _ => 0)))]) (fun hPc hDc hFc => va_runV (As := [.int 0]) (rest := []) ⟨hx, hb, hml, hown, hts⟩ (c_X7_worthOf_v1 l dC dI cI cJ cZ cM p0 p3 H.size) (cwV 1 hts gX7_most_X7_worthOf rfl rfl rfl (by decide +kernel) ⟨(Nat.le_of_ble_eq_true rfl), (Nat.le_of_ble_eq_true rfl)⟩) (k_pV hPc hDc hK hN hC hS hFc hP (q0 := 4) (ci := 7) rfl rfl) rfl rfl hl.1 rfl (lv_room (Nat.le_of_ble_eq_true rfl)) dX7_most_98 ⟨(Nat.le_of_ble_eq_true rfl), (Nat.le_of_ble_eq_true rfl)⟩) hP hD hS hA [4, 5] [0, 1, 2, 3] rfl rfl rfl rfl (by decide) (fun _ => rfl) 0 0 rfl rfl (fun r_32 u_33 H locs hw hP hD hS => ?_)
    obtain rfl : r_32 = 0 := hw
    have hP : va_P (dC, dI) vwCl [((p3 49), .inl (cI, 22, .inl (fun _ => 0))), ((p3 50), .inl (cI, 22, .inl (fun _ => 0))), ((p3 72), .inl (cI, 9216, .inl (upd (fun _ => (-1)) 0 0))), ((p3 18), .inl (cI, 2, .inl (fun _ => 0))), (p0, .inr (7, oM p3 (upd i7 75 (-1)) j7)), ((p3 14), .inl (cI, 2, .inl (fun _ => 0)))] H := hP
    have hD : va_D A [((p3 49), .inl (cI, 22, .inl (fun _ => 0))), ((p3 50), .inl (cI, 22, .inl (fun _ => 0))), ((p3 72), .inl (cI, 9216, .inl (upd (fun _ => (-1)) 0 0))), ((p3 18), .inl (cI, 2, .inl (fun _ => 0))), (p0, .inr (7, oM p3 (upd i7 75 (-1)) j7)), ((p3 14), .inl (cI, 2, .inl (fun _ => 0)))] := hD
    refine lv_istore (lv' := [(8, .int 0), (7, .int 0), (6, .int 0), (5, .int 0), (4, .int (-1)), (3, .int (-1)), (0, .ref p0), (1, .int 2), (2, .int p2)]) hx hb dX7_most_101 hl (by decide) rfl (fun ls hl => ?_)
    refine lv_iload hx hb dX7_most_103 (lv_at hl 0 rfl) ?_
    refine lv_iload hx hb dX7_most_105 (lv_at hl 4 rfl) ?_
    refine lv_icmp_lt (tgt := 154) hx hb dX7_most_107 (by decide) (fun q9 => absurd q9 (by decide +kernel)) (fun _ => ?_)
    refine lv_iload hx hb dX7_most_110 (lv_at hl 0 rfl) ?_
    refine lv_iload hx hb dX7_most_112 (lv_at hl 4 rfl) ?_
    refine lv_icmp_ne (tgt := 138) hx hb dX7_most_114 (by decide) (fun _ => ?_) (fun q9 => absurd q9 (by decide +kernel))
    refine lv_iload hx hb dX7_most_138 (lv_at hl 0 rfl) ?_
    refine lv_istore (lv' := [(4, .int 0), (8, .int 0), (7, .int 0), (6, .int 0), (5, .int 0), (3, .int (-1)), (0, .ref p0), (1, .int 2), (2, .int p2)]) hx hb dX7_most_140 hl (by decide) rfl (fun ls hl => ?_)
    refine lv_aload_n hx hb dX7_most_142 rfl (lv_at hl 6 rfl) ?_
    refine lv_iload hx hb dX7_most_143 (lv_at hl 4 rfl) ?_
    refine k_put (D := (dC, dI)) (ci := 7) (v := .int 0) (C := RX7) (T := TX7) (N := 92) (ws' := [((p3 49), .inl (cI, 22, .inl (fun _ => 0))), ((p3 50), .inl (cI, 22, .inl (fun _ => 0))), ((p3 72), .inl (cI, 9216, .inl (upd (fun _ => (-1)) 0 0))), ((p3 18), .inl (cI, 2, .inl (fun _ => 0))), (p0, .inr (7, oM p3 (upd i7 75 0) j7)), ((p3 14), .inl (cI, 2, .inl (fun _ => 0)))]) hx hb hts hinX7 tyX7 tyX7_ok nmX7 hown hK hP hD hS 4 rfl rfl 75 (by decide) w_0 rfl rfl rfl rfl (Nat.le_of_ble_eq_true rfl) rfl dX7_most_145 (fun H locs hP hD hS => ?_)
    refine lv_aload_n hx hb dX7_most_148 rfl (lv_at hl 6 rfl) ?_
    refine lv_iload hx hb dX7_most_149 (lv_at hl 3 rfl) ?_
    refine k_put (D := (dC, dI)) (ci := 7) (v := .int 0) (C := RX7) (T := TX7) (N := 92) (ws' := [((p3 49), .inl (cI, 22, .inl (fun _ => 0))), ((p3 50), .inl (cI, 22, .inl (fun _ => 0))), ((p3 72), .inl (cI, 9216, .inl (upd (fun _ => (-1)) 0 0))), ((p3 18), .inl (cI, 2, .inl (fun _ => 0))), (p0, .inr (7, oM p3 (upd (upd i7 75 0) 76 0) j7)), ((p3 14), .inl (cI, 2, .inl (fun _ => 0)))]) hx hb hts hinX7 tyX7 tyX7_ok nmX7 hown hK hP hD hS 4 rfl rfl 76 (by decide) w_4 rfl rfl rfl rfl (Nat.le_of_ble_eq_true rfl) rfl dX7_most_151 (fun H locs hP hD hS => ?_)
    refine lv_iinc (v := 1) (lv' := [(6, .int 1), (4, .int 0), (8, .int 0), (7, .int 0), (5, .int 0), (3, .int (-1)), (0, .ref p0), (1, .int 2), (2, .int p2)]) hx hb dX7_most_154 hl (k := 3) rfl (by decide +kernel) (by decide) rfl (fun ls hl => ?_)
    refine lv_goto (tgt := 52) hx hb dX7_most_157 (by decide) ?_
    refine lv_iload hx hb dX7_most_52 (lv_at hl 0 rfl) ?_
    refine lv_iconst (v := 1) hx hb dX7_most_54 (by decide +kernel) ?_
    refine lv_aload_n hx hb dX7_most_55 rfl (lv_at hl 6 rfl) ?_
    refine k_get (D := (dC, dI)) (ci := 7) (v := .ref (p3 14)) (C := RX7) (T := TX7) (N := 92) hx hb hts hinX7 hown hK hP 4 rfl rfl 14 (by decide) w_1 rfl rfl dX7_most_56 ?_
    refine lv_aload_n hx hb dX7_most_59 rfl (lv_at hl 6 rfl) ?_
    refine k_get (D := (dC, dI)) (ci := 7) (v := .int 0) (C := RX7) (T := TX7) (N := 92) hx hb hts hinX7 hown hK hP 4 rfl rfl 13 (by decide) w_2 rfl rfl dX7_most_60 ?_
    refine k_iald (v := 0) hx hb hK hP 5 0 0 rfl rfl rfl (Nat.le_of_ble_eq_true rfl) (Nat.le_of_ble_eq_true rfl) rfl dX7_most_63 ?_
    refine lv_ishl hx hb dX7_most_64 ?_
    refine k_int (v := 1) (by decide +kernel) ?_
    refine lv_icmp_ge (tgt := 160) hx hb dX7_most_65 (by decide) (fun _ => ?_) (fun q9 => absurd q9 (by decide +kernel))
    refine lv_iinc (v := 1) (lv' := [(5, .int 1), (6, .int 1), (4, .int 0), (8, .int 0), (7, .int 0), (3, .int (-1)), (0, .ref p0), (1, .int 2), (2, .int p2)]) hx hb dX7_most_160 hl (k := 4) rfl (by decide +kernel) (by decide) rfl (fun ls hl => ?_)
    refine lv_goto (tgt := 43) hx hb dX7_most_163 (by decide) ?_
    refine lv_iload hx hb dX7_most_43 (lv_at hl 0 rfl) ?_
    refine lv_iload_n hx hb dX7_most_45 rfl (lv_at hl 7 rfl) ?_
    refine lv_icmp_gt (tgt := 166) hx hb dX7_most_46 (by decide) (fun q9 => absurd q9 (by decide +kernel)) (fun _ => ?_)
    refine lv_iconst (v := 0) hx hb dX7_most_49 (by decide +kernel) ?_
    refine lv_istore (lv' := [(6, .int 0), (5, .int 1), (4, .int 0), (8, .int 0), (7, .int 0), (3, .int (-1)), (0, .ref p0), (1, .int 2), (2, .int p2)]) hx hb dX7_most_50 hl (by decide) rfl (fun ls hl => ?_)
    refine lv_iload hx hb dX7_most_52 (lv_at hl 0 rfl) ?_
    refine lv_iconst (v := 1) hx hb dX7_most_54 (by decide +kernel) ?_
    refine lv_aload_n hx hb dX7_most_55 rfl (lv_at hl 6 rfl) ?_
    refine k_get (D := (dC, dI)) (ci := 7) (v := .ref (p3 14)) (C := RX7) (T := TX7) (N := 92) hx hb hts hinX7 hown hK hP 4 rfl rfl 14 (by decide) w_1 rfl rfl dX7_most_56 ?_
    refine lv_aload_n hx hb dX7_most_59 rfl (lv_at hl 6 rfl) ?_
    refine k_get (D := (dC, dI)) (ci := 7) (v := .int 0) (C := RX7) (T := TX7) (N := 92) hx hb hts hinX7 hown hK hP 4 rfl rfl 13 (by decide) w_2 rfl rfl dX7_most_60 ?_
    refine k_iald (v := 0) hx hb hK hP 5 0 0 rfl rfl rfl (Nat.le_of_ble_eq_true rfl) (Nat.le_of_ble_eq_true rfl) rfl dX7_most_63 ?_
    refine lv_ishl hx hb dX7_most_64 ?_
    refine k_int (v := 1) (by decide +kernel) ?_
    refine lv_icmp_ge (tgt := 160) hx hb dX7_most_65 (by decide) (fun q9 => absurd q9 (by decide +kernel)) (fun _ => ?_)
    refine lv_aload_n hx hb dX7_most_68 rfl (lv_at hl 6 rfl) ?_
    refine k_get (D := (dC, dI)) (ci := 7) (v := .ref (p3 72)) (C := RX7) (T := TX7) (N := 92) hx hb hts hinX7 hown hK hP 4 rfl rfl 72 (by decide) w_3 rfl rfl dX7_most_69 ?_
    refine lv_sipush (v := 1024) hx hb dX7_most_72 (by decide +kernel) ?_
    refine lv_iload hx hb dX7_most_75 (lv_at hl 1 rfl) ?_
    refine lv_imul hx hb dX7_most_77 ?_
    refine k_int (v := 1024) (by decide +kernel) ?_
    refine lv_iload hx hb dX7_most_78 (lv_at hl 0 rfl) ?_
    refine lv_iadd hx hb dX7_most_80 ?_
    refine k_int (v := 1024) (by decide +kernel) ?_
    refine k_iald (v := (-1)) hx hb hK hP 2 0 1024 rfl rfl rfl (Nat.le_of_ble_eq_true rfl) (Nat.le_of_ble_eq_true rfl) rfl dX7_most_81 ?_
    refine lv_istore (lv' := [(7, .int (-1)), (6, .int 0), (5, .int 1), (4, .int 0), (8, .int 0), (3, .int (-1)), (0, .ref p0), (1, .int 2), (2, .int p2)]) hx hb dX7_most_82 hl (by decide) rfl (fun ls hl => ?_)
    refine lv_iload hx hb dX7_most_84 (lv_at hl 0 rfl) ?_
    refine lv_iconst (v := (-1)) hx hb dX7_most_86 (by decide +kernel) ?_
    refine lv_icmp_ne (tgt := 93) hx hb dX7_most_87 (by decide) (fun q9 => absurd q9 (by decide +kernel)) (fun _ => ?_)
    refine lv_goto (tgt := 154) hx hb dX7_most_90 (by decide) ?_
    refine lv_iinc (v := 1) (lv' := [(6, .int 1), (7, .int (-1)), (5, .int 1), (4, .int 0), (8, .int 0), (3, .int (-1)), (0, .ref p0), (1, .int 2), (2, .int p2)]) hx hb dX7_most_154 hl (k := 1) rfl (by decide +kernel) (by decide) rfl (fun ls hl => ?_)
    refine lv_goto (tgt := 52) hx hb dX7_most_157 (by decide) ?_
    refine lv_iload hx hb dX7_most_52 (lv_at hl 0 rfl) ?_
    refine lv_iconst (v := 1) hx hb dX7_most_54 (by decide +kernel) ?_
    refine lv_aload_n hx hb dX7_most_55 rfl (lv_at hl 6 rfl) ?_
    refine k_get (D := (dC, dI)) (ci := 7) (v := .ref (p3 14)) (C := RX7) (T := TX7) (N := 92) hx hb hts hinX7 hown hK hP 4 rfl rfl 14 (by decide) w_1 rfl rfl dX7_most_56 ?_
    refine lv_aload_n hx hb dX7_most_59 rfl (lv_at hl 6 rfl) ?_
    refine k_get (D := (dC, dI)) (ci := 7) (v := .int 0) (C := RX7) (T := TX7) (N := 92) hx hb hts hinX7 hown hK hP 4 rfl rfl 13 (by decide) w_2 rfl rfl dX7_most_60 ?_
    refine k_iald (v := 0) hx hb hK hP 5 0 0 rfl rfl rfl (Nat.le_of_ble_eq_true rfl) (Nat.le_of_ble_eq_true rfl) rfl dX7_most_63 ?_
    refine lv_ishl hx hb dX7_most_64 ?_
    refine k_int (v := 1) (by decide +kernel) ?_
    refine lv_icmp_ge (tgt := 160) hx hb dX7_most_65 (by decide) (fun _ => ?_) (fun q9 => absurd q9 (by decide +kernel))
    refine lv_iinc (v := 2) (lv' := [(5, .int 2), (6, .int 1), (7, .int (-1)), (4, .int 0), (8, .int 0), (3, .int (-1)), (0, .ref p0), (1, .int 2), (2, .int p2)]) hx hb dX7_most_160 hl (k := 2) rfl (by decide +kernel) (by decide) rfl (fun ls hl => ?_)
    refine lv_goto (tgt := 43) hx hb dX7_most_163 (by decide) ?_
    refine lv_iload hx hb dX7_most_43 (lv_at hl 0 rfl) ?_
    refine lv_iload_n hx hb dX7_most_45 rfl (lv_at hl 7 rfl) ?_
    refine lv_icmp_gt (tgt := 166) hx hb dX7_most_46 (by decide) (fun q9 => absurd q9 (by decide +kernel)) (fun _ => ?_)
    refine lv_iconst (v := 0) hx hb dX7_most_49 (by decide +kernel) ?_
    refine lv_istore (lv' := [(6, .int 0), (5, .int 2), (7, .int (-1)), (4, .int 0), (8, .int 0), (3, .int (-1)), (0, .ref p0), (1, .int 2), (2, .int p2)]) hx hb dX7_most_50 hl (by decide) rfl (fun ls hl => ?_)
    refine lv_iload hx hb dX7_most_52 (lv_at hl 0 rfl) ?_
    refine lv_iconst (v := 1) hx hb dX7_most_54 (by decide +kernel) ?_
    refine lv_aload_n hx hb dX7_most_55 rfl (lv_at hl 6 rfl) ?_
    refine k_get (D := (dC, dI)) (ci := 7) (v := .ref (p3 14)) (C := RX7) (T := TX7) (N := 92) hx hb hts hinX7 hown hK hP 4 rfl rfl 14 (by decide) w_1 rfl rfl dX7_most_56 ?_
    refine lv_aload_n hx hb dX7_most_59 rfl (lv_at hl 6 rfl) ?_
    refine k_get (D := (dC, dI)) (ci := 7) (v := .int 0) (C := RX7) (T := TX7) (N := 92) hx hb hts hinX7 hown hK hP 4 rfl rfl 13 (by decide) w_2 rfl rfl dX7_most_60 ?_
    refine k_iald (v := 0) hx hb hK hP 5 0 0 rfl rfl rfl (Nat.le_of_ble_eq_true rfl) (Nat.le_of_ble_eq_true rfl) rfl dX7_most_63 ?_
    refine lv_ishl hx hb dX7_most_64 ?_
    refine k_int (v := 1) (by decide +kernel) ?_
    refine lv_icmp_ge (tgt := 160) hx hb dX7_most_65 (by decide) (fun q9 => absurd q9 (by decide +kernel)) (fun _ => ?_)
    refine lv_aload_n hx hb dX7_most_68 rfl (lv_at hl 6 rfl) ?_
    refine k_get (D := (dC, dI)) (ci := 7) (v := .ref (p3 72)) (C := RX7) (T := TX7) (N := 92) hx hb hts hinX7 hown hK hP 4 rfl rfl 72 (by decide) w_3 rfl rfl dX7_most_69 ?_
    refine lv_sipush (v := 1024) hx hb dX7_most_72 (by decide +kernel) ?_
    refine lv_iload hx hb dX7_most_75 (lv_at hl 1 rfl) ?_
    refine lv_imul hx hb dX7_most_77 ?_
    refine k_int (v := 2048) (by decide +kernel) ?_
    refine lv_iload hx hb dX7_most_78 (lv_at hl 0 rfl) ?_
    refine lv_iadd hx hb dX7_most_80 ?_
    refine k_int (v := 2048) (by decide +kernel) ?_
    refine k_iald (v := (-1)) hx hb hK hP 2 0 2048 rfl rfl rfl (Nat.le_of_ble_eq_true rfl) (Nat.le_of_ble_eq_true rfl) rfl dX7_most_81 ?_
    refine lv_istore (lv' := [(7, .int (-1)), (6, .int 0), (5, .int 2), (4, .int 0), (8, .int 0), (3, .int (-1)), (0, .ref p0), (1, .int 2), (2, .int p2)]) hx hb dX7_most_82 hl (by decide) rfl (fun ls hl => ?_)
    refine lv_iload hx hb dX7_most_84 (lv_at hl 0 rfl) ?_
    refine lv_iconst (v := (-1)) hx hb dX7_most_86 (by decide +kernel) ?_
    refine lv_icmp_ne (tgt := 93) hx hb dX7_most_87 (by decide) (fun q9 => absurd q9 (by decide +kernel)) (fun _ => ?_)
    refine lv_goto (tgt := 154) hx hb dX7_most_90 (by decide) ?_
    refine lv_iinc (v := 1) (lv' := [(6, .int 1), (7, .int (-1)), (5, .int 2), (4, .int 0), (8, .int 0), (3, .int (-1)), (0, .ref p0), (1, .int 2), (2, .int p2)]) hx hb dX7_most_154 hl (k := 1) rfl (by decide +kernel) (by decide) rfl (fun ls hl => ?_)
    refine lv_goto (tgt := 52) hx hb dX7_most_157 (by decide) ?_
    refine lv_iload hx hb dX7_most_52 (lv_at hl 0 rfl) ?_
    refine lv_iconst (v := 1) hx hb dX7_most_54 (by decide +kernel) ?_
    refine lv_aload_n hx hb dX7_most_55 rfl (lv_at hl 6 rfl) ?_
    refine k_get (D := (dC, dI)) (ci := 7) (v := .ref (p3 14)) (C := RX7) (T := TX7) (N := 92) hx hb hts hinX7 hown hK hP 4 rfl rfl 14 (by decide) w_1 rfl rfl dX7_most_56 ?_
    refine lv_aload_n hx hb dX7_most_59 rfl (lv_at hl 6 rfl) ?_
    refine k_get (D := (dC, dI)) (ci := 7) (v := .int 0) (C := RX7) (T := TX7) (N := 92) hx hb hts hinX7 hown hK hP 4 rfl rfl 13 (by decide) w_2 rfl rfl dX7_most_60 ?_
    refine k_iald (v := 0) hx hb hK hP 5 0 0 rfl rfl rfl (Nat.le_of_ble_eq_true rfl) (Nat.le_of_ble_eq_true rfl) rfl dX7_most_63 ?_
    refine lv_ishl hx hb dX7_most_64 ?_
    refine k_int (v := 1) (by decide +kernel) ?_
    refine lv_icmp_ge (tgt := 160) hx hb dX7_most_65 (by decide) (fun _ => ?_) (fun q9 => absurd q9 (by decide +kernel))
    refine lv_iinc (v := 3) (lv' := [(5, .int 3), (6, .int 1), (7, .int (-1)), (4, .int 0), (8, .int 0), (3, .int (-1)), (0, .ref p0), (1, .int 2), (2, .int p2)]) hx hb dX7_most_160 hl (k := 2) rfl (by decide +kernel) (by decide) rfl (fun ls hl => ?_)
    refine lv_goto (tgt := 43) hx hb dX7_most_163 (by decide) ?_
    refine lv_iload hx hb dX7_most_43 (lv_at hl 0 rfl) ?_
    refine lv_iload_n hx hb dX7_most_45 rfl (lv_at hl 7 rfl) ?_
    refine lv_icmp_gt (tgt := 166) hx hb dX7_most_46 (by decide) (fun _ => ?_) (fun q9 => absurd q9 (by decide +kernel))
    refine lv_iload_n hx hb dX7_most_166 rfl (lv_at hl 8 rfl) ?_
    refine lv_if_ne (tgt := 175) hx hb dX7_most_167 (by decide) (fun c_34 => ?_) (fun c_34 => ?_)
    · have c_34 : ¬ p2.toInt = 0 := k_eqF rfl (by decide +kernel) c_34
      exfalso; omega
    · have c_34 : p2.toInt = 0 := k_eqT rfl (by decide +kernel) c_34
      refine lv_iload hx hb dX7_most_170 (lv_at hl 3 rfl) ?_
      refine lv_goto (tgt := 203) hx hb dX7_most_172 (by decide) ?_
      exact k_ri B hP hD hS dX7_most_203 () [4, 0, 1, 2, 5, 3] rfl rfl rfl (Nat.le_of_ble_eq_true rfl) (Nat.le_of_ble_eq_true rfl) rfl
  · obtain rfl : p1 = 3 := k_eqL (by decide +kernel) c_1
    refine lv_iload_n hx hb dX7_most_0 rfl (lv_at hl 1 rfl) ?_
    refine lv_iconst (v := 0) hx hb dX7_most_1 (by decide +kernel) ?_
    refine lv_bipush (v := 8) hx hb dX7_most_2 (by decide +kernel) ?_
    refine k_ci (wc := []) (wr := [(p0, .inr (7, oM p3 i7 j7)), ((p3 49), .inl (cI, 22, .inl (fun _ => 0))), ((p3 50), .inl (cI, 22, .inl (fun _ => 0))), ((p3 72), .inl (cI, 9216, .inl (fun _ => 0))), ((p3 14), .inl (cI, 2, .inl (fun _ => 0))), ((p3 18), .inl (cI, 2, .inl (fun _ => 0)))]) (fun hPc hDc hFc => va_runS (As := [.int 3, .int 0, .int 8]) (rest := []) ⟨hx, hb, hml, hown, hts⟩ (c_X7_is_v9 l dC dI cI cJ cZ cM H.size) (va_cwS 3 hts gX7_most_X7_is rfl rfl rfl (by decide +kernel) ⟨(Nat.le_of_ble_eq_true rfl), (Nat.le_of_ble_eq_true rfl)⟩) (k_pS hPc hDc hK hN hC hS hFc) rfl rfl hl.1 rfl (lv_room (Nat.le_of_ble_eq_true rfl)) dX7_most_4 ⟨(Nat.le_of_ble_eq_true rfl), (Nat.le_of_ble_eq_true rfl)⟩) hP hD hS hA [] [0, 1, 2, 3, 4, 5] rfl rfl rfl rfl (by decide) (fun _ => rfl) 0 0 rfl rfl (fun r_35 u_36 H locs hw hP hD hS => ?_)
    obtain rfl : r_35 = 1 := hw
    have hP : va_P (dC, dI) vwCl [(p0, .inr (7, oM p3 i7 j7)), ((p3 49), .inl (cI, 22, .inl (fun _ => 0))), ((p3 50), .inl (cI, 22, .inl (fun _ => 0))), ((p3 72), .inl (cI, 9216, .inl (fun _ => 0))), ((p3 14), .inl (cI, 2, .inl (fun _ => 0))), ((p3 18), .inl (cI, 2, .inl (fun _ => 0)))] H := hP
    have hD : va_D A [(p0, .inr (7, oM p3 i7 j7)), ((p3 49), .inl (cI, 22, .inl (fun _ => 0))), ((p3 50), .inl (cI, 22, .inl (fun _ => 0))), ((p3 72), .inl (cI, 9216, .inl (fun _ => 0))), ((p3 14), .inl (cI, 2, .inl (fun _ => 0))), ((p3 18), .inl (cI, 2, .inl (fun _ => 0)))] := hD
    refine lv_if_eq (tgt := 19) hx hb dX7_most_7 (by decide) (fun q9 => absurd q9 (by decide +kernel)) (fun _ => ?_)
    refine lv_iload_n hx hb dX7_most_10 rfl (lv_at hl 2 rfl) ?_
    refine lv_iconst (v := 0) hx hb dX7_most_11 (by decide +kernel) ?_
    refine lv_iconst (v := 3) hx hb dX7_most_12 (by decide +kernel) ?_
    refine k_ci (wc := []) (wr := [(p0, .inr (7, oM p3 i7 j7)), ((p3 49), .inl (cI, 22, .inl (fun _ => 0))), ((p3 50), .inl (cI, 22, .inl (fun _ => 0))), ((p3 72), .inl (cI, 9216, .inl (fun _ => 0))), ((p3 14), .inl (cI, 2, .inl (fun _ => 0))), ((p3 18), .inl (cI, 2, .inl (fun _ => 0)))]) (fun hPc hDc hFc => va_runS (As := [.int p2, .int 0, .int 3]) (rest := []) ⟨hx, hb, hml, hown, hts⟩ (c_X7_is_v20 l dC dI cI cJ cZ cM p2 (by omega) (by omega) H.size) (va_cwS 3 hts gX7_most_X7_is rfl rfl rfl (by decide +kernel) ⟨(Nat.le_of_ble_eq_true rfl), (Nat.le_of_ble_eq_true rfl)⟩) (k_pS hPc hDc hK hN hC hS hFc) rfl rfl hl.1 rfl (lv_room (Nat.le_of_ble_eq_true rfl)) dX7_most_13 ⟨(Nat.le_of_ble_eq_true rfl), (Nat.le_of_ble_eq_true rfl)⟩) hP hD hS hA [] [0, 1, 2, 3, 4, 5] rfl rfl rfl rfl (by decide) (fun _ => rfl) 0 0 rfl rfl (fun r_37 u_38 H locs hw hP hD hS => ?_)
    obtain rfl : r_37 = 1 := hw
    have hP : va_P (dC, dI) vwCl [(p0, .inr (7, oM p3 i7 j7)), ((p3 49), .inl (cI, 22, .inl (fun _ => 0))), ((p3 50), .inl (cI, 22, .inl (fun _ => 0))), ((p3 72), .inl (cI, 9216, .inl (fun _ => 0))), ((p3 14), .inl (cI, 2, .inl (fun _ => 0))), ((p3 18), .inl (cI, 2, .inl (fun _ => 0)))] H := hP
    have hD : va_D A [(p0, .inr (7, oM p3 i7 j7)), ((p3 49), .inl (cI, 22, .inl (fun _ => 0))), ((p3 50), .inl (cI, 22, .inl (fun _ => 0))), ((p3 72), .inl (cI, 9216, .inl (fun _ => 0))), ((p3 14), .inl (cI, 2, .inl (fun _ => 0))), ((p3 18), .inl (cI, 2, .inl (fun _ => 0)))] := hD
    refine lv_if_ne (tgt := 21) hx hb dX7_most_16 (by decide) (fun _ => ?_) (fun q9 => absurd q9 (by decide +kernel))
    refine lv_aload_n hx hb dX7_most_21 rfl (lv_at hl 0 rfl) ?_
    refine k_cv (wc := [(p0, .inr (7, oM p3 i7 j7)), ((p3 49), .inl (cI, 22, .inl (fun _ => 0))), ((p3 50), .inl (cI, 22, .inl (fun _ => 0))), ((p3 72), .inl (cI, 9216, .inl (fun _ => 0))), ((p3 14), .inl (cI, 2, .inl (fun _ => 0))), ((p3 18), .inl (cI, 2, .inl (fun _ => 0)))]) (wr := []) (fun hPc hDc hFc => va_runV (As := []) (rest := []) ⟨hx, hb, hml, hown, hts⟩ (c_X7_climbs_v0 l dC dI cI cJ cZ cM p0 p3 H.size) (cwV 0 hts gX7_most_X7_climbs rfl rfl rfl (by decide +kernel) ⟨(Nat.le_of_ble_eq_true rfl), (Nat.le_of_ble_eq_true rfl)⟩) (k_pV hPc hDc hK hN hC hS hFc hP (q0 := 0) (ci := 7) rfl rfl) rfl rfl hl.1 rfl (lv_room (Nat.le_of_ble_eq_true rfl)) dX7_most_22 ⟨(Nat.le_of_ble_eq_true rfl), (Nat.le_of_ble_eq_true rfl)⟩) hP hD hS hA [0, 1, 2, 3, 4, 5] [] rfl rfl rfl rfl (by decide) (fun _ => rfl) 0 0 rfl rfl (fun u_40 H locs hw hP hD hS => ?_)
    have hP : va_P (dC, dI) vwCl [(p0, .inr (7, oM p3 i7 j7)), ((p3 49), .inl (cI, 22, .inl (fun _ => 0))), ((p3 50), .inl (cI, 22, .inl (fun _ => 0))), ((p3 72), .inl (cI, 9216, .inl (upd (fun _ => (-1)) 0 0))), ((p3 14), .inl (cI, 2, .inl (fun _ => 0))), ((p3 18), .inl (cI, 2, .inl (fun _ => 0)))] H := hP
    have hD : va_D A [(p0, .inr (7, oM p3 i7 j7)), ((p3 49), .inl (cI, 22, .inl (fun _ => 0))), ((p3 50), .inl (cI, 22, .inl (fun _ => 0))), ((p3 72), .inl (cI, 9216, .inl (upd (fun _ => (-1)) 0 0))), ((p3 14), .inl (cI, 2, .inl (fun _ => 0))), ((p3 18), .inl (cI, 2, .inl (fun _ => 0)))] := hD
    refine lv_aload_n hx hb dX7_most_25 rfl (lv_at hl 0 rfl) ?_
    refine k_ci (wc := [(p0, .inr (7, oM p3 i7 j7)), ((p3 14), .inl (cI, 2, .inl (fun _ => 0)))]) (wr := [((p3 49), .inl (cI, 22, .inl (fun _ => 0))), ((p3 50), .inl (cI, 22, .inl (fun _ => 0))), ((p3 72), .inl (cI, 9216, .inl (upd (fun _ => (-1)) 0 0))), ((p3 18), .inl (cI, 2, .inl (fun _ => 0)))]) (fun hPc hDc hFc => va_runV (As := []) (rest := []) ⟨hx, hb, hml, hown, hts⟩ (c_X7_briefOnes_v2 l dC dI cI cJ cZ cM p0 p3 H.size) (cwV 0 hts gX7_most_X7_briefOnes rfl rfl rfl (by decide +kernel) ⟨(Nat.le_of_ble_eq_true rfl), (Nat.le_of_ble_eq_true rfl)⟩) (k_pV hPc hDc hK hN hC hS hFc hP (q0 := 0) (ci := 7) rfl rfl) rfl rfl hl.1 rfl (lv_room (Nat.le_of_ble_eq_true rfl)) dX7_most_26 ⟨(Nat.le_of_ble_eq_true rfl), (Nat.le_of_ble_eq_true rfl)⟩) hP hD hS hA [0, 4] [1, 2, 3, 5] rfl rfl rfl rfl (by decide) (fun _ => rfl) 0 0 rfl rfl (fun r_41 u_42 H locs hw hP hD hS => ?_)
    obtain rfl : r_41 = 0 := hw
    have hP : va_P (dC, dI) vwCl [((p3 49), .inl (cI, 22, .inl (fun _ => 0))), ((p3 50), .inl (cI, 22, .inl (fun _ => 0))), ((p3 72), .inl (cI, 9216, .inl (upd (fun _ => (-1)) 0 0))), ((p3 18), .inl (cI, 2, .inl (fun _ => 0))), (p0, .inr (7, oM p3 i7 j7)), ((p3 14), .inl (cI, 2, .inl (fun _ => 0)))] H := hP
    have hD : va_D A [((p3 49), .inl (cI, 22, .inl (fun _ => 0))), ((p3 50), .inl (cI, 22, .inl (fun _ => 0))), ((p3 72), .inl (cI, 9216, .inl (upd (fun _ => (-1)) 0 0))), ((p3 18), .inl (cI, 2, .inl (fun _ => 0))), (p0, .inr (7, oM p3 i7 j7)), ((p3 14), .inl (cI, 2, .inl (fun _ => 0)))] := hD
    refine lv_iconst (v := (-1)) hx hb dX7_most_29 (by decide +kernel) ?_
    refine lv_ixor hx hb dX7_most_30 ?_
    refine k_int (v := (-1)) (by decide +kernel) ?_
    refine lv_istore_n (lv' := [(3, .int (-1)), (0, .ref p0), (1, .int 3), (2, .int p2)]) hx hb dX7_most_31 rfl hl (by decide) rfl (fun ls hl => ?_)
    refine lv_aload_n hx hb dX7_most_32 rfl (lv_at hl 1 rfl) ?_
    refine lv_iconst (v := (-1)) hx hb dX7_most_33 (by decide +kernel) ?_
    refine k_put (D := (dC, dI)) (ci := 7) (v := .int (-1)) (C := RX7) (T := TX7) (N := 92) (ws' := [((p3 49), .inl (cI, 22, .inl (fun _ => 0))), ((p3 50), .inl (cI, 22, .inl (fun _ => 0))), ((p3 72), .inl (cI, 9216, .inl (upd (fun _ => (-1)) 0 0))), ((p3 18), .inl (cI, 2, .inl (fun _ => 0))), (p0, .inr (7, oM p3 (upd i7 75 (-1)) j7)), ((p3 14), .inl (cI, 2, .inl (fun _ => 0)))]) hx hb hts hinX7 tyX7 tyX7_ok nmX7 hown hK hP hD hS 4 rfl rfl 75 (by decide) w_0 rfl rfl rfl rfl (Nat.le_of_ble_eq_true rfl) rfl dX7_most_34 (fun H locs hP hD hS => ?_)
    refine lv_iconst (v := (-1)) hx hb dX7_most_37 (by decide +kernel) ?_
    refine lv_istore (lv' := [(4, .int (-1)), (3, .int (-1)), (0, .ref p0), (1, .int 3), (2, .int p2)]) hx hb dX7_most_38 hl (by decide) rfl (fun ls hl => ?_)
    refine lv_iconst (v := 0) hx hb dX7_most_40 (by decide +kernel) ?_
    refine lv_istore (lv' := [(5, .int 0), (4, .int (-1)), (3, .int (-1)), (0, .ref p0), (1, .int 3), (2, .int p2)]) hx hb dX7_most_41 hl (by decide) rfl (fun ls hl => ?_)
    refine lv_iload hx hb dX7_most_43 (lv_at hl 0 rfl) ?_
    refine lv_iload_n hx hb dX7_most_45 rfl (lv_at hl 4 rfl) ?_
    refine lv_icmp_gt (tgt := 166) hx hb dX7_most_46 (by decide) (fun q9 => absurd q9 (by decide +kernel)) (fun _ => ?_)
    refine lv_iconst (v := 0) hx hb dX7_most_49 (by decide +kernel) ?_
    refine lv_istore (lv' := [(6, .int 0), (5, .int 0), (4, .int (-1)), (3, .int (-1)), (0, .ref p0), (1, .int 3), (2, .int p2)]) hx hb dX7_most_50 hl (by decide) rfl (fun ls hl => ?_)
    refine lv_iload hx hb dX7_most_52 (lv_at hl 0 rfl) ?_
    refine lv_iconst (v := 1) hx hb dX7_most_54 (by decide +kernel) ?_
    refine lv_aload_n hx hb dX7_most_55 rfl (lv_at hl 4 rfl) ?_
    refine k_get (D := (dC, dI)) (ci := 7) (v := .ref (p3 14)) (C := RX7) (T := TX7) (N := 92) hx hb hts hinX7 hown hK hP 4 rfl rfl 14 (by decide) w_1 rfl rfl dX7_most_56 ?_
    refine lv_aload_n hx hb dX7_most_59 rfl (lv_at hl 4 rfl) ?_
    refine k_get (D := (dC, dI)) (ci := 7) (v := .int 0) (C := RX7) (T := TX7) (N := 92) hx hb hts hinX7 hown hK hP 4 rfl rfl 13 (by decide) w_2 rfl rfl dX7_most_60 ?_
    refine k_iald (v := 0) hx hb hK hP 5 0 0 rfl rfl rfl (Nat.le_of_ble_eq_true rfl) (Nat.le_of_ble_eq_true rfl) rfl dX7_most_63 ?_
    refine lv_ishl hx hb dX7_most_64 ?_
    refine k_int (v := 1) (by decide +kernel) ?_
    refine lv_icmp_ge (tgt := 160) hx hb dX7_most_65 (by decide) (fun q9 => absurd q9 (by decide +kernel)) (fun _ => ?_)
    refine lv_aload_n hx hb dX7_most_68 rfl (lv_at hl 4 rfl) ?_
    refine k_get (D := (dC, dI)) (ci := 7) (v := .ref (p3 72)) (C := RX7) (T := TX7) (N := 92) hx hb hts hinX7 hown hK hP 4 rfl rfl 72 (by decide) w_3 rfl rfl dX7_most_69 ?_
    refine lv_sipush (v := 1024) hx hb dX7_most_72 (by decide +kernel) ?_
    refine lv_iload hx hb dX7_most_75 (lv_at hl 1 rfl) ?_
    refine lv_imul hx hb dX7_most_77 ?_
    refine k_int (v := 0) (by decide +kernel) ?_
    refine lv_iload hx hb dX7_most_78 (lv_at hl 0 rfl) ?_
    refine lv_iadd hx hb dX7_most_80 ?_
    refine k_int (v := 0) (by decide +kernel) ?_
    refine k_iald (v := 0) hx hb hK hP 2 0 0 rfl rfl rfl (Nat.le_of_ble_eq_true rfl) (Nat.le_of_ble_eq_true rfl) rfl dX7_most_81 ?_
    refine lv_istore (lv' := [(7, .int 0), (6, .int 0), (5, .int 0), (4, .int (-1)), (3, .int (-1)), (0, .ref p0), (1, .int 3), (2, .int p2)]) hx hb dX7_most_82 hl (by decide) rfl (fun ls hl => ?_)
    refine lv_iload hx hb dX7_most_84 (lv_at hl 0 rfl) ?_
    refine lv_iconst (v := (-1)) hx hb dX7_most_86 (by decide +kernel) ?_
    refine lv_icmp_ne (tgt := 93) hx hb dX7_most_87 (by decide) (fun _ => ?_) (fun q9 => absurd q9 (by decide +kernel))
    refine lv_aload_n hx hb dX7_most_93 rfl (lv_at hl 5 rfl) ?_
    refine lv_iload hx hb dX7_most_94 (lv_at hl 1 rfl) ?_
    refine lv_iload_n hx hb dX7_most_96 rfl (lv_at hl 4 rfl) ?_
    refine lv_iand hx hb dX7_most_97 ?_
    refine k_int (v := 0) (by decide +kernel) ?_
    refine k_ci (wc := [(p0, .inr (7, oM p3 (upd i7 75 (-1)) j7)), ((p3 14), .inl (cI, 2, .inl (fun _ => 0)))]) (wr := [((p3 49), .inl (cI, 22, .inl (fun _ => 0))), ((p3 50), .inl (cI, 22, .inl (fun _ => 0))), ((p3 72), .inl (cI, 9216, .inl (upd (fun _ => (-1)) 0 0))), ((p3 18), .inl (cI, 2, .inl (fun _ => 0)))]) (fun hPc hDc hFc => va_runV (As := [.int 0]) (rest := []) ⟨hx, hb, hml, hown, hts⟩ (c_X7_worthOf_v1 l dC dI cI cJ cZ cM p0 p3 H.size) (cwV 1 hts gX7_most_X7_worthOf rfl rfl rfl (by decide +kernel) ⟨(Nat.le_of_ble_eq_true rfl), (Nat.le_of_ble_eq_true rfl)⟩) (k_pV hPc hDc hK hN hC hS hFc hP (q0 := 4) (ci := 7) rfl rfl) rfl rfl hl.1 rfl (lv_room (Nat.le_of_ble_eq_true rfl)) dX7_most_98 ⟨(Nat.le_of_ble_eq_true rfl), (Nat.le_of_ble_eq_true rfl)⟩) hP hD hS hA [4, 5] [0, 1, 2, 3] rfl rfl rfl rfl (by decide) (fun _ => rfl) 0 0 rfl rfl (fun r_43 u_44 H locs hw hP hD hS => ?_)
    obtain rfl : r_43 = 0 := hw
    have hP : va_P (dC, dI) vwCl [((p3 49), .inl (cI, 22, .inl (fun _ => 0))), ((p3 50), .inl (cI, 22, .inl (fun _ => 0))), ((p3 72), .inl (cI, 9216, .inl (upd (fun _ => (-1)) 0 0))), ((p3 18), .inl (cI, 2, .inl (fun _ => 0))), (p0, .inr (7, oM p3 (upd i7 75 (-1)) j7)), ((p3 14), .inl (cI, 2, .inl (fun _ => 0)))] H := hP
    have hD : va_D A [((p3 49), .inl (cI, 22, .inl (fun _ => 0))), ((p3 50), .inl (cI, 22, .inl (fun _ => 0))), ((p3 72), .inl (cI, 9216, .inl (upd (fun _ => (-1)) 0 0))), ((p3 18), .inl (cI, 2, .inl (fun _ => 0))), (p0, .inr (7, oM p3 (upd i7 75 (-1)) j7)), ((p3 14), .inl (cI, 2, .inl (fun _ => 0)))] := hD
    refine lv_istore (lv' := [(8, .int 0), (7, .int 0), (6, .int 0), (5, .int 0), (4, .int (-1)), (3, .int (-1)), (0, .ref p0), (1, .int 3), (2, .int p2)]) hx hb dX7_most_101 hl (by decide) rfl (fun ls hl => ?_)
    refine lv_iload hx hb dX7_most_103 (lv_at hl 0 rfl) ?_
    refine lv_iload hx hb dX7_most_105 (lv_at hl 4 rfl) ?_
    refine lv_icmp_lt (tgt := 154) hx hb dX7_most_107 (by decide) (fun q9 => absurd q9 (by decide +kernel)) (fun _ => ?_)
    refine lv_iload hx hb dX7_most_110 (lv_at hl 0 rfl) ?_
    refine lv_iload hx hb dX7_most_112 (lv_at hl 4 rfl) ?_
    refine lv_icmp_ne (tgt := 138) hx hb dX7_most_114 (by decide) (fun _ => ?_) (fun q9 => absurd q9 (by decide +kernel))
    refine lv_iload hx hb dX7_most_138 (lv_at hl 0 rfl) ?_
    refine lv_istore (lv' := [(4, .int 0), (8, .int 0), (7, .int 0), (6, .int 0), (5, .int 0), (3, .int (-1)), (0, .ref p0), (1, .int 3), (2, .int p2)]) hx hb dX7_most_140 hl (by decide) rfl (fun ls hl => ?_)
    refine lv_aload_n hx hb dX7_most_142 rfl (lv_at hl 6 rfl) ?_
    refine lv_iload hx hb dX7_most_143 (lv_at hl 4 rfl) ?_
    refine k_put (D := (dC, dI)) (ci := 7) (v := .int 0) (C := RX7) (T := TX7) (N := 92) (ws' := [((p3 49), .inl (cI, 22, .inl (fun _ => 0))), ((p3 50), .inl (cI, 22, .inl (fun _ => 0))), ((p3 72), .inl (cI, 9216, .inl (upd (fun _ => (-1)) 0 0))), ((p3 18), .inl (cI, 2, .inl (fun _ => 0))), (p0, .inr (7, oM p3 (upd i7 75 0) j7)), ((p3 14), .inl (cI, 2, .inl (fun _ => 0)))]) hx hb hts hinX7 tyX7 tyX7_ok nmX7 hown hK hP hD hS 4 rfl rfl 75 (by decide) w_0 rfl rfl rfl rfl (Nat.le_of_ble_eq_true rfl) rfl dX7_most_145 (fun H locs hP hD hS => ?_)
    refine lv_aload_n hx hb dX7_most_148 rfl (lv_at hl 6 rfl) ?_
    refine lv_iload hx hb dX7_most_149 (lv_at hl 3 rfl) ?_
    refine k_put (D := (dC, dI)) (ci := 7) (v := .int 0) (C := RX7) (T := TX7) (N := 92) (ws' := [((p3 49), .inl (cI, 22, .inl (fun _ => 0))), ((p3 50), .inl (cI, 22, .inl (fun _ => 0))), ((p3 72), .inl (cI, 9216, .inl (upd (fun _ => (-1)) 0 0))), ((p3 18), .inl (cI, 2, .inl (fun _ => 0))), (p0, .inr (7, oM p3 (upd (upd i7 75 0) 76 0) j7)), ((p3 14), .inl (cI, 2, .inl (fun _ => 0)))]) hx hb hts hinX7 tyX7 tyX7_ok nmX7 hown hK hP hD hS 4 rfl rfl 76 (by decide) w_4 rfl rfl rfl rfl (Nat.le_of_ble_eq_true rfl) rfl dX7_most_151 (fun H locs hP hD hS => ?_)
    refine lv_iinc (v := 1) (lv' := [(6, .int 1), (4, .int 0), (8, .int 0), (7, .int 0), (5, .int 0), (3, .int (-1)), (0, .ref p0), (1, .int 3), (2, .int p2)]) hx hb dX7_most_154 hl (k := 3) rfl (by decide +kernel) (by decide) rfl (fun ls hl => ?_)
    refine lv_goto (tgt := 52) hx hb dX7_most_157 (by decide) ?_
    refine lv_iload hx hb dX7_most_52 (lv_at hl 0 rfl) ?_
    refine lv_iconst (v := 1) hx hb dX7_most_54 (by decide +kernel) ?_
    refine lv_aload_n hx hb dX7_most_55 rfl (lv_at hl 6 rfl) ?_
    refine k_get (D := (dC, dI)) (ci := 7) (v := .ref (p3 14)) (C := RX7) (T := TX7) (N := 92) hx hb hts hinX7 hown hK hP 4 rfl rfl 14 (by decide) w_1 rfl rfl dX7_most_56 ?_
    refine lv_aload_n hx hb dX7_most_59 rfl (lv_at hl 6 rfl) ?_
    refine k_get (D := (dC, dI)) (ci := 7) (v := .int 0) (C := RX7) (T := TX7) (N := 92) hx hb hts hinX7 hown hK hP 4 rfl rfl 13 (by decide) w_2 rfl rfl dX7_most_60 ?_
    refine k_iald (v := 0) hx hb hK hP 5 0 0 rfl rfl rfl (Nat.le_of_ble_eq_true rfl) (Nat.le_of_ble_eq_true rfl) rfl dX7_most_63 ?_
    refine lv_ishl hx hb dX7_most_64 ?_
    refine k_int (v := 1) (by decide +kernel) ?_
    refine lv_icmp_ge (tgt := 160) hx hb dX7_most_65 (by decide) (fun _ => ?_) (fun q9 => absurd q9 (by decide +kernel))
    refine lv_iinc (v := 1) (lv' := [(5, .int 1), (6, .int 1), (4, .int 0), (8, .int 0), (7, .int 0), (3, .int (-1)), (0, .ref p0), (1, .int 3), (2, .int p2)]) hx hb dX7_most_160 hl (k := 4) rfl (by decide +kernel) (by decide) rfl (fun ls hl => ?_)
    refine lv_goto (tgt := 43) hx hb dX7_most_163 (by decide) ?_
    refine lv_iload hx hb dX7_most_43 (lv_at hl 0 rfl) ?_
    refine lv_iload_n hx hb dX7_most_45 rfl (lv_at hl 7 rfl) ?_
    refine lv_icmp_gt (tgt := 166) hx hb dX7_most_46 (by decide) (fun q9 => absurd q9 (by decide +kernel)) (fun _ => ?_)
    refine lv_iconst (v := 0) hx hb dX7_most_49 (by decide +kernel) ?_
    refine lv_istore (lv' := [(6, .int 0), (5, .int 1), (4, .int 0), (8, .int 0), (7, .int 0), (3, .int (-1)), (0, .ref p0), (1, .int 3), (2, .int p2)]) hx hb dX7_most_50 hl (by decide) rfl (fun ls hl => ?_)
    refine lv_iload hx hb dX7_most_52 (lv_at hl 0 rfl) ?_
    refine lv_iconst (v := 1) hx hb dX7_most_54 (by decide +kernel) ?_
    refine lv_aload_n hx hb dX7_most_55 rfl (lv_at hl 6 rfl) ?_
    refine k_get (D := (dC, dI)) (ci := 7) (v := .ref (p3 14)) (C := RX7) (T := TX7) (N := 92) hx hb hts hinX7 hown hK hP 4 rfl rfl 14 (by decide) w_1 rfl rfl dX7_most_56 ?_
    refine lv_aload_n hx hb dX7_most_59 rfl (lv_at hl 6 rfl) ?_
    refine k_get (D := (dC, dI)) (ci := 7) (v := .int 0) (C := RX7) (T := TX7) (N := 92) hx hb hts hinX7 hown hK hP 4 rfl rfl 13 (by decide) w_2 rfl rfl dX7_most_60 ?_
    refine k_iald (v := 0) hx hb hK hP 5 0 0 rfl rfl rfl (Nat.le_of_ble_eq_true rfl) (Nat.le_of_ble_eq_true rfl) rfl dX7_most_63 ?_
    refine lv_ishl hx hb dX7_most_64 ?_
    refine k_int (v := 1) (by decide +kernel) ?_
    refine lv_icmp_ge (tgt := 160) hx hb dX7_most_65 (by decide) (fun q9 => absurd q9 (by decide +kernel)) (fun _ => ?_)
    refine lv_aload_n hx hb dX7_most_68 rfl (lv_at hl 6 rfl) ?_
    refine k_get (D := (dC, dI)) (ci := 7) (v := .ref (p3 72)) (C := RX7) (T := TX7) (N := 92) hx hb hts hinX7 hown hK hP 4 rfl rfl 72 (by decide) w_3 rfl rfl dX7_most_69 ?_
    refine lv_sipush (v := 1024) hx hb dX7_most_72 (by decide +kernel) ?_
    refine lv_iload hx hb dX7_most_75 (lv_at hl 1 rfl) ?_
    refine lv_imul hx hb dX7_most_77 ?_
    refine k_int (v := 1024) (by decide +kernel) ?_
    refine lv_iload hx hb dX7_most_78 (lv_at hl 0 rfl) ?_
    refine lv_iadd hx hb dX7_most_80 ?_
    refine k_int (v := 1024) (by decide +kernel) ?_
    refine k_iald (v := (-1)) hx hb hK hP 2 0 1024 rfl rfl rfl (Nat.le_of_ble_eq_true rfl) (Nat.le_of_ble_eq_true rfl) rfl dX7_most_81 ?_
    refine lv_istore (lv' := [(7, .int (-1)), (6, .int 0), (5, .int 1), (4, .int 0), (8, .int 0), (3, .int (-1)), (0, .ref p0), (1, .int 3), (2, .int p2)]) hx hb dX7_most_82 hl (by decide) rfl (fun ls hl => ?_)
    refine lv_iload hx hb dX7_most_84 (lv_at hl 0 rfl) ?_
    refine lv_iconst (v := (-1)) hx hb dX7_most_86 (by decide +kernel) ?_
    refine lv_icmp_ne (tgt := 93) hx hb dX7_most_87 (by decide) (fun q9 => absurd q9 (by decide +kernel)) (fun _ => ?_)
    refine lv_goto (tgt := 154) hx hb dX7_most_90 (by decide) ?_
    refine lv_iinc (v := 1) (lv' := [(6, .int 1), (7, .int (-1)), (5, .int 1), (4, .int 0), (8, .int 0), (3, .int (-1)), (0, .ref p0), (1, .int 3), (2, .int p2)]) hx hb dX7_most_154 hl (k := 1) rfl (by decide +kernel) (by decide) rfl (fun ls hl => ?_)
    refine lv_goto (tgt := 52) hx hb dX7_most_157 (by decide) ?_
    refine lv_iload hx hb dX7_most_52 (lv_at hl 0 rfl) ?_
    refine lv_iconst (v := 1) hx hb dX7_most_54 (by decide +kernel) ?_
    refine lv_aload_n hx hb dX7_most_55 rfl (lv_at hl 6 rfl) ?_
    refine k_get (D := (dC, dI)) (ci := 7) (v := .ref (p3 14)) (C := RX7) (T := TX7) (N := 92) hx hb hts hinX7 hown hK hP 4 rfl rfl 14 (by decide) w_1 rfl rfl dX7_most_56 ?_
    refine lv_aload_n hx hb dX7_most_59 rfl (lv_at hl 6 rfl) ?_
    refine k_get (D := (dC, dI)) (ci := 7) (v := .int 0) (C := RX7) (T := TX7) (N := 92) hx hb hts hinX7 hown hK hP 4 rfl rfl 13 (by decide) w_2 rfl rfl dX7_most_60 ?_
    refine k_iald (v := 0) hx hb hK hP 5 0 0 rfl rfl rfl (Nat.le_of_ble_eq_true rfl) (Nat.le_of_ble_eq_true rfl) rfl dX7_most_63 ?_
    refine lv_ishl hx hb dX7_most_64 ?_
    refine k_int (v := 1) (by decide +kernel) ?_
    refine lv_icmp_ge (tgt := 160) hx hb dX7_most_65 (by decide) (fun _ => ?_) (fun q9 => absurd q9 (by decide +kernel))
    refine lv_iinc (v := 2) (lv' := [(5, .int 2), (6, .int 1), (7, .int (-1)), (4, .int 0), (8, .int 0), (3, .int (-1)), (0, .ref p0), (1, .int 3), (2, .int p2)]) hx hb dX7_most_160 hl (k := 2) rfl (by decide +kernel) (by decide) rfl (fun ls hl => ?_)
    refine lv_goto (tgt := 43) hx hb dX7_most_163 (by decide) ?_
    refine lv_iload hx hb dX7_most_43 (lv_at hl 0 rfl) ?_
    refine lv_iload_n hx hb dX7_most_45 rfl (lv_at hl 7 rfl) ?_
    refine lv_icmp_gt (tgt := 166) hx hb dX7_most_46 (by decide) (fun q9 => absurd q9 (by decide +kernel)) (fun _ => ?_)
    refine lv_iconst (v := 0) hx hb dX7_most_49 (by decide +kernel) ?_
    refine lv_istore (lv' := [(6, .int 0), (5, .int 2), (7, .int (-1)), (4, .int 0), (8, .int 0), (3, .int (-1)), (0, .ref p0), (1, .int 3), (2, .int p2)]) hx hb dX7_most_50 hl (by decide) rfl (fun ls hl => ?_)
    refine lv_iload hx hb dX7_most_52 (lv_at hl 0 rfl) ?_
    refine lv_iconst (v := 1) hx hb dX7_most_54 (by decide +kernel) ?_
    refine lv_aload_n hx hb dX7_most_55 rfl (lv_at hl 6 rfl) ?_
    refine k_get (D := (dC, dI)) (ci := 7) (v := .ref (p3 14)) (C := RX7) (T := TX7) (N := 92) hx hb hts hinX7 hown hK hP 4 rfl rfl 14 (by decide) w_1 rfl rfl dX7_most_56 ?_
    refine lv_aload_n hx hb dX7_most_59 rfl (lv_at hl 6 rfl) ?_
    refine k_get (D := (dC, dI)) (ci := 7) (v := .int 0) (C := RX7) (T := TX7) (N := 92) hx hb hts hinX7 hown hK hP 4 rfl rfl 13 (by decide) w_2 rfl rfl dX7_most_60 ?_
    refine k_iald (v := 0) hx hb hK hP 5 0 0 rfl rfl rfl (Nat.le_of_ble_eq_true rfl) (Nat.le_of_ble_eq_true rfl) rfl dX7_most_63 ?_
    refine lv_ishl hx hb dX7_most_64 ?_
    refine k_int (v := 1) (by decide +kernel) ?_
    refine lv_icmp_ge (tgt := 160) hx hb dX7_most_65 (by decide) (fun q9 => absurd q9 (by decide +kernel)) (fun _ => ?_)
    refine lv_aload_n hx hb dX7_most_68 rfl (lv_at hl 6 rfl) ?_
    refine k_get (D := (dC, dI)) (ci := 7) (v := .ref (p3 72)) (C := RX7) (T := TX7) (N := 92) hx hb hts hinX7 hown hK hP 4 rfl rfl 72 (by decide) w_3 rfl rfl dX7_most_69 ?_
    refine lv_sipush (v := 1024) hx hb dX7_most_72 (by decide +kernel) ?_
    refine lv_iload hx hb dX7_most_75 (lv_at hl 1 rfl) ?_
    refine lv_imul hx hb dX7_most_77 ?_
    refine k_int (v := 2048) (by decide +kernel) ?_
    refine lv_iload hx hb dX7_most_78 (lv_at hl 0 rfl) ?_
    refine lv_iadd hx hb dX7_most_80 ?_
    refine k_int (v := 2048) (by decide +kernel) ?_
    refine k_iald (v := (-1)) hx hb hK hP 2 0 2048 rfl rfl rfl (Nat.le_of_ble_eq_true rfl) (Nat.le_of_ble_eq_true rfl) rfl dX7_most_81 ?_
    refine lv_istore (lv' := [(7, .int (-1)), (6, .int 0), (5, .int 2), (4, .int 0), (8, .int 0), (3, .int (-1)), (0, .ref p0), (1, .int 3), (2, .int p2)]) hx hb dX7_most_82 hl (by decide) rfl (fun ls hl => ?_)
    refine lv_iload hx hb dX7_most_84 (lv_at hl 0 rfl) ?_
    refine lv_iconst (v := (-1)) hx hb dX7_most_86 (by decide +kernel) ?_
    refine lv_icmp_ne (tgt := 93) hx hb dX7_most_87 (by decide) (fun q9 => absurd q9 (by decide +kernel)) (fun _ => ?_)
    refine lv_goto (tgt := 154) hx hb dX7_most_90 (by decide) ?_
    refine lv_iinc (v := 1) (lv' := [(6, .int 1), (7, .int (-1)), (5, .int 2), (4, .int 0), (8, .int 0), (3, .int (-1)), (0, .ref p0), (1, .int 3), (2, .int p2)]) hx hb dX7_most_154 hl (k := 1) rfl (by decide +kernel) (by decide) rfl (fun ls hl => ?_)
    refine lv_goto (tgt := 52) hx hb dX7_most_157 (by decide) ?_
    refine lv_iload hx hb dX7_most_52 (lv_at hl 0 rfl) ?_
    refine lv_iconst (v := 1) hx hb dX7_most_54 (by decide +kernel) ?_
    refine lv_aload_n hx hb dX7_most_55 rfl (lv_at hl 6 rfl) ?_
    refine k_get (D := (dC, dI)) (ci := 7) (v := .ref (p3 14)) (C := RX7) (T := TX7) (N := 92) hx hb hts hinX7 hown hK hP 4 rfl rfl 14 (by decide) w_1 rfl rfl dX7_most_56 ?_
    refine lv_aload_n hx hb dX7_most_59 rfl (lv_at hl 6 rfl) ?_
    refine k_get (D := (dC, dI)) (ci := 7) (v := .int 0) (C := RX7) (T := TX7) (N := 92) hx hb hts hinX7 hown hK hP 4 rfl rfl 13 (by decide) w_2 rfl rfl dX7_most_60 ?_
    refine k_iald (v := 0) hx hb hK hP 5 0 0 rfl rfl rfl (Nat.le_of_ble_eq_true rfl) (Nat.le_of_ble_eq_true rfl) rfl dX7_most_63 ?_
    refine lv_ishl hx hb dX7_most_64 ?_
    refine k_int (v := 1) (by decide +kernel) ?_
    refine lv_icmp_ge (tgt := 160) hx hb dX7_most_65 (by decide) (fun _ => ?_) (fun q9 => absurd q9 (by decide +kernel))
    refine lv_iinc (v := 3) (lv' := [(5, .int 3), (6, .int 1), (7, .int (-1)), (4, .int 0), (8, .int 0), (3, .int (-1)), (0, .ref p0), (1, .int 3), (2, .int p2)]) hx hb dX7_most_160 hl (k := 2) rfl (by decide +kernel) (by decide) rfl (fun ls hl => ?_)
    refine lv_goto (tgt := 43) hx hb dX7_most_163 (by decide) ?_
    refine lv_iload hx hb dX7_most_43 (lv_at hl 0 rfl) ?_
    refine lv_iload_n hx hb dX7_most_45 rfl (lv_at hl 7 rfl) ?_
    refine lv_icmp_gt (tgt := 166) hx hb dX7_most_46 (by decide) (fun q9 => absurd q9 (by decide +kernel)) (fun _ => ?_)
    refine lv_iconst (v := 0) hx hb dX7_most_49 (by decide +kernel) ?_
    refine lv_istore (lv' := [(6, .int 0), (5, .int 3), (7, .int (-1)), (4, .int 0), (8, .int 0), (3, .int (-1)), (0, .ref p0), (1, .int 3), (2, .int p2)]) hx hb dX7_most_50 hl (by decide) rfl (fun ls hl => ?_)
    refine lv_iload hx hb dX7_most_52 (lv_at hl 0 rfl) ?_
    refine lv_iconst (v := 1) hx hb dX7_most_54 (by decide +kernel) ?_
    refine lv_aload_n hx hb dX7_most_55 rfl (lv_at hl 6 rfl) ?_
    refine k_get (D := (dC, dI)) (ci := 7) (v := .ref (p3 14)) (C := RX7) (T := TX7) (N := 92) hx hb hts hinX7 hown hK hP 4 rfl rfl 14 (by decide) w_1 rfl rfl dX7_most_56 ?_
    refine lv_aload_n hx hb dX7_most_59 rfl (lv_at hl 6 rfl) ?_
    refine k_get (D := (dC, dI)) (ci := 7) (v := .int 0) (C := RX7) (T := TX7) (N := 92) hx hb hts hinX7 hown hK hP 4 rfl rfl 13 (by decide) w_2 rfl rfl dX7_most_60 ?_
    refine k_iald (v := 0) hx hb hK hP 5 0 0 rfl rfl rfl (Nat.le_of_ble_eq_true rfl) (Nat.le_of_ble_eq_true rfl) rfl dX7_most_63 ?_
    refine lv_ishl hx hb dX7_most_64 ?_
    refine k_int (v := 1) (by decide +kernel) ?_
    refine lv_icmp_ge (tgt := 160) hx hb dX7_most_65 (by decide) (fun q9 => absurd q9 (by decide +kernel)) (fun _ => ?_)
    refine lv_aload_n hx hb dX7_most_68 rfl (lv_at hl 6 rfl) ?_
    refine k_get (D := (dC, dI)) (ci := 7) (v := .ref (p3 72)) (C := RX7) (T := TX7) (N := 92) hx hb hts hinX7 hown hK hP 4 rfl rfl 72 (by decide) w_3 rfl rfl dX7_most_69 ?_
    refine lv_sipush (v := 1024) hx hb dX7_most_72 (by decide +kernel) ?_
    refine lv_iload hx hb dX7_most_75 (lv_at hl 1 rfl) ?_
    refine lv_imul hx hb dX7_most_77 ?_
    refine k_int (v := 3072) (by decide +kernel) ?_
    refine lv_iload hx hb dX7_most_78 (lv_at hl 0 rfl) ?_
    refine lv_iadd hx hb dX7_most_80 ?_
    refine k_int (v := 3072) (by decide +kernel) ?_
    refine k_iald (v := (-1)) hx hb hK hP 2 0 3072 rfl rfl rfl (Nat.le_of_ble_eq_true rfl) (Nat.le_of_ble_eq_true rfl) rfl dX7_most_81 ?_
    refine lv_istore (lv' := [(7, .int (-1)), (6, .int 0), (5, .int 3), (4, .int 0), (8, .int 0), (3, .int (-1)), (0, .ref p0), (1, .int 3), (2, .int p2)]) hx hb dX7_most_82 hl (by decide) rfl (fun ls hl => ?_)
    refine lv_iload hx hb dX7_most_84 (lv_at hl 0 rfl) ?_
    refine lv_iconst (v := (-1)) hx hb dX7_most_86 (by decide +kernel) ?_
    refine lv_icmp_ne (tgt := 93) hx hb dX7_most_87 (by decide) (fun q9 => absurd q9 (by decide +kernel)) (fun _ => ?_)
    refine lv_goto (tgt := 154) hx hb dX7_most_90 (by decide) ?_
    refine lv_iinc (v := 1) (lv' := [(6, .int 1), (7, .int (-1)), (5, .int 3), (4, .int 0), (8, .int 0), (3, .int (-1)), (0, .ref p0), (1, .int 3), (2, .int p2)]) hx hb dX7_most_154 hl (k := 1) rfl (by decide +kernel) (by decide) rfl (fun ls hl => ?_)
    refine lv_goto (tgt := 52) hx hb dX7_most_157 (by decide) ?_
    refine lv_iload hx hb dX7_most_52 (lv_at hl 0 rfl) ?_
    refine lv_iconst (v := 1) hx hb dX7_most_54 (by decide +kernel) ?_
    refine lv_aload_n hx hb dX7_most_55 rfl (lv_at hl 6 rfl) ?_
    refine k_get (D := (dC, dI)) (ci := 7) (v := .ref (p3 14)) (C := RX7) (T := TX7) (N := 92) hx hb hts hinX7 hown hK hP 4 rfl rfl 14 (by decide) w_1 rfl rfl dX7_most_56 ?_
    refine lv_aload_n hx hb dX7_most_59 rfl (lv_at hl 6 rfl) ?_
    refine k_get (D := (dC, dI)) (ci := 7) (v := .int 0) (C := RX7) (T := TX7) (N := 92) hx hb hts hinX7 hown hK hP 4 rfl rfl 13 (by decide) w_2 rfl rfl dX7_most_60 ?_
    refine k_iald (v := 0) hx hb hK hP 5 0 0 rfl rfl rfl (Nat.le_of_ble_eq_true rfl) (Nat.le_of_ble_eq_true rfl) rfl dX7_most_63 ?_
    refine lv_ishl hx hb dX7_most_64 ?_
    refine k_int (v := 1) (by decide +kernel) ?_
    refine lv_icmp_ge (tgt := 160) hx hb dX7_most_65 (by decide) (fun _ => ?_) (fun q9 => absurd q9 (by decide +kernel))
    refine lv_iinc (v := 4) (lv' := [(5, .int 4), (6, .int 1), (7, .int (-1)), (4, .int 0), (8, .int 0), (3, .int (-1)), (0, .ref p0), (1, .int 3), (2, .int p2)]) hx hb dX7_most_160 hl (k := 2) rfl (by decide +kernel) (by decide) rfl (fun ls hl => ?_)
    refine lv_goto (tgt := 43) hx hb dX7_most_163 (by decide) ?_
    refine lv_iload hx hb dX7_most_43 (lv_at hl 0 rfl) ?_
    refine lv_iload_n hx hb dX7_most_45 rfl (lv_at hl 7 rfl) ?_
    refine lv_icmp_gt (tgt := 166) hx hb dX7_most_46 (by decide) (fun _ => ?_) (fun q9 => absurd q9 (by decide +kernel))
    refine lv_iload_n hx hb dX7_most_166 rfl (lv_at hl 8 rfl) ?_
    refine lv_if_ne (tgt := 175) hx hb dX7_most_167 (by decide) (fun c_45 => ?_) (fun c_45 => ?_)
    · have c_45 : ¬ p2.toInt = 0 := k_eqF rfl (by decide +kernel) c_45
      exfalso; omega
    · have c_45 : p2.toInt = 0 := k_eqT rfl (by decide +kernel) c_45
      refine lv_iload hx hb dX7_most_170 (lv_at hl 3 rfl) ?_
      refine lv_goto (tgt := 203) hx hb dX7_most_172 (by decide) ?_
      exact k_ri B hP hD hS dX7_most_203 () [4, 0, 1, 2, 5, 3] rfl rfl rfl (Nat.le_of_ble_eq_true rfl) (Nat.le_of_ble_eq_true rfl) rfl
  · obtain rfl : p1 = 4 := k_eqL (by decide +kernel) c_1
    refine lv_iload_n hx hb dX7_most_0 rfl (lv_at hl 1 rfl) ?_
    refine lv_iconst (v := 0) hx hb dX7_most_1 (by decide +kernel) ?_
    refine lv_bipush (v := 8) hx hb dX7_most_2 (by decide +kernel) ?_
    refine k_ci (wc := []) (wr := [(p0, .inr (7, oM p3 i7 j7)), ((p3 49), .inl (cI, 22, .inl (fun _ => 0))), ((p3 50), .inl (cI, 22, .inl (fun _ => 0))), ((p3 72), .inl (cI, 9216, .inl (fun _ => 0))), ((p3 14), .inl (cI, 2, .inl (fun _ => 0))), ((p3 18), .inl (cI, 2, .inl (fun _ => 0)))]) (fun hPc hDc hFc => va_runS (As := [.int 4, .int 0, .int 8]) (rest := []) ⟨hx, hb, hml, hown, hts⟩ (c_X7_is_v10 l dC dI cI cJ cZ cM H.size) (va_cwS 3 hts gX7_most_X7_is rfl rfl rfl (by decide +kernel) ⟨(Nat.le_of_ble_eq_true rfl), (Nat.le_of_ble_eq_true rfl)⟩) (k_pS hPc hDc hK hN hC hS hFc) rfl rfl hl.1 rfl (lv_room (Nat.le_of_ble_eq_true rfl)) dX7_most_4 ⟨(Nat.le_of_ble_eq_true rfl), (Nat.le_of_ble_eq_true rfl)⟩) hP hD hS hA [] [0, 1, 2, 3, 4, 5] rfl rfl rfl rfl (by decide) (fun _ => rfl) 0 0 rfl rfl (fun r_46 u_47 H locs hw hP hD hS => ?_)
    obtain rfl : r_46 = 1 := hw
    have hP : va_P (dC, dI) vwCl [(p0, .inr (7, oM p3 i7 j7)), ((p3 49), .inl (cI, 22, .inl (fun _ => 0))), ((p3 50), .inl (cI, 22, .inl (fun _ => 0))), ((p3 72), .inl (cI, 9216, .inl (fun _ => 0))), ((p3 14), .inl (cI, 2, .inl (fun _ => 0))), ((p3 18), .inl (cI, 2, .inl (fun _ => 0)))] H := hP
    have hD : va_D A [(p0, .inr (7, oM p3 i7 j7)), ((p3 49), .inl (cI, 22, .inl (fun _ => 0))), ((p3 50), .inl (cI, 22, .inl (fun _ => 0))), ((p3 72), .inl (cI, 9216, .inl (fun _ => 0))), ((p3 14), .inl (cI, 2, .inl (fun _ => 0))), ((p3 18), .inl (cI, 2, .inl (fun _ => 0)))] := hD
    refine lv_if_eq (tgt := 19) hx hb dX7_most_7 (by decide) (fun q9 => absurd q9 (by decide +kernel)) (fun _ => ?_)
    refine lv_iload_n hx hb dX7_most_10 rfl (lv_at hl 2 rfl) ?_
    refine lv_iconst (v := 0) hx hb dX7_most_11 (by decide +kernel) ?_
    refine lv_iconst (v := 3) hx hb dX7_most_12 (by decide +kernel) ?_
    refine k_ci (wc := []) (wr := [(p0, .inr (7, oM p3 i7 j7)), ((p3 49), .inl (cI, 22, .inl (fun _ => 0))), ((p3 50), .inl (cI, 22, .inl (fun _ => 0))), ((p3 72), .inl (cI, 9216, .inl (fun _ => 0))), ((p3 14), .inl (cI, 2, .inl (fun _ => 0))), ((p3 18), .inl (cI, 2, .inl (fun _ => 0)))]) (fun hPc hDc hFc => va_runS (As := [.int p2, .int 0, .int 3]) (rest := []) ⟨hx, hb, hml, hown, hts⟩ (c_X7_is_v20 l dC dI cI cJ cZ cM p2 (by omega) (by omega) H.size) (va_cwS 3 hts gX7_most_X7_is rfl rfl rfl (by decide +kernel) ⟨(Nat.le_of_ble_eq_true rfl), (Nat.le_of_ble_eq_true rfl)⟩) (k_pS hPc hDc hK hN hC hS hFc) rfl rfl hl.1 rfl (lv_room (Nat.le_of_ble_eq_true rfl)) dX7_most_13 ⟨(Nat.le_of_ble_eq_true rfl), (Nat.le_of_ble_eq_true rfl)⟩) hP hD hS hA [] [0, 1, 2, 3, 4, 5] rfl rfl rfl rfl (by decide) (fun _ => rfl) 0 0 rfl rfl (fun r_48 u_49 H locs hw hP hD hS => ?_)
    obtain rfl : r_48 = 1 := hw
    have hP : va_P (dC, dI) vwCl [(p0, .inr (7, oM p3 i7 j7)), ((p3 49), .inl (cI, 22, .inl (fun _ => 0))), ((p3 50), .inl (cI, 22, .inl (fun _ => 0))), ((p3 72), .inl (cI, 9216, .inl (fun _ => 0))), ((p3 14), .inl (cI, 2, .inl (fun _ => 0))), ((p3 18), .inl (cI, 2, .inl (fun _ => 0)))] H := hP
    have hD : va_D A [(p0, .inr (7, oM p3 i7 j7)), ((p3 49), .inl (cI, 22, .inl (fun _ => 0))), ((p3 50), .inl (cI, 22, .inl (fun _ => 0))), ((p3 72), .inl (cI, 9216, .inl (fun _ => 0))), ((p3 14), .inl (cI, 2, .inl (fun _ => 0))), ((p3 18), .inl (cI, 2, .inl (fun _ => 0)))] := hD
    refine lv_if_ne (tgt := 21) hx hb dX7_most_16 (by decide) (fun _ => ?_) (fun q9 => absurd q9 (by decide +kernel))
    refine lv_aload_n hx hb dX7_most_21 rfl (lv_at hl 0 rfl) ?_
    refine k_cv (wc := [(p0, .inr (7, oM p3 i7 j7)), ((p3 49), .inl (cI, 22, .inl (fun _ => 0))), ((p3 50), .inl (cI, 22, .inl (fun _ => 0))), ((p3 72), .inl (cI, 9216, .inl (fun _ => 0))), ((p3 14), .inl (cI, 2, .inl (fun _ => 0))), ((p3 18), .inl (cI, 2, .inl (fun _ => 0)))]) (wr := []) (fun hPc hDc hFc => va_runV (As := []) (rest := []) ⟨hx, hb, hml, hown, hts⟩ (c_X7_climbs_v0 l dC dI cI cJ cZ cM p0 p3 H.size) (cwV 0 hts gX7_most_X7_climbs rfl rfl rfl (by decide +kernel) ⟨(Nat.le_of_ble_eq_true rfl), (Nat.le_of_ble_eq_true rfl)⟩) (k_pV hPc hDc hK hN hC hS hFc hP (q0 := 0) (ci := 7) rfl rfl) rfl rfl hl.1 rfl (lv_room (Nat.le_of_ble_eq_true rfl)) dX7_most_22 ⟨(Nat.le_of_ble_eq_true rfl), (Nat.le_of_ble_eq_true rfl)⟩) hP hD hS hA [0, 1, 2, 3, 4, 5] [] rfl rfl rfl rfl (by decide) (fun _ => rfl) 0 0 rfl rfl (fun u_51 H locs hw hP hD hS => ?_)
    have hP : va_P (dC, dI) vwCl [(p0, .inr (7, oM p3 i7 j7)), ((p3 49), .inl (cI, 22, .inl (fun _ => 0))), ((p3 50), .inl (cI, 22, .inl (fun _ => 0))), ((p3 72), .inl (cI, 9216, .inl (upd (fun _ => (-1)) 0 0))), ((p3 14), .inl (cI, 2, .inl (fun _ => 0))), ((p3 18), .inl (cI, 2, .inl (fun _ => 0)))] H := hP
    have hD : va_D A [(p0, .inr (7, oM p3 i7 j7)), ((p3 49), .inl (cI, 22, .inl (fun _ => 0))), ((p3 50), .inl (cI, 22, .inl (fun _ => 0))), ((p3 72), .inl (cI, 9216, .inl (upd (fun _ => (-1)) 0 0))), ((p3 14), .inl (cI, 2, .inl (fun _ => 0))), ((p3 18), .inl (cI, 2, .inl (fun _ => 0)))] := hD
    refine lv_aload_n hx hb dX7_most_25 rfl (lv_at hl 0 rfl) ?_
    refine k_ci (wc := [(p0, .inr (7, oM p3 i7 j7)), ((p3 14), .inl (cI, 2, .inl (fun _ => 0)))]) (wr := [((p3 49), .inl (cI, 22, .inl (fun _ => 0))), ((p3 50), .inl (cI, 22, .inl (fun _ => 0))), ((p3 72), .inl (cI, 9216, .inl (upd (fun _ => (-1)) 0 0))), ((p3 18), .inl (cI, 2, .inl (fun _ => 0)))]) (fun hPc hDc hFc => va_runV (As := []) (rest := []) ⟨hx, hb, hml, hown, hts⟩ (c_X7_briefOnes_v2 l dC dI cI cJ cZ cM p0 p3 H.size) (cwV 0 hts gX7_most_X7_briefOnes rfl rfl rfl (by decide +kernel) ⟨(Nat.le_of_ble_eq_true rfl), (Nat.le_of_ble_eq_true rfl)⟩) (k_pV hPc hDc hK hN hC hS hFc hP (q0 := 0) (ci := 7) rfl rfl) rfl rfl hl.1 rfl (lv_room (Nat.le_of_ble_eq_true rfl)) dX7_most_26 ⟨(Nat.le_of_ble_eq_true rfl), (Nat.le_of_ble_eq_true rfl)⟩) hP hD hS hA [0, 4] [1, 2, 3, 5] rfl rfl rfl rfl (by decide) (fun _ => rfl) 0 0 rfl rfl (fun r_52 u_53 H locs hw hP hD hS => ?_)
    obtain rfl : r_52 = 0 := hw
    have hP : va_P (dC, dI) vwCl [((p3 49), .inl (cI, 22, .inl (fun _ => 0))), ((p3 50), .inl (cI, 22, .inl (fun _ => 0))), ((p3 72), .inl (cI, 9216, .inl (upd (fun _ => (-1)) 0 0))), ((p3 18), .inl (cI, 2, .inl (fun _ => 0))), (p0, .inr (7, oM p3 i7 j7)), ((p3 14), .inl (cI, 2, .inl (fun _ => 0)))] H := hP
    have hD : va_D A [((p3 49), .inl (cI, 22, .inl (fun _ => 0))), ((p3 50), .inl (cI, 22, .inl (fun _ => 0))), ((p3 72), .inl (cI, 9216, .inl (upd (fun _ => (-1)) 0 0))), ((p3 18), .inl (cI, 2, .inl (fun _ => 0))), (p0, .inr (7, oM p3 i7 j7)), ((p3 14), .inl (cI, 2, .inl (fun _ => 0)))] := hD
    refine lv_iconst (v := (-1)) hx hb dX7_most_29 (by decide +kernel) ?_
    refine lv_ixor hx hb dX7_most_30 ?_
    refine k_int (v := (-1)) (by decide +kernel) ?_
    refine lv_istore_n (lv' := [(3, .int (-1)), (0, .ref p0), (1, .int 4), (2, .int p2)]) hx hb dX7_most_31 rfl hl (by decide) rfl (fun ls hl => ?_)
    refine lv_aload_n hx hb dX7_most_32 rfl (lv_at hl 1 rfl) ?_
    refine lv_iconst (v := (-1)) hx hb dX7_most_33 (by decide +kernel) ?_
    refine k_put (D := (dC, dI)) (ci := 7) (v := .int (-1)) (C := RX7) (T := TX7) (N := 92) (ws' := [((p3 49), .inl (cI, 22, .inl (fun _ => 0))), ((p3 50), .inl (cI, 22, .inl (fun _ => 0))), ((p3 72), .inl (cI, 9216, .inl (upd (fun _ => (-1)) 0 0))), ((p3 18), .inl (cI, 2, .inl (fun _ => 0))), (p0, .inr (7, oM p3 (upd i7 75 (-1)) j7)), ((p3 14), .inl (cI, 2, .inl (fun _ => 0)))]) hx hb hts hinX7 tyX7 tyX7_ok nmX7 hown hK hP hD hS 4 rfl rfl 75 (by decide) w_0 rfl rfl rfl rfl (Nat.le_of_ble_eq_true rfl) rfl dX7_most_34 (fun H locs hP hD hS => ?_)
    refine lv_iconst (v := (-1)) hx hb dX7_most_37 (by decide +kernel) ?_
    refine lv_istore (lv' := [(4, .int (-1)), (3, .int (-1)), (0, .ref p0), (1, .int 4), (2, .int p2)]) hx hb dX7_most_38 hl (by decide) rfl (fun ls hl => ?_)
    refine lv_iconst (v := 0) hx hb dX7_most_40 (by decide +kernel) ?_
    refine lv_istore (lv' := [(5, .int 0), (4, .int (-1)), (3, .int (-1)), (0, .ref p0), (1, .int 4), (2, .int p2)]) hx hb dX7_most_41 hl (by decide) rfl (fun ls hl => ?_)
    refine lv_iload hx hb dX7_most_43 (lv_at hl 0 rfl) ?_
    refine lv_iload_n hx hb dX7_most_45 rfl (lv_at hl 4 rfl) ?_
    refine lv_icmp_gt (tgt := 166) hx hb dX7_most_46 (by decide) (fun q9 => absurd q9 (by decide +kernel)) (fun _ => ?_)
    refine lv_iconst (v := 0) hx hb dX7_most_49 (by decide +kernel) ?_
    refine lv_istore (lv' := [(6, .int 0), (5, .int 0), (4, .int (-1)), (3, .int (-1)), (0, .ref p0), (1, .int 4), (2, .int p2)]) hx hb dX7_most_50 hl (by decide) rfl (fun ls hl => ?_)
    refine lv_iload hx hb dX7_most_52 (lv_at hl 0 rfl) ?_
    refine lv_iconst (v := 1) hx hb dX7_most_54 (by decide +kernel) ?_
    refine lv_aload_n hx hb dX7_most_55 rfl (lv_at hl 4 rfl) ?_
    refine k_get (D := (dC, dI)) (ci := 7) (v := .ref (p3 14)) (C := RX7) (T := TX7) (N := 92) hx hb hts hinX7 hown hK hP 4 rfl rfl 14 (by decide) w_1 rfl rfl dX7_most_56 ?_
    refine lv_aload_n hx hb dX7_most_59 rfl (lv_at hl 4 rfl) ?_
    refine k_get (D := (dC, dI)) (ci := 7) (v := .int 0) (C := RX7) (T := TX7) (N := 92) hx hb hts hinX7 hown hK hP 4 rfl rfl 13 (by decide) w_2 rfl rfl dX7_most_60 ?_
    refine k_iald (v := 0) hx hb hK hP 5 0 0 rfl rfl rfl (Nat.le_of_ble_eq_true rfl) (Nat.le_of_ble_eq_true rfl) rfl dX7_most_63 ?_
    refine lv_ishl hx hb dX7_most_64 ?_
    refine k_int (v := 1) (by decide +kernel) ?_
    refine lv_icmp_ge (tgt := 160) hx hb dX7_most_65 (by decide) (fun q9 => absurd q9 (by decide +kernel)) (fun _ => ?_)
    refine lv_aload_n hx hb dX7_most_68 rfl (lv_at hl 4 rfl) ?_
    refine k_get (D := (dC, dI)) (ci := 7) (v := .ref (p3 72)) (C := RX7) (T := TX7) (N := 92) hx hb hts hinX7 hown hK hP 4 rfl rfl 72 (by decide) w_3 rfl rfl dX7_most_69 ?_
    refine lv_sipush (v := 1024) hx hb dX7_most_72 (by decide +kernel) ?_
    refine lv_iload hx hb dX7_most_75 (lv_at hl 1 rfl) ?_
    refine lv_imul hx hb dX7_most_77 ?_
    refine k_int (v := 0) (by decide +kernel) ?_
    refine lv_iload hx hb dX7_most_78 (lv_at hl 0 rfl) ?_
    refine lv_iadd hx hb dX7_most_80 ?_
    refine k_int (v := 0) (by decide +kernel) ?_
    refine k_iald (v := 0) hx hb hK hP 2 0 0 rfl rfl rfl (Nat.le_of_ble_eq_true rfl) (Nat.le_of_ble_eq_true rfl) rfl dX7_most_81 ?_
    refine lv_istore (lv' := [(7, .int 0), (6, .int 0), (5, .int 0), (4, .int (-1)), (3, .int (-1)), (0, .ref p0), (1, .int 4), (2, .int p2)]) hx hb dX7_most_82 hl (by decide) rfl (fun ls hl => ?_)
    refine lv_iload hx hb dX7_most_84 (lv_at hl 0 rfl) ?_
    refine lv_iconst (v := (-1)) hx hb dX7_most_86 (by decide +kernel) ?_
    refine lv_icmp_ne (tgt := 93) hx hb dX7_most_87 (by decide) (fun _ => ?_) (fun q9 => absurd q9 (by decide +kernel))
    refine lv_aload_n hx hb dX7_most_93 rfl (lv_at hl 5 rfl) ?_
    refine lv_iload hx hb dX7_most_94 (lv_at hl 1 rfl) ?_
    refine lv_iload_n hx hb dX7_most_96 rfl (lv_at hl 4 rfl) ?_
    refine lv_iand hx hb dX7_most_97 ?_
    refine k_int (v := 0) (by decide +kernel) ?_
    refine k_ci (wc := [(p0, .inr (7, oM p3 (upd i7 75 (-1)) j7)), ((p3 14), .inl (cI, 2, .inl (fun _ => 0)))]) (wr := [((p3 49), .inl (cI, 22, .inl (fun _ => 0))), ((p3 50), .inl (cI, 22, .inl (fun _ => 0))), ((p3 72), .inl (cI, 9216, .inl (upd (fun _ => (-1)) 0 0))), ((p3 18), .inl (cI, 2, .inl (fun _ => 0)))]) (fun hPc hDc hFc => va_runV (As := [.int 0]) (rest := []) ⟨hx, hb, hml, hown, hts⟩ (c_X7_worthOf_v1 l dC dI cI cJ cZ cM p0 p3 H.size) (cwV 1 hts gX7_most_X7_worthOf rfl rfl rfl (by decide +kernel) ⟨(Nat.le_of_ble_eq_true rfl), (Nat.le_of_ble_eq_true rfl)⟩) (k_pV hPc hDc hK hN hC hS hFc hP (q0 := 4) (ci := 7) rfl rfl) rfl rfl hl.1 rfl (lv_room (Nat.le_of_ble_eq_true rfl)) dX7_most_98 ⟨(Nat.le_of_ble_eq_true rfl), (Nat.le_of_ble_eq_true rfl)⟩) hP hD hS hA [4, 5] [0, 1, 2, 3] rfl rfl rfl rfl (by decide) (fun _ => rfl) 0 0 rfl rfl (fun r_54 u_55 H locs hw hP hD hS => ?_)
    obtain rfl : r_54 = 0 := hw
    have hP : va_P (dC, dI) vwCl [((p3 49), .inl (cI, 22, .inl (fun _ => 0))), ((p3 50), .inl (cI, 22, .inl (fun _ => 0))), ((p3 72), .inl (cI, 9216, .inl (upd (fun _ => (-1)) 0 0))), ((p3 18), .inl (cI, 2, .inl (fun _ => 0))), (p0, .inr (7, oM p3 (upd i7 75 (-1)) j7)), ((p3 14), .inl (cI, 2, .inl (fun _ => 0)))] H := hP
    have hD : va_D A [((p3 49), .inl (cI, 22, .inl (fun _ => 0))), ((p3 50), .inl (cI, 22, .inl (fun _ => 0))), ((p3 72), .inl (cI, 9216, .inl (upd (fun _ => (-1)) 0 0))), ((p3 18), .inl (cI, 2, .inl (fun _ => 0))), (p0, .inr (7, oM p3 (upd i7 75 (-1)) j7)), ((p3 14), .inl (cI, 2, .inl (fun _ => 0)))] := hD
    refine lv_istore (lv' := [(8, .int 0), (7, .int 0), (6, .int 0), (5, .int 0), (4, .int (-1)), (3, .int (-1)), (0, .ref p0), (1, .int 4), (2, .int p2)]) hx hb dX7_most_101 hl (by decide) rfl (fun ls hl => ?_)
    refine lv_iload hx hb dX7_most_103 (lv_at hl 0 rfl) ?_
    refine lv_iload hx hb dX7_most_105 (lv_at hl 4 rfl) ?_
    refine lv_icmp_lt (tgt := 154) hx hb dX7_most_107 (by decide) (fun q9 => absurd q9 (by decide +kernel)) (fun _ => ?_)
    refine lv_iload hx hb dX7_most_110 (lv_at hl 0 rfl) ?_
    refine lv_iload hx hb dX7_most_112 (lv_at hl 4 rfl) ?_
    refine lv_icmp_ne (tgt := 138) hx hb dX7_most_114 (by decide) (fun _ => ?_) (fun q9 => absurd q9 (by decide +kernel))
    refine lv_iload hx hb dX7_most_138 (lv_at hl 0 rfl) ?_
    refine lv_istore (lv' := [(4, .int 0), (8, .int 0), (7, .int 0), (6, .int 0), (5, .int 0), (3, .int (-1)), (0, .ref p0), (1, .int 4), (2, .int p2)]) hx hb dX7_most_140 hl (by decide) rfl (fun ls hl => ?_)
    refine lv_aload_n hx hb dX7_most_142 rfl (lv_at hl 6 rfl) ?_
    refine lv_iload hx hb dX7_most_143 (lv_at hl 4 rfl) ?_
    refine k_put (D := (dC, dI)) (ci := 7) (v := .int 0) (C := RX7) (T := TX7) (N := 92) (ws' := [((p3 49), .inl (cI, 22, .inl (fun _ => 0))), ((p3 50), .inl (cI, 22, .inl (fun _ => 0))), ((p3 72), .inl (cI, 9216, .inl (upd (fun _ => (-1)) 0 0))), ((p3 18), .inl (cI, 2, .inl (fun _ => 0))), (p0, .inr (7, oM p3 (upd i7 75 0) j7)), ((p3 14), .inl (cI, 2, .inl (fun _ => 0)))]) hx hb hts hinX7 tyX7 tyX7_ok nmX7 hown hK hP hD hS 4 rfl rfl 75 (by decide) w_0 rfl rfl rfl rfl (Nat.le_of_ble_eq_true rfl) rfl dX7_most_145 (fun H locs hP hD hS => ?_)
    refine lv_aload_n hx hb dX7_most_148 rfl (lv_at hl 6 rfl) ?_
    refine lv_iload hx hb dX7_most_149 (lv_at hl 3 rfl) ?_
    refine k_put (D := (dC, dI)) (ci := 7) (v := .int 0) (C := RX7) (T := TX7) (N := 92) (ws' := [((p3 49), .inl (cI, 22, .inl (fun _ => 0))), ((p3 50), .inl (cI, 22, .inl (fun _ => 0))), ((p3 72), .inl (cI, 9216, .inl (upd (fun _ => (-1)) 0 0))), ((p3 18), .inl (cI, 2, .inl (fun _ => 0))), (p0, .inr (7, oM p3 (upd (upd i7 75 0) 76 0) j7)), ((p3 14), .inl (cI, 2, .inl (fun _ => 0)))]) hx hb hts hinX7 tyX7 tyX7_ok nmX7 hown hK hP hD hS 4 rfl rfl 76 (by decide) w_4 rfl rfl rfl rfl (Nat.le_of_ble_eq_true rfl) rfl dX7_most_151 (fun H locs hP hD hS => ?_)
    refine lv_iinc (v := 1) (lv' := [(6, .int 1), (4, .int 0), (8, .int 0), (7, .int 0), (5, .int 0), (3, .int (-1)), (0, .ref p0), (1, .int 4), (2, .int p2)]) hx hb dX7_most_154 hl (k := 3) rfl (by decide +kernel) (by decide) rfl (fun ls hl => ?_)
    refine lv_goto (tgt := 52) hx hb dX7_most_157 (by decide) ?_
    refine lv_iload hx hb dX7_most_52 (lv_at hl 0 rfl) ?_
    refine lv_iconst (v := 1) hx hb dX7_most_54 (by decide +kernel) ?_
    refine lv_aload_n hx hb dX7_most_55 rfl (lv_at hl 6 rfl) ?_
    refine k_get (D := (dC, dI)) (ci := 7) (v := .ref (p3 14)) (C := RX7) (T := TX7) (N := 92) hx hb hts hinX7 hown hK hP 4 rfl rfl 14 (by decide) w_1 rfl rfl dX7_most_56 ?_
    refine lv_aload_n hx hb dX7_most_59 rfl (lv_at hl 6 rfl) ?_
    refine k_get (D := (dC, dI)) (ci := 7) (v := .int 0) (C := RX7) (T := TX7) (N := 92) hx hb hts hinX7 hown hK hP 4 rfl rfl 13 (by decide) w_2 rfl rfl dX7_most_60 ?_
    refine k_iald (v := 0) hx hb hK hP 5 0 0 rfl rfl rfl (Nat.le_of_ble_eq_true rfl) (Nat.le_of_ble_eq_true rfl) rfl dX7_most_63 ?_
    refine lv_ishl hx hb dX7_most_64 ?_
    refine k_int (v := 1) (by decide +kernel) ?_
    refine lv_icmp_ge (tgt := 160) hx hb dX7_most_65 (by decide) (fun _ => ?_) (fun q9 => absurd q9 (by decide +kernel))
    refine lv_iinc (v := 1) (lv' := [(5, .int 1), (6, .int 1), (4, .int 0), (8, .int 0), (7, .int 0), (3, .int (-1)), (0, .ref p0), (1, .int 4), (2, .int p2)]) hx hb dX7_most_160 hl (k := 4) rfl (by decide +kernel) (by decide) rfl (fun ls hl => ?_)
    refine lv_goto (tgt := 43) hx hb dX7_most_163 (by decide) ?_
    refine lv_iload hx hb dX7_most_43 (lv_at hl 0 rfl) ?_
    refine lv_iload_n hx hb dX7_most_45 rfl (lv_at hl 7 rfl) ?_
    refine lv_icmp_gt (tgt := 166) hx hb dX7_most_46 (by decide) (fun q9 => absurd q9 (by decide +kernel)) (fun _ => ?_)
    refine lv_iconst (v := 0) hx hb dX7_most_49 (by decide +kernel) ?_
    refine lv_istore (lv' := [(6, .int 0), (5, .int 1), (4, .int 0), (8, .int 0), (7, .int 0), (3, .int (-1)), (0, .ref p0), (1, .int 4), (2, .int p2)]) hx hb dX7_most_50 hl (by decide) rfl (fun ls hl => ?_)
    refine lv_iload hx hb dX7_most_52 (lv_at hl 0 rfl) ?_
    refine lv_iconst (v := 1) hx hb dX7_most_54 (by decide +kernel) ?_
    refine lv_aload_n hx hb dX7_most_55 rfl (lv_at hl 6 rfl) ?_
    refine k_get (D := (dC, dI)) (ci := 7) (v := .ref (p3 14)) (C := RX7) (T := TX7) (N := 92) hx hb hts hinX7 hown hK hP 4 rfl rfl 14 (by decide) w_1 rfl rfl dX7_most_56 ?_
    refine lv_aload_n hx hb dX7_most_59 rfl (lv_at hl 6 rfl) ?_
    refine k_get (D := (dC, dI)) (ci := 7) (v := .int 0) (C := RX7) (T := TX7) (N := 92) hx hb hts hinX7 hown hK hP 4 rfl rfl 13 (by decide) w_2 rfl rfl dX7_most_60 ?_
    refine k_iald (v := 0) hx hb hK hP 5 0 0 rfl rfl rfl (Nat.le_of_ble_eq_true rfl) (Nat.le_of_ble_eq_true rfl) rfl dX7_most_63 ?_
    refine lv_ishl hx hb dX7_most_64 ?_
    refine k_int (v := 1) (by decide +kernel) ?_
    refine lv_icmp_ge (tgt := 160) hx hb dX7_most_65 (by decide) (fun q9 => absurd q9 (by decide +kernel)) (fun _ => ?_)
    refine lv_aload_n hx hb dX7_most_68 rfl (lv_at hl 6 rfl) ?_
    refine k_get (D := (dC, dI)) (ci := 7) (v := .ref (p3 72)) (C := RX7) (T := TX7) (N := 92) hx hb hts hinX7 hown hK hP 4 rfl rfl 72 (by decide) w_3 rfl rfl dX7_most_69 ?_
    refine lv_sipush (v := 1024) hx hb dX7_most_72 (by decide +kernel) ?_
    refine lv_iload hx hb dX7_most_75 (lv_at hl 1 rfl) ?_
    refine lv_imul hx hb dX7_most_77 ?_
    refine k_int (v := 1024) (by decide +kernel) ?_
    refine lv_iload hx hb dX7_most_78 (lv_at hl 0 rfl) ?_
    refine lv_iadd hx hb dX7_most_80 ?_
    refine k_int (v := 1024) (by decide +kernel) ?_
    refine k_iald (v := (-1)) hx hb hK hP 2 0 1024 rfl rfl rfl (Nat.le_of_ble_eq_true rfl) (Nat.le_of_ble_eq_true rfl) rfl dX7_most_81 ?_
    refine lv_istore (lv' := [(7, .int (-1)), (6, .int 0), (5, .int 1), (4, .int 0), (8, .int 0), (3, .int (-1)), (0, .ref p0), (1, .int 4), (2, .int p2)]) hx hb dX7_most_82 hl (by decide) rfl (fun ls hl => ?_)
    refine lv_iload hx hb dX7_most_84 (lv_at hl 0 rfl) ?_
    refine lv_iconst (v := (-1)) hx hb dX7_most_86 (by decide +kernel) ?_
    refine lv_icmp_ne (tgt := 93) hx hb dX7_most_87 (by decide) (fun q9 => absurd q9 (by decide +kernel)) (fun _ => ?_)
    refine lv_goto (tgt := 154) hx hb dX7_most_90 (by decide) ?_
    refine lv_iinc (v := 1) (lv' := [(6, .int 1), (7, .int (-1)), (5, .int 1), (4, .int 0), (8, .int 0), (3, .int (-1)), (0, .ref p0), (1, .int 4), (2, .int p2)]) hx hb dX7_most_154 hl (k := 1) rfl (by decide +kernel) (by decide) rfl (fun ls hl => ?_)
    refine lv_goto (tgt := 52) hx hb dX7_most_157 (by decide) ?_
    refine lv_iload hx hb dX7_most_52 (lv_at hl 0 rfl) ?_
    refine lv_iconst (v := 1) hx hb dX7_most_54 (by decide +kernel) ?_
    refine lv_aload_n hx hb dX7_most_55 rfl (lv_at hl 6 rfl) ?_
    refine k_get (D := (dC, dI)) (ci := 7) (v := .ref (p3 14)) (C := RX7) (T := TX7) (N := 92) hx hb hts hinX7 hown hK hP 4 rfl rfl 14 (by decide) w_1 rfl rfl dX7_most_56 ?_
    refine lv_aload_n hx hb dX7_most_59 rfl (lv_at hl 6 rfl) ?_
    refine k_get (D := (dC, dI)) (ci := 7) (v := .int 0) (C := RX7) (T := TX7) (N := 92) hx hb hts hinX7 hown hK hP 4 rfl rfl 13 (by decide) w_2 rfl rfl dX7_most_60 ?_
    refine k_iald (v := 0) hx hb hK hP 5 0 0 rfl rfl rfl (Nat.le_of_ble_eq_true rfl) (Nat.le_of_ble_eq_true rfl) rfl dX7_most_63 ?_
    refine lv_ishl hx hb dX7_most_64 ?_
    refine k_int (v := 1) (by decide +kernel) ?_
    refine lv_icmp_ge (tgt := 160) hx hb dX7_most_65 (by decide) (fun _ => ?_) (fun q9 => absurd q9 (by decide +kernel))
    refine lv_iinc (v := 2) (lv' := [(5, .int 2), (6, .int 1), (7, .int (-1)), (4, .int 0), (8, .int 0), (3, .int (-1)), (0, .ref p0), (1, .int 4), (2, .int p2)]) hx hb dX7_most_160 hl (k := 2) rfl (by decide +kernel) (by decide) rfl (fun ls hl => ?_)
    refine lv_goto (tgt := 43) hx hb dX7_most_163 (by decide) ?_
    refine lv_iload hx hb dX7_most_43 (lv_at hl 0 rfl) ?_
    refine lv_iload_n hx hb dX7_most_45 rfl (lv_at hl 7 rfl) ?_
    refine lv_icmp_gt (tgt := 166) hx hb dX7_most_46 (by decide) (fun q9 => absurd q9 (by decide +kernel)) (fun _ => ?_)
    refine lv_iconst (v := 0) hx hb dX7_most_49 (by decide +kernel) ?_
    refine lv_istore (lv' := [(6, .int 0), (5, .int 2), (7, .int (-1)), (4, .int 0), (8, .int 0), (3, .int (-1)), (0, .ref p0), (1, .int 4), (2, .int p2)]) hx hb dX7_most_50 hl (by decide) rfl (fun ls hl => ?_)
    refine lv_iload hx hb dX7_most_52 (lv_at hl 0 rfl) ?_
    refine lv_iconst (v := 1) hx hb dX7_most_54 (by decide +kernel) ?_
    refine lv_aload_n hx hb dX7_most_55 rfl (lv_at hl 6 rfl) ?_
    refine k_get (D := (dC, dI)) (ci := 7) (v := .ref (p3 14)) (C := RX7) (T := TX7) (N := 92) hx hb hts hinX7 hown hK hP 4 rfl rfl 14 (by decide) w_1 rfl rfl dX7_most_56 ?_
    refine lv_aload_n hx hb dX7_most_59 rfl (lv_at hl 6 rfl) ?_
    refine k_get (D := (dC, dI)) (ci := 7) (v := .int 0) (C := RX7) (T := TX7) (N := 92) hx hb hts hinX7 hown hK hP 4 rfl rfl 13 (by decide) w_2 rfl rfl dX7_most_60 ?_
    refine k_iald (v := 0) hx hb hK hP 5 0 0 rfl rfl rfl (Nat.le_of_ble_eq_true rfl) (Nat.le_of_ble_eq_true rfl) rfl dX7_most_63 ?_
    refine lv_ishl hx hb dX7_most_64 ?_
    refine k_int (v := 1) (by decide +kernel) ?_
    refine lv_icmp_ge (tgt := 160) hx hb dX7_most_65 (by decide) (fun q9 => absurd q9 (by decide +kernel)) (fun _ => ?_)
    refine lv_aload_n hx hb dX7_most_68 rfl (lv_at hl 6 rfl) ?_
    refine k_get (D := (dC, dI)) (ci := 7) (v := .ref (p3 72)) (C := RX7) (T := TX7) (N := 92) hx hb hts hinX7 hown hK hP 4 rfl rfl 72 (by decide) w_3 rfl rfl dX7_most_69 ?_
    refine lv_sipush (v := 1024) hx hb dX7_most_72 (by decide +kernel) ?_
    refine lv_iload hx hb dX7_most_75 (lv_at hl 1 rfl) ?_
    refine lv_imul hx hb dX7_most_77 ?_
    refine k_int (v := 2048) (by decide +kernel) ?_
    refine lv_iload hx hb dX7_most_78 (lv_at hl 0 rfl) ?_
    refine lv_iadd hx hb dX7_most_80 ?_
    refine k_int (v := 2048) (by decide +kernel) ?_
    refine k_iald (v := (-1)) hx hb hK hP 2 0 2048 rfl rfl rfl (Nat.le_of_ble_eq_true rfl) (Nat.le_of_ble_eq_true rfl) rfl dX7_most_81 ?_
    refine lv_istore (lv' := [(7, .int (-1)), (6, .int 0), (5, .int 2), (4, .int 0), (8, .int 0), (3, .int (-1)), (0, .ref p0), (1, .int 4), (2, .int p2)]) hx hb dX7_most_82 hl (by decide) rfl (fun ls hl => ?_)
    refine lv_iload hx hb dX7_most_84 (lv_at hl 0 rfl) ?_
    refine lv_iconst (v := (-1)) hx hb dX7_most_86 (by decide +kernel) ?_
    refine lv_icmp_ne (tgt := 93) hx hb dX7_most_87 (by decide) (fun q9 => absurd q9 (by decide +kernel)) (fun _ => ?_)
    refine lv_goto (tgt := 154) hx hb dX7_most_90 (by decide) ?_
    refine lv_iinc (v := 1) (lv' := [(6, .int 1), (7, .int (-1)), (5, .int 2), (4, .int 0), (8, .int 0), (3, .int (-1)), (0, .ref p0), (1, .int 4), (2, .int p2)]) hx hb dX7_most_154 hl (k := 1) rfl (by decide +kernel) (by decide) rfl (fun ls hl => ?_)
    refine lv_goto (tgt := 52) hx hb dX7_most_157 (by decide) ?_
    refine lv_iload hx hb dX7_most_52 (lv_at hl 0 rfl) ?_
    refine lv_iconst (v := 1) hx hb dX7_most_54 (by decide +kernel) ?_
    refine lv_aload_n hx hb dX7_most_55 rfl (lv_at hl 6 rfl) ?_
    refine k_get (D := (dC, dI)) (ci := 7) (v := .ref (p3 14)) (C := RX7) (T := TX7) (N := 92) hx hb hts hinX7 hown hK hP 4 rfl rfl 14 (by decide) w_1 rfl rfl dX7_most_56 ?_
    refine lv_aload_n hx hb dX7_most_59 rfl (lv_at hl 6 rfl) ?_
    refine k_get (D := (dC, dI)) (ci := 7) (v := .int 0) (C := RX7) (T := TX7) (N := 92) hx hb hts hinX7 hown hK hP 4 rfl rfl 13 (by decide) w_2 rfl rfl dX7_most_60 ?_
    refine k_iald (v := 0) hx hb hK hP 5 0 0 rfl rfl rfl (Nat.le_of_ble_eq_true rfl) (Nat.le_of_ble_eq_true rfl) rfl dX7_most_63 ?_
    refine lv_ishl hx hb dX7_most_64 ?_
    refine k_int (v := 1) (by decide +kernel) ?_
    refine lv_icmp_ge (tgt := 160) hx hb dX7_most_65 (by decide) (fun _ => ?_) (fun q9 => absurd q9 (by decide +kernel))
    refine lv_iinc (v := 3) (lv' := [(5, .int 3), (6, .int 1), (7, .int (-1)), (4, .int 0), (8, .int 0), (3, .int (-1)), (0, .ref p0), (1, .int 4), (2, .int p2)]) hx hb dX7_most_160 hl (k := 2) rfl (by decide +kernel) (by decide) rfl (fun ls hl => ?_)
    refine lv_goto (tgt := 43) hx hb dX7_most_163 (by decide) ?_
    refine lv_iload hx hb dX7_most_43 (lv_at hl 0 rfl) ?_
    refine lv_iload_n hx hb dX7_most_45 rfl (lv_at hl 7 rfl) ?_
    refine lv_icmp_gt (tgt := 166) hx hb dX7_most_46 (by decide) (fun q9 => absurd q9 (by decide +kernel)) (fun _ => ?_)
    refine lv_iconst (v := 0) hx hb dX7_most_49 (by decide +kernel) ?_
    refine lv_istore (lv' := [(6, .int 0), (5, .int 3), (7, .int (-1)), (4, .int 0), (8, .int 0), (3, .int (-1)), (0, .ref p0), (1, .int 4), (2, .int p2)]) hx hb dX7_most_50 hl (by decide) rfl (fun ls hl => ?_)
    refine lv_iload hx hb dX7_most_52 (lv_at hl 0 rfl) ?_
    refine lv_iconst (v := 1) hx hb dX7_most_54 (by decide +kernel) ?_
    refine lv_aload_n hx hb dX7_most_55 rfl (lv_at hl 6 rfl) ?_
    refine k_get (D := (dC, dI)) (ci := 7) (v := .ref (p3 14)) (C := RX7) (T := TX7) (N := 92) hx hb hts hinX7 hown hK hP 4 rfl rfl 14 (by decide) w_1 rfl rfl dX7_most_56 ?_
    refine lv_aload_n hx hb dX7_most_59 rfl (lv_at hl 6 rfl) ?_
    refine k_get (D := (dC, dI)) (ci := 7) (v := .int 0) (C := RX7) (T := TX7) (N := 92) hx hb hts hinX7 hown hK hP 4 rfl rfl 13 (by decide) w_2 rfl rfl dX7_most_60 ?_
    refine k_iald (v := 0) hx hb hK hP 5 0 0 rfl rfl rfl (Nat.le_of_ble_eq_true rfl) (Nat.le_of_ble_eq_true rfl) rfl dX7_most_63 ?_
    refine lv_ishl hx hb dX7_most_64 ?_
    refine k_int (v := 1) (by decide +kernel) ?_
    refine lv_icmp_ge (tgt := 160) hx hb dX7_most_65 (by decide) (fun q9 => absurd q9 (by decide +kernel)) (fun _ => ?_)
    refine lv_aload_n hx hb dX7_most_68 rfl (lv_at hl 6 rfl) ?_
    refine k_get (D := (dC, dI)) (ci := 7) (v := .ref (p3 72)) (C := RX7) (T := TX7) (N := 92) hx hb hts hinX7 hown hK hP 4 rfl rfl 72 (by decide) w_3 rfl rfl dX7_most_69 ?_
    refine lv_sipush (v := 1024) hx hb dX7_most_72 (by decide +kernel) ?_
    refine lv_iload hx hb dX7_most_75 (lv_at hl 1 rfl) ?_
    refine lv_imul hx hb dX7_most_77 ?_
    refine k_int (v := 3072) (by decide +kernel) ?_
    refine lv_iload hx hb dX7_most_78 (lv_at hl 0 rfl) ?_
    refine lv_iadd hx hb dX7_most_80 ?_
    refine k_int (v := 3072) (by decide +kernel) ?_
    refine k_iald (v := (-1)) hx hb hK hP 2 0 3072 rfl rfl rfl (Nat.le_of_ble_eq_true rfl) (Nat.le_of_ble_eq_true rfl) rfl dX7_most_81 ?_
    refine lv_istore (lv' := [(7, .int (-1)), (6, .int 0), (5, .int 3), (4, .int 0), (8, .int 0), (3, .int (-1)), (0, .ref p0), (1, .int 4), (2, .int p2)]) hx hb dX7_most_82 hl (by decide) rfl (fun ls hl => ?_)
    refine lv_iload hx hb dX7_most_84 (lv_at hl 0 rfl) ?_
    refine lv_iconst (v := (-1)) hx hb dX7_most_86 (by decide +kernel) ?_
    refine lv_icmp_ne (tgt := 93) hx hb dX7_most_87 (by decide) (fun q9 => absurd q9 (by decide +kernel)) (fun _ => ?_)
    refine lv_goto (tgt := 154) hx hb dX7_most_90 (by decide) ?_
    refine lv_iinc (v := 1) (lv' := [(6, .int 1), (7, .int (-1)), (5, .int 3), (4, .int 0), (8, .int 0), (3, .int (-1)), (0, .ref p0), (1, .int 4), (2, .int p2)]) hx hb dX7_most_154 hl (k := 1) rfl (by decide +kernel) (by decide) rfl (fun ls hl => ?_)
    refine lv_goto (tgt := 52) hx hb dX7_most_157 (by decide) ?_
    refine lv_iload hx hb dX7_most_52 (lv_at hl 0 rfl) ?_
    refine lv_iconst (v := 1) hx hb dX7_most_54 (by decide +kernel) ?_
    refine lv_aload_n hx hb dX7_most_55 rfl (lv_at hl 6 rfl) ?_
    refine k_get (D := (dC, dI)) (ci := 7) (v := .ref (p3 14)) (C := RX7) (T := TX7) (N := 92) hx hb hts hinX7 hown hK hP 4 rfl rfl 14 (by decide) w_1 rfl rfl dX7_most_56 ?_
    refine lv_aload_n hx hb dX7_most_59 rfl (lv_at hl 6 rfl) ?_
    refine k_get (D := (dC, dI)) (ci := 7) (v := .int 0) (C := RX7) (T := TX7) (N := 92) hx hb hts hinX7 hown hK hP 4 rfl rfl 13 (by decide) w_2 rfl rfl dX7_most_60 ?_
    refine k_iald (v := 0) hx hb hK hP 5 0 0 rfl rfl rfl (Nat.le_of_ble_eq_true rfl) (Nat.le_of_ble_eq_true rfl) rfl dX7_most_63 ?_
    refine lv_ishl hx hb dX7_most_64 ?_
    refine k_int (v := 1) (by decide +kernel) ?_
    refine lv_icmp_ge (tgt := 160) hx hb dX7_most_65 (by decide) (fun _ => ?_) (fun q9 => absurd q9 (by decide +kernel))
    refine lv_iinc (v := 4) (lv' := [(5, .int 4), (6, .int 1), (7, .int (-1)), (4, .int 0), (8, .int 0), (3, .int (-1)), (0, .ref p0), (1, .int 4), (2, .int p2)]) hx hb dX7_most_160 hl (k := 2) rfl (by decide +kernel) (by decide) rfl (fun ls hl => ?_)
    refine lv_goto (tgt := 43) hx hb dX7_most_163 (by decide) ?_
    refine lv_iload hx hb dX7_most_43 (lv_at hl 0 rfl) ?_
    refine lv_iload_n hx hb dX7_most_45 rfl (lv_at hl 7 rfl) ?_
    refine lv_icmp_gt (tgt := 166) hx hb dX7_most_46 (by decide) (fun q9 => absurd q9 (by decide +kernel)) (fun _ => ?_)
    refine lv_iconst (v := 0) hx hb dX7_most_49 (by decide +kernel) ?_
    refine lv_istore (lv' := [(6, .int 0), (5, .int 4), (7, .int (-1)), (4, .int 0), (8, .int 0), (3, .int (-1)), (0, .ref p0), (1, .int 4), (2, .int p2)]) hx hb dX7_most_50 hl (by decide) rfl (fun ls hl => ?_)
    refine lv_iload hx hb dX7_most_52 (lv_at hl 0 rfl) ?_
    refine lv_iconst (v := 1) hx hb dX7_most_54 (by decide +kernel) ?_
    refine lv_aload_n hx hb dX7_most_55 rfl (lv_at hl 6 rfl) ?_
    refine k_get (D := (dC, dI)) (ci := 7) (v := .ref (p3 14)) (C := RX7) (T := TX7) (N := 92) hx hb hts hinX7 hown hK hP 4 rfl rfl 14 (by decide) w_1 rfl rfl dX7_most_56 ?_
    refine lv_aload_n hx hb dX7_most_59 rfl (lv_at hl 6 rfl) ?_
    refine k_get (D := (dC, dI)) (ci := 7) (v := .int 0) (C := RX7) (T := TX7) (N := 92) hx hb hts hinX7 hown hK hP 4 rfl rfl 13 (by decide) w_2 rfl rfl dX7_most_60 ?_
    refine k_iald (v := 0) hx hb hK hP 5 0 0 rfl rfl rfl (Nat.le_of_ble_eq_true rfl) (Nat.le_of_ble_eq_true rfl) rfl dX7_most_63 ?_
    refine lv_ishl hx hb dX7_most_64 ?_
    refine k_int (v := 1) (by decide +kernel) ?_
    refine lv_icmp_ge (tgt := 160) hx hb dX7_most_65 (by decide) (fun q9 => absurd q9 (by decide +kernel)) (fun _ => ?_)
    refine lv_aload_n hx hb dX7_most_68 rfl (lv_at hl 6 rfl) ?_
    refine k_get (D := (dC, dI)) (ci := 7) (v := .ref (p3 72)) (C := RX7) (T := TX7) (N := 92) hx hb hts hinX7 hown hK hP 4 rfl rfl 72 (by decide) w_3 rfl rfl dX7_most_69 ?_
    refine lv_sipush (v := 1024) hx hb dX7_most_72 (by decide +kernel) ?_
    refine lv_iload hx hb dX7_most_75 (lv_at hl 1 rfl) ?_
    refine lv_imul hx hb dX7_most_77 ?_
    refine k_int (v := 4096) (by decide +kernel) ?_
    refine lv_iload hx hb dX7_most_78 (lv_at hl 0 rfl) ?_
    refine lv_iadd hx hb dX7_most_80 ?_
    refine k_int (v := 4096) (by decide +kernel) ?_
    refine k_iald (v := (-1)) hx hb hK hP 2 0 4096 rfl rfl rfl (Nat.le_of_ble_eq_true rfl) (Nat.le_of_ble_eq_true rfl) rfl dX7_most_81 ?_
    refine lv_istore (lv' := [(7, .int (-1)), (6, .int 0), (5, .int 4), (4, .int 0), (8, .int 0), (3, .int (-1)), (0, .ref p0), (1, .int 4), (2, .int p2)]) hx hb dX7_most_82 hl (by decide) rfl (fun ls hl => ?_)
    refine lv_iload hx hb dX7_most_84 (lv_at hl 0 rfl) ?_
    refine lv_iconst (v := (-1)) hx hb dX7_most_86 (by decide +kernel) ?_
    refine lv_icmp_ne (tgt := 93) hx hb dX7_most_87 (by decide) (fun q9 => absurd q9 (by decide +kernel)) (fun _ => ?_)
    refine lv_goto (tgt := 154) hx hb dX7_most_90 (by decide) ?_
    refine lv_iinc (v := 1) (lv' := [(6, .int 1), (7, .int (-1)), (5, .int 4), (4, .int 0), (8, .int 0), (3, .int (-1)), (0, .ref p0), (1, .int 4), (2, .int p2)]) hx hb dX7_most_154 hl (k := 1) rfl (by decide +kernel) (by decide) rfl (fun ls hl => ?_)
    refine lv_goto (tgt := 52) hx hb dX7_most_157 (by decide) ?_
    refine lv_iload hx hb dX7_most_52 (lv_at hl 0 rfl) ?_
    refine lv_iconst (v := 1) hx hb dX7_most_54 (by decide +kernel) ?_
    refine lv_aload_n hx hb dX7_most_55 rfl (lv_at hl 6 rfl) ?_
    refine k_get (D := (dC, dI)) (ci := 7) (v := .ref (p3 14)) (C := RX7) (T := TX7) (N := 92) hx hb hts hinX7 hown hK hP 4 rfl rfl 14 (by decide) w_1 rfl rfl dX7_most_56 ?_
    refine lv_aload_n hx hb dX7_most_59 rfl (lv_at hl 6 rfl) ?_
    refine k_get (D := (dC, dI)) (ci := 7) (v := .int 0) (C := RX7) (T := TX7) (N := 92) hx hb hts hinX7 hown hK hP 4 rfl rfl 13 (by decide) w_2 rfl rfl dX7_most_60 ?_
    refine k_iald (v := 0) hx hb hK hP 5 0 0 rfl rfl rfl (Nat.le_of_ble_eq_true rfl) (Nat.le_of_ble_eq_true rfl) rfl dX7_most_63 ?_
    refine lv_ishl hx hb dX7_most_64 ?_
    refine k_int (v := 1) (by decide +kernel) ?_
    refine lv_icmp_ge (tgt := 160) hx hb dX7_most_65 (by decide) (fun _ => ?_) (fun q9 => absurd q9 (by decide +kernel))
    refine lv_iinc (v := 5) (lv' := [(5, .int 5), (6, .int 1), (7, .int (-1)), (4, .int 0), (8, .int 0), (3, .int (-1)), (0, .ref p0), (1, .int 4), (2, .int p2)]) hx hb dX7_most_160 hl (k := 2) rfl (by decide +kernel) (by decide) rfl (fun ls hl => ?_)
    refine lv_goto (tgt := 43) hx hb dX7_most_163 (by decide) ?_
    refine lv_iload hx hb dX7_most_43 (lv_at hl 0 rfl) ?_
    refine lv_iload_n hx hb dX7_most_45 rfl (lv_at hl 7 rfl) ?_
    refine lv_icmp_gt (tgt := 166) hx hb dX7_most_46 (by decide) (fun _ => ?_) (fun q9 => absurd q9 (by decide +kernel))
    refine lv_iload_n hx hb dX7_most_166 rfl (lv_at hl 8 rfl) ?_
    refine lv_if_ne (tgt := 175) hx hb dX7_most_167 (by decide) (fun c_56 => ?_) (fun c_56 => ?_)
    · have c_56 : ¬ p2.toInt = 0 := k_eqF rfl (by decide +kernel) c_56
      exfalso; omega
    · have c_56 : p2.toInt = 0 := k_eqT rfl (by decide +kernel) c_56
      refine lv_iload hx hb dX7_most_170 (lv_at hl 3 rfl) ?_
      refine lv_goto (tgt := 203) hx hb dX7_most_172 (by decide) ?_
      exact k_ri B hP hD hS dX7_most_203 () [4, 0, 1, 2, 5, 3] rfl rfl rfl (Nat.le_of_ble_eq_true rfl) (Nat.le_of_ble_eq_true rfl) rfl
  · obtain rfl : p1 = 5 := k_eqL (by decide +kernel) c_1
    refine lv_iload_n hx hb dX7_most_0 rfl (lv_at hl 1 rfl) ?_
    refine lv_iconst (v := 0) hx hb dX7_most_1 (by decide +kernel) ?_
    refine lv_bipush (v := 8) hx hb dX7_most_2 (by decide +kernel) ?_
    refine k_ci (wc := []) (wr := [(p0, .inr (7, oM p3 i7 j7)), ((p3 49), .inl (cI, 22, .inl (fun _ => 0))), ((p3 50), .inl (cI, 22, .inl (fun _ => 0))), ((p3 72), .inl (cI, 9216, .inl (fun _ => 0))), ((p3 14), .inl (cI, 2, .inl (fun _ => 0))), ((p3 18), .inl (cI, 2, .inl (fun _ => 0)))]) (fun hPc hDc hFc => va_runS (As := [.int 5, .int 0, .int 8]) (rest := []) ⟨hx, hb, hml, hown, hts⟩ (c_X7_is_v11 l dC dI cI cJ cZ cM H.size) (va_cwS 3 hts gX7_most_X7_is rfl rfl rfl (by decide +kernel) ⟨(Nat.le_of_ble_eq_true rfl), (Nat.le_of_ble_eq_true rfl)⟩) (k_pS hPc hDc hK hN hC hS hFc) rfl rfl hl.1 rfl (lv_room (Nat.le_of_ble_eq_true rfl)) dX7_most_4 ⟨(Nat.le_of_ble_eq_true rfl), (Nat.le_of_ble_eq_true rfl)⟩) hP hD hS hA [] [0, 1, 2, 3, 4, 5] rfl rfl rfl rfl (by decide) (fun _ => rfl) 0 0 rfl rfl (fun r_57 u_58 H locs hw hP hD hS => ?_)
    obtain rfl : r_57 = 1 := hw
    have hP : va_P (dC, dI) vwCl [(p0, .inr (7, oM p3 i7 j7)), ((p3 49), .inl (cI, 22, .inl (fun _ => 0))), ((p3 50), .inl (cI, 22, .inl (fun _ => 0))), ((p3 72), .inl (cI, 9216, .inl (fun _ => 0))), ((p3 14), .inl (cI, 2, .inl (fun _ => 0))), ((p3 18), .inl (cI, 2, .inl (fun _ => 0)))] H := hP
    have hD : va_D A [(p0, .inr (7, oM p3 i7 j7)), ((p3 49), .inl (cI, 22, .inl (fun _ => 0))), ((p3 50), .inl (cI, 22, .inl (fun _ => 0))), ((p3 72), .inl (cI, 9216, .inl (fun _ => 0))), ((p3 14), .inl (cI, 2, .inl (fun _ => 0))), ((p3 18), .inl (cI, 2, .inl (fun _ => 0)))] := hD
    refine lv_if_eq (tgt := 19) hx hb dX7_most_7 (by decide) (fun q9 => absurd q9 (by decide +kernel)) (fun _ => ?_)
    refine lv_iload_n hx hb dX7_most_10 rfl (lv_at hl 2 rfl) ?_
    refine lv_iconst (v := 0) hx hb dX7_most_11 (by decide +kernel) ?_
    refine lv_iconst (v := 3) hx hb dX7_most_12 (by decide +kernel) ?_
    refine k_ci (wc := []) (wr := [(p0, .inr (7, oM p3 i7 j7)), ((p3 49), .inl (cI, 22, .inl (fun _ => 0))), ((p3 50), .inl (cI, 22, .inl (fun _ => 0))), ((p3 72), .inl (cI, 9216, .inl (fun _ => 0))), ((p3 14), .inl (cI, 2, .inl (fun _ => 0))), ((p3 18), .inl (cI, 2, .inl (fun _ => 0)))]) (fun hPc hDc hFc => va_runS (As := [.int p2, .int 0, .int 3]) (rest := []) ⟨hx, hb, hml, hown, hts⟩ (c_X7_is_v20 l dC dI cI cJ cZ cM p2 (by omega) (by omega) H.size) (va_cwS 3 hts gX7_most_X7_is rfl rfl rfl (by decide +kernel) ⟨(Nat.le_of_ble_eq_true rfl), (Nat.le_of_ble_eq_true rfl)⟩) (k_pS hPc hDc hK hN hC hS hFc) rfl rfl hl.1 rfl (lv_room (Nat.le_of_ble_eq_true rfl)) dX7_most_13 ⟨(Nat.le_of_ble_eq_true rfl), (Nat.le_of_ble_eq_true rfl)⟩) hP hD hS hA [] [0, 1, 2, 3, 4, 5] rfl rfl rfl rfl (by decide) (fun _ => rfl) 0 0 rfl rfl (fun r_59 u_60 H locs hw hP hD hS => ?_)
    obtain rfl : r_59 = 1 := hw
    have hP : va_P (dC, dI) vwCl [(p0, .inr (7, oM p3 i7 j7)), ((p3 49), .inl (cI, 22, .inl (fun _ => 0))), ((p3 50), .inl (cI, 22, .inl (fun _ => 0))), ((p3 72), .inl (cI, 9216, .inl (fun _ => 0))), ((p3 14), .inl (cI, 2, .inl (fun _ => 0))), ((p3 18), .inl (cI, 2, .inl (fun _ => 0)))] H := hP
    have hD : va_D A [(p0, .inr (7, oM p3 i7 j7)), ((p3 49), .inl (cI, 22, .inl (fun _ => 0))), ((p3 50), .inl (cI, 22, .inl (fun _ => 0))), ((p3 72), .inl (cI, 9216, .inl (fun _ => 0))), ((p3 14), .inl (cI, 2, .inl (fun _ => 0))), ((p3 18), .inl (cI, 2, .inl (fun _ => 0)))] := hD
    refine lv_if_ne (tgt := 21) hx hb dX7_most_16 (by decide) (fun _ => ?_) (fun q9 => absurd q9 (by decide +kernel))
    refine lv_aload_n hx hb dX7_most_21 rfl (lv_at hl 0 rfl) ?_
    refine k_cv (wc := [(p0, .inr (7, oM p3 i7 j7)), ((p3 49), .inl (cI, 22, .inl (fun _ => 0))), ((p3 50), .inl (cI, 22, .inl (fun _ => 0))), ((p3 72), .inl (cI, 9216, .inl (fun _ => 0))), ((p3 14), .inl (cI, 2, .inl (fun _ => 0))), ((p3 18), .inl (cI, 2, .inl (fun _ => 0)))]) (wr := []) (fun hPc hDc hFc => va_runV (As := []) (rest := []) ⟨hx, hb, hml, hown, hts⟩ (c_X7_climbs_v0 l dC dI cI cJ cZ cM p0 p3 H.size) (cwV 0 hts gX7_most_X7_climbs rfl rfl rfl (by decide +kernel) ⟨(Nat.le_of_ble_eq_true rfl), (Nat.le_of_ble_eq_true rfl)⟩) (k_pV hPc hDc hK hN hC hS hFc hP (q0 := 0) (ci := 7) rfl rfl) rfl rfl hl.1 rfl (lv_room (Nat.le_of_ble_eq_true rfl)) dX7_most_22 ⟨(Nat.le_of_ble_eq_true rfl), (Nat.le_of_ble_eq_true rfl)⟩) hP hD hS hA [0, 1, 2, 3, 4, 5] [] rfl rfl rfl rfl (by decide) (fun _ => rfl) 0 0 rfl rfl (fun u_62 H locs hw hP hD hS => ?_)
    have hP : va_P (dC, dI) vwCl [(p0, .inr (7, oM p3 i7 j7)), ((p3 49), .inl (cI, 22, .inl (fun _ => 0))), ((p3 50), .inl (cI, 22, .inl (fun _ => 0))), ((p3 72), .inl (cI, 9216, .inl (upd (fun _ => (-1)) 0 0))), ((p3 14), .inl (cI, 2, .inl (fun _ => 0))), ((p3 18), .inl (cI, 2, .inl (fun _ => 0)))] H := hP
    have hD : va_D A [(p0, .inr (7, oM p3 i7 j7)), ((p3 49), .inl (cI, 22, .inl (fun _ => 0))), ((p3 50), .inl (cI, 22, .inl (fun _ => 0))), ((p3 72), .inl (cI, 9216, .inl (upd (fun _ => (-1)) 0 0))), ((p3 14), .inl (cI, 2, .inl (fun _ => 0))), ((p3 18), .inl (cI, 2, .inl (fun _ => 0)))] := hD
    refine lv_aload_n hx hb dX7_most_25 rfl (lv_at hl 0 rfl) ?_
    refine k_ci (wc := [(p0, .inr (7, oM p3 i7 j7)), ((p3 14), .inl (cI, 2, .inl (fun _ => 0)))]) (wr := [((p3 49), .inl (cI, 22, .inl (fun _ => 0))), ((p3 50), .inl (cI, 22, .inl (fun _ => 0))), ((p3 72), .inl (cI, 9216, .inl (upd (fun _ => (-1)) 0 0))), ((p3 18), .inl (cI, 2, .inl (fun _ => 0)))]) (fun hPc hDc hFc => va_runV (As := []) (rest := []) ⟨hx, hb, hml, hown, hts⟩ (c_X7_briefOnes_v2 l dC dI cI cJ cZ cM p0 p3 H.size) (cwV 0 hts gX7_most_X7_briefOnes rfl rfl rfl (by decide +kernel) ⟨(Nat.le_of_ble_eq_true rfl), (Nat.le_of_ble_eq_true rfl)⟩) (k_pV hPc hDc hK hN hC hS hFc hP (q0 := 0) (ci := 7) rfl rfl) rfl rfl hl.1 rfl (lv_room (Nat.le_of_ble_eq_true rfl)) dX7_most_26 ⟨(Nat.le_of_ble_eq_true rfl), (Nat.le_of_ble_eq_true rfl)⟩) hP hD hS hA [0, 4] [1, 2, 3, 5] rfl rfl rfl rfl (by decide) (fun _ => rfl) 0 0 rfl rfl (fun r_63 u_64 H locs hw hP hD hS => ?_)
    obtain rfl : r_63 = 0 := hw
    have hP : va_P (dC, dI) vwCl [((p3 49), .inl (cI, 22, .inl (fun _ => 0))), ((p3 50), .inl (cI, 22, .inl (fun _ => 0))), ((p3 72), .inl (cI, 9216, .inl (upd (fun _ => (-1)) 0 0))), ((p3 18), .inl (cI, 2, .inl (fun _ => 0))), (p0, .inr (7, oM p3 i7 j7)), ((p3 14), .inl (cI, 2, .inl (fun _ => 0)))] H := hP
    have hD : va_D A [((p3 49), .inl (cI, 22, .inl (fun _ => 0))), ((p3 50), .inl (cI, 22, .inl (fun _ => 0))), ((p3 72), .inl (cI, 9216, .inl (upd (fun _ => (-1)) 0 0))), ((p3 18), .inl (cI, 2, .inl (fun _ => 0))), (p0, .inr (7, oM p3 i7 j7)), ((p3 14), .inl (cI, 2, .inl (fun _ => 0)))] := hD
    refine lv_iconst (v := (-1)) hx hb dX7_most_29 (by decide +kernel) ?_
    refine lv_ixor hx hb dX7_most_30 ?_
    refine k_int (v := (-1)) (by decide +kernel) ?_
    refine lv_istore_n (lv' := [(3, .int (-1)), (0, .ref p0), (1, .int 5), (2, .int p2)]) hx hb dX7_most_31 rfl hl (by decide) rfl (fun ls hl => ?_)
    refine lv_aload_n hx hb dX7_most_32 rfl (lv_at hl 1 rfl) ?_
    refine lv_iconst (v := (-1)) hx hb dX7_most_33 (by decide +kernel) ?_
    refine k_put (D := (dC, dI)) (ci := 7) (v := .int (-1)) (C := RX7) (T := TX7) (N := 92) (ws' := [((p3 49), .inl (cI, 22, .inl (fun _ => 0))), ((p3 50), .inl (cI, 22, .inl (fun _ => 0))), ((p3 72), .inl (cI, 9216, .inl (upd (fun _ => (-1)) 0 0))), ((p3 18), .inl (cI, 2, .inl (fun _ => 0))), (p0, .inr (7, oM p3 (upd i7 75 (-1)) j7)), ((p3 14), .inl (cI, 2, .inl (fun _ => 0)))]) hx hb hts hinX7 tyX7 tyX7_ok nmX7 hown hK hP hD hS 4 rfl rfl 75 (by decide) w_0 rfl rfl rfl rfl (Nat.le_of_ble_eq_true rfl) rfl dX7_most_34 (fun H locs hP hD hS => ?_)
    refine lv_iconst (v := (-1)) hx hb dX7_most_37 (by decide +kernel) ?_
    refine lv_istore (lv' := [(4, .int (-1)), (3, .int (-1)), (0, .ref p0), (1, .int 5), (2, .int p2)]) hx hb dX7_most_38 hl (by decide) rfl (fun ls hl => ?_)
    refine lv_iconst (v := 0) hx hb dX7_most_40 (by decide +kernel) ?_
    refine lv_istore (lv' := [(5, .int 0), (4, .int (-1)), (3, .int (-1)), (0, .ref p0), (1, .int 5), (2, .int p2)]) hx hb dX7_most_41 hl (by decide) rfl (fun ls hl => ?_)
    refine lv_iload hx hb dX7_most_43 (lv_at hl 0 rfl) ?_
    refine lv_iload_n hx hb dX7_most_45 rfl (lv_at hl 4 rfl) ?_
    refine lv_icmp_gt (tgt := 166) hx hb dX7_most_46 (by decide) (fun q9 => absurd q9 (by decide +kernel)) (fun _ => ?_)
    refine lv_iconst (v := 0) hx hb dX7_most_49 (by decide +kernel) ?_
    refine lv_istore (lv' := [(6, .int 0), (5, .int 0), (4, .int (-1)), (3, .int (-1)), (0, .ref p0), (1, .int 5), (2, .int p2)]) hx hb dX7_most_50 hl (by decide) rfl (fun ls hl => ?_)
    refine lv_iload hx hb dX7_most_52 (lv_at hl 0 rfl) ?_
    refine lv_iconst (v := 1) hx hb dX7_most_54 (by decide +kernel) ?_
    refine lv_aload_n hx hb dX7_most_55 rfl (lv_at hl 4 rfl) ?_
    refine k_get (D := (dC, dI)) (ci := 7) (v := .ref (p3 14)) (C := RX7) (T := TX7) (N := 92) hx hb hts hinX7 hown hK hP 4 rfl rfl 14 (by decide) w_1 rfl rfl dX7_most_56 ?_
    refine lv_aload_n hx hb dX7_most_59 rfl (lv_at hl 4 rfl) ?_
    refine k_get (D := (dC, dI)) (ci := 7) (v := .int 0) (C := RX7) (T := TX7) (N := 92) hx hb hts hinX7 hown hK hP 4 rfl rfl 13 (by decide) w_2 rfl rfl dX7_most_60 ?_
    refine k_iald (v := 0) hx hb hK hP 5 0 0 rfl rfl rfl (Nat.le_of_ble_eq_true rfl) (Nat.le_of_ble_eq_true rfl) rfl dX7_most_63 ?_
    refine lv_ishl hx hb dX7_most_64 ?_
    refine k_int (v := 1) (by decide +kernel) ?_
    refine lv_icmp_ge (tgt := 160) hx hb dX7_most_65 (by decide) (fun q9 => absurd q9 (by decide +kernel)) (fun _ => ?_)
    refine lv_aload_n hx hb dX7_most_68 rfl (lv_at hl 4 rfl) ?_
    refine k_get (D := (dC, dI)) (ci := 7) (v := .ref (p3 72)) (C := RX7) (T := TX7) (N := 92) hx hb hts hinX7 hown hK hP 4 rfl rfl 72 (by decide) w_3 rfl rfl dX7_most_69 ?_
    refine lv_sipush (v := 1024) hx hb dX7_most_72 (by decide +kernel) ?_
    refine lv_iload hx hb dX7_most_75 (lv_at hl 1 rfl) ?_
    refine lv_imul hx hb dX7_most_77 ?_
    refine k_int (v := 0) (by decide +kernel) ?_
    refine lv_iload hx hb dX7_most_78 (lv_at hl 0 rfl) ?_
    refine lv_iadd hx hb dX7_most_80 ?_
    refine k_int (v := 0) (by decide +kernel) ?_
    refine k_iald (v := 0) hx hb hK hP 2 0 0 rfl rfl rfl (Nat.le_of_ble_eq_true rfl) (Nat.le_of_ble_eq_true rfl) rfl dX7_most_81 ?_
    refine lv_istore (lv' := [(7, .int 0), (6, .int 0), (5, .int 0), (4, .int (-1)), (3, .int (-1)), (0, .ref p0), (1, .int 5), (2, .int p2)]) hx hb dX7_most_82 hl (by decide) rfl (fun ls hl => ?_)
    refine lv_iload hx hb dX7_most_84 (lv_at hl 0 rfl) ?_
    refine lv_iconst (v := (-1)) hx hb dX7_most_86 (by decide +kernel) ?_
    refine lv_icmp_ne (tgt := 93) hx hb dX7_most_87 (by decide) (fun _ => ?_) (fun q9 => absurd q9 (by decide +kernel))
    refine lv_aload_n hx hb dX7_most_93 rfl (lv_at hl 5 rfl) ?_
    refine lv_iload hx hb dX7_most_94 (lv_at hl 1 rfl) ?_
    refine lv_iload_n hx hb dX7_most_96 rfl (lv_at hl 4 rfl) ?_
    refine lv_iand hx hb dX7_most_97 ?_
    refine k_int (v := 0) (by decide +kernel) ?_
    refine k_ci (wc := [(p0, .inr (7, oM p3 (upd i7 75 (-1)) j7)), ((p3 14), .inl (cI, 2, .inl (fun _ => 0)))]) (wr := [((p3 49), .inl (cI, 22, .inl (fun _ => 0))), ((p3 50), .inl (cI, 22, .inl (fun _ => 0))), ((p3 72), .inl (cI, 9216, .inl (upd (fun _ => (-1)) 0 0))), ((p3 18), .inl (cI, 2, .inl (fun _ => 0)))]) (fun hPc hDc hFc => va_runV (As := [.int 0]) (rest := []) ⟨hx, hb, hml, hown, hts⟩ (c_X7_worthOf_v1 l dC dI cI cJ cZ cM p0 p3 H.size) (cwV 1 hts gX7_most_X7_worthOf rfl rfl rfl (by decide +kernel) ⟨(Nat.le_of_ble_eq_true rfl), (Nat.le_of_ble_eq_true rfl)⟩) (k_pV hPc hDc hK hN hC hS hFc hP (q0 := 4) (ci := 7) rfl rfl) rfl rfl hl.1 rfl (lv_room (Nat.le_of_ble_eq_true rfl)) dX7_most_98 ⟨(Nat.le_of_ble_eq_true rfl), (Nat.le_of_ble_eq_true rfl)⟩) hP hD hS hA [4, 5] [0, 1, 2, 3] rfl rfl rfl rfl (by decide) (fun _ => rfl) 0 0 rfl rfl (fun r_65 u_66 H locs hw hP hD hS => ?_)
    obtain rfl : r_65 = 0 := hw
    have hP : va_P (dC, dI) vwCl [((p3 49), .inl (cI, 22, .inl (fun _ => 0))), ((p3 50), .inl (cI, 22, .inl (fun _ => 0))), ((p3 72), .inl (cI, 9216, .inl (upd (fun _ => (-1)) 0 0))), ((p3 18), .inl (cI, 2, .inl (fun _ => 0))), (p0, .inr (7, oM p3 (upd i7 75 (-1)) j7)), ((p3 14), .inl (cI, 2, .inl (fun _ => 0)))] H := hP
    have hD : va_D A [((p3 49), .inl (cI, 22, .inl (fun _ => 0))), ((p3 50), .inl (cI, 22, .inl (fun _ => 0))), ((p3 72), .inl (cI, 9216, .inl (upd (fun _ => (-1)) 0 0))), ((p3 18), .inl (cI, 2, .inl (fun _ => 0))), (p0, .inr (7, oM p3 (upd i7 75 (-1)) j7)), ((p3 14), .inl (cI, 2, .inl (fun _ => 0)))] := hD
    refine lv_istore (lv' := [(8, .int 0), (7, .int 0), (6, .int 0), (5, .int 0), (4, .int (-1)), (3, .int (-1)), (0, .ref p0), (1, .int 5), (2, .int p2)]) hx hb dX7_most_101 hl (by decide) rfl (fun ls hl => ?_)
    refine lv_iload hx hb dX7_most_103 (lv_at hl 0 rfl) ?_
    refine lv_iload hx hb dX7_most_105 (lv_at hl 4 rfl) ?_
    refine lv_icmp_lt (tgt := 154) hx hb dX7_most_107 (by decide) (fun q9 => absurd q9 (by decide +kernel)) (fun _ => ?_)
    refine lv_iload hx hb dX7_most_110 (lv_at hl 0 rfl) ?_
    refine lv_iload hx hb dX7_most_112 (lv_at hl 4 rfl) ?_
    refine lv_icmp_ne (tgt := 138) hx hb dX7_most_114 (by decide) (fun _ => ?_) (fun q9 => absurd q9 (by decide +kernel))
    refine lv_iload hx hb dX7_most_138 (lv_at hl 0 rfl) ?_
    refine lv_istore (lv' := [(4, .int 0), (8, .int 0), (7, .int 0), (6, .int 0), (5, .int 0), (3, .int (-1)), (0, .ref p0), (1, .int 5), (2, .int p2)]) hx hb dX7_most_140 hl (by decide) rfl (fun ls hl => ?_)
    refine lv_aload_n hx hb dX7_most_142 rfl (lv_at hl 6 rfl) ?_
    refine lv_iload hx hb dX7_most_143 (lv_at hl 4 rfl) ?_
    refine k_put (D := (dC, dI)) (ci := 7) (v := .int 0) (C := RX7) (T := TX7) (N := 92) (ws' := [((p3 49), .inl (cI, 22, .inl (fun _ => 0))), ((p3 50), .inl (cI, 22, .inl (fun _ => 0))), ((p3 72), .inl (cI, 9216, .inl (upd (fun _ => (-1)) 0 0))), ((p3 18), .inl (cI, 2, .inl (fun _ => 0))), (p0, .inr (7, oM p3 (upd i7 75 0) j7)), ((p3 14), .inl (cI, 2, .inl (fun _ => 0)))]) hx hb hts hinX7 tyX7 tyX7_ok nmX7 hown hK hP hD hS 4 rfl rfl 75 (by decide) w_0 rfl rfl rfl rfl (Nat.le_of_ble_eq_true rfl) rfl dX7_most_145 (fun H locs hP hD hS => ?_)
    refine lv_aload_n hx hb dX7_most_148 rfl (lv_at hl 6 rfl) ?_
    refine lv_iload hx hb dX7_most_149 (lv_at hl 3 rfl) ?_
    refine k_put (D := (dC, dI)) (ci := 7) (v := .int 0) (C := RX7) (T := TX7) (N := 92) (ws' := [((p3 49), .inl (cI, 22, .inl (fun _ => 0))), ((p3 50), .inl (cI, 22, .inl (fun _ => 0))), ((p3 72), .inl (cI, 9216, .inl (upd (fun _ => (-1)) 0 0))), ((p3 18), .inl (cI, 2, .inl (fun _ => 0))), (p0, .inr (7, oM p3 (upd (upd i7 75 0) 76 0) j7)), ((p3 14), .inl (cI, 2, .inl (fun _ => 0)))]) hx hb hts hinX7 tyX7 tyX7_ok nmX7 hown hK hP hD hS 4 rfl rfl 76 (by decide) w_4 rfl rfl rfl rfl (Nat.le_of_ble_eq_true rfl) rfl dX7_most_151 (fun H locs hP hD hS => ?_)
    refine lv_iinc (v := 1) (lv' := [(6, .int 1), (4, .int 0), (8, .int 0), (7, .int 0), (5, .int 0), (3, .int (-1)), (0, .ref p0), (1, .int 5), (2, .int p2)]) hx hb dX7_most_154 hl (k := 3) rfl (by decide +kernel) (by decide) rfl (fun ls hl => ?_)
    refine lv_goto (tgt := 52) hx hb dX7_most_157 (by decide) ?_
    refine lv_iload hx hb dX7_most_52 (lv_at hl 0 rfl) ?_
    refine lv_iconst (v := 1) hx hb dX7_most_54 (by decide +kernel) ?_
    refine lv_aload_n hx hb dX7_most_55 rfl (lv_at hl 6 rfl) ?_
    refine k_get (D := (dC, dI)) (ci := 7) (v := .ref (p3 14)) (C := RX7) (T := TX7) (N := 92) hx hb hts hinX7 hown hK hP 4 rfl rfl 14 (by decide) w_1 rfl rfl dX7_most_56 ?_
    refine lv_aload_n hx hb dX7_most_59 rfl (lv_at hl 6 rfl) ?_
    refine k_get (D := (dC, dI)) (ci := 7) (v := .int 0) (C := RX7) (T := TX7) (N := 92) hx hb hts hinX7 hown hK hP 4 rfl rfl 13 (by decide) w_2 rfl rfl dX7_most_60 ?_
    refine k_iald (v := 0) hx hb hK hP 5 0 0 rfl rfl rfl (Nat.le_of_ble_eq_true rfl) (Nat.le_of_ble_eq_true rfl) rfl dX7_most_63 ?_
    refine lv_ishl hx hb dX7_most_64 ?_
    refine k_int (v := 1) (by decide +kernel) ?_
    refine lv_icmp_ge (tgt := 160) hx hb dX7_most_65 (by decide) (fun _ => ?_) (fun q9 => absurd q9 (by decide +kernel))
    refine lv_iinc (v := 1) (lv' := [(5, .int 1), (6, .int 1), (4, .int 0), (8, .int 0), (7, .int 0), (3, .int (-1)), (0, .ref p0), (1, .int 5), (2, .int p2)]) hx hb dX7_most_160 hl (k := 4) rfl (by decide +kernel) (by decide) rfl (fun ls hl => ?_)
    refine lv_goto (tgt := 43) hx hb dX7_most_163 (by decide) ?_
    refine lv_iload hx hb dX7_most_43 (lv_at hl 0 rfl) ?_
    refine lv_iload_n hx hb dX7_most_45 rfl (lv_at hl 7 rfl) ?_
    refine lv_icmp_gt (tgt := 166) hx hb dX7_most_46 (by decide) (fun q9 => absurd q9 (by decide +kernel)) (fun _ => ?_)
    refine lv_iconst (v := 0) hx hb dX7_most_49 (by decide +kernel) ?_
    refine lv_istore (lv' := [(6, .int 0), (5, .int 1), (4, .int 0), (8, .int 0), (7, .int 0), (3, .int (-1)), (0, .ref p0), (1, .int 5), (2, .int p2)]) hx hb dX7_most_50 hl (by decide) rfl (fun ls hl => ?_)
    refine lv_iload hx hb dX7_most_52 (lv_at hl 0 rfl) ?_
    refine lv_iconst (v := 1) hx hb dX7_most_54 (by decide +kernel) ?_
    refine lv_aload_n hx hb dX7_most_55 rfl (lv_at hl 6 rfl) ?_
    refine k_get (D := (dC, dI)) (ci := 7) (v := .ref (p3 14)) (C := RX7) (T := TX7) (N := 92) hx hb hts hinX7 hown hK hP 4 rfl rfl 14 (by decide) w_1 rfl rfl dX7_most_56 ?_
    refine lv_aload_n hx hb dX7_most_59 rfl (lv_at hl 6 rfl) ?_
    refine k_get (D := (dC, dI)) (ci := 7) (v := .int 0) (C := RX7) (T := TX7) (N := 92) hx hb hts hinX7 hown hK hP 4 rfl rfl 13 (by decide) w_2 rfl rfl dX7_most_60 ?_
    refine k_iald (v := 0) hx hb hK hP 5 0 0 rfl rfl rfl (Nat.le_of_ble_eq_true rfl) (Nat.le_of_ble_eq_true rfl) rfl dX7_most_63 ?_
    refine lv_ishl hx hb dX7_most_64 ?_
    refine k_int (v := 1) (by decide +kernel) ?_
    refine lv_icmp_ge (tgt := 160) hx hb dX7_most_65 (by decide) (fun q9 => absurd q9 (by decide +kernel)) (fun _ => ?_)
    refine lv_aload_n hx hb dX7_most_68 rfl (lv_at hl 6 rfl) ?_
    refine k_get (D := (dC, dI)) (ci := 7) (v := .ref (p3 72)) (C := RX7) (T := TX7) (N := 92) hx hb hts hinX7 hown hK hP 4 rfl rfl 72 (by decide) w_3 rfl rfl dX7_most_69 ?_
    refine lv_sipush (v := 1024) hx hb dX7_most_72 (by decide +kernel) ?_
    refine lv_iload hx hb dX7_most_75 (lv_at hl 1 rfl) ?_
    refine lv_imul hx hb dX7_most_77 ?_
    refine k_int (v := 1024) (by decide +kernel) ?_
    refine lv_iload hx hb dX7_most_78 (lv_at hl 0 rfl) ?_
    refine lv_iadd hx hb dX7_most_80 ?_
    refine k_int (v := 1024) (by decide +kernel) ?_
    refine k_iald (v := (-1)) hx hb hK hP 2 0 1024 rfl rfl rfl (Nat.le_of_ble_eq_true rfl) (Nat.le_of_ble_eq_true rfl) rfl dX7_most_81 ?_
    refine lv_istore (lv' := [(7, .int (-1)), (6, .int 0), (5, .int 1), (4, .int 0), (8, .int 0), (3, .int (-1)), (0, .ref p0), (1, .int 5), (2, .int p2)]) hx hb dX7_most_82 hl (by decide) rfl (fun ls hl => ?_)
    refine lv_iload hx hb dX7_most_84 (lv_at hl 0 rfl) ?_
    refine lv_iconst (v := (-1)) hx hb dX7_most_86 (by decide +kernel) ?_
    refine lv_icmp_ne (tgt := 93) hx hb dX7_most_87 (by decide) (fun q9 => absurd q9 (by decide +kernel)) (fun _ => ?_)
    refine lv_goto (tgt := 154) hx hb dX7_most_90 (by decide) ?_
    refine lv_iinc (v := 1) (lv' := [(6, .int 1), (7, .int (-1)), (5, .int 1), (4, .int 0), (8, .int 0), (3, .int (-1)), (0, .ref p0), (1, .int 5), (2, .int p2)]) hx hb dX7_most_154 hl (k := 1) rfl (by decide +kernel) (by decide) rfl (fun ls hl => ?_)
    refine lv_goto (tgt := 52) hx hb dX7_most_157 (by decide) ?_
    refine lv_iload hx hb dX7_most_52 (lv_at hl 0 rfl) ?_
    refine lv_iconst (v := 1) hx hb dX7_most_54 (by decide +kernel) ?_
    refine lv_aload_n hx hb dX7_most_55 rfl (lv_at hl 6 rfl) ?_
    refine k_get (D := (dC, dI)) (ci := 7) (v := .ref (p3 14)) (C := RX7) (T := TX7) (N := 92) hx hb hts hinX7 hown hK hP 4 rfl rfl 14 (by decide) w_1 rfl rfl dX7_most_56 ?_
    refine lv_aload_n hx hb dX7_most_59 rfl (lv_at hl 6 rfl) ?_
    refine k_get (D := (dC, dI)) (ci := 7) (v := .int 0) (C := RX7) (T := TX7) (N := 92) hx hb hts hinX7 hown hK hP 4 rfl rfl 13 (by decide) w_2 rfl rfl dX7_most_60 ?_
    refine k_iald (v := 0) hx hb hK hP 5 0 0 rfl rfl rfl (Nat.le_of_ble_eq_true rfl) (Nat.le_of_ble_eq_true rfl) rfl dX7_most_63 ?_
    refine lv_ishl hx hb dX7_most_64 ?_
    refine k_int (v := 1) (by decide +kernel) ?_
    refine lv_icmp_ge (tgt := 160) hx hb dX7_most_65 (by decide) (fun _ => ?_) (fun q9 => absurd q9 (by decide +kernel))
    refine lv_iinc (v := 2) (lv' := [(5, .int 2), (6, .int 1), (7, .int (-1)), (4, .int 0), (8, .int 0), (3, .int (-1)), (0, .ref p0), (1, .int 5), (2, .int p2)]) hx hb dX7_most_160 hl (k := 2) rfl (by decide +kernel) (by decide) rfl (fun ls hl => ?_)
    refine lv_goto (tgt := 43) hx hb dX7_most_163 (by decide) ?_
    refine lv_iload hx hb dX7_most_43 (lv_at hl 0 rfl) ?_
    refine lv_iload_n hx hb dX7_most_45 rfl (lv_at hl 7 rfl) ?_
    refine lv_icmp_gt (tgt := 166) hx hb dX7_most_46 (by decide) (fun q9 => absurd q9 (by decide +kernel)) (fun _ => ?_)
    refine lv_iconst (v := 0) hx hb dX7_most_49 (by decide +kernel) ?_
    refine lv_istore (lv' := [(6, .int 0), (5, .int 2), (7, .int (-1)), (4, .int 0), (8, .int 0), (3, .int (-1)), (0, .ref p0), (1, .int 5), (2, .int p2)]) hx hb dX7_most_50 hl (by decide) rfl (fun ls hl => ?_)
    refine lv_iload hx hb dX7_most_52 (lv_at hl 0 rfl) ?_
    refine lv_iconst (v := 1) hx hb dX7_most_54 (by decide +kernel) ?_
    refine lv_aload_n hx hb dX7_most_55 rfl (lv_at hl 6 rfl) ?_
    refine k_get (D := (dC, dI)) (ci := 7) (v := .ref (p3 14)) (C := RX7) (T := TX7) (N := 92) hx hb hts hinX7 hown hK hP 4 rfl rfl 14 (by decide) w_1 rfl rfl dX7_most_56 ?_
    refine lv_aload_n hx hb dX7_most_59 rfl (lv_at hl 6 rfl) ?_
    refine k_get (D := (dC, dI)) (ci := 7) (v := .int 0) (C := RX7) (T := TX7) (N := 92) hx hb hts hinX7 hown hK hP 4 rfl rfl 13 (by decide) w_2 rfl rfl dX7_most_60 ?_
    refine k_iald (v := 0) hx hb hK hP 5 0 0 rfl rfl rfl (Nat.le_of_ble_eq_true rfl) (Nat.le_of_ble_eq_true rfl) rfl dX7_most_63 ?_
    refine lv_ishl hx hb dX7_most_64 ?_
    refine k_int (v := 1) (by decide +kernel) ?_
    refine lv_icmp_ge (tgt := 160) hx hb dX7_most_65 (by decide) (fun q9 => absurd q9 (by decide +kernel)) (fun _ => ?_)
    refine lv_aload_n hx hb dX7_most_68 rfl (lv_at hl 6 rfl) ?_
    refine k_get (D := (dC, dI)) (ci := 7) (v := .ref (p3 72)) (C := RX7) (T := TX7) (N := 92) hx hb hts hinX7 hown hK hP 4 rfl rfl 72 (by decide) w_3 rfl rfl dX7_most_69 ?_
    refine lv_sipush (v := 1024) hx hb dX7_most_72 (by decide +kernel) ?_
    refine lv_iload hx hb dX7_most_75 (lv_at hl 1 rfl) ?_
    refine lv_imul hx hb dX7_most_77 ?_
    refine k_int (v := 2048) (by decide +kernel) ?_
    refine lv_iload hx hb dX7_most_78 (lv_at hl 0 rfl) ?_
    refine lv_iadd hx hb dX7_most_80 ?_
    refine k_int (v := 2048) (by decide +kernel) ?_
    refine k_iald (v := (-1)) hx hb hK hP 2 0 2048 rfl rfl rfl (Nat.le_of_ble_eq_true rfl) (Nat.le_of_ble_eq_true rfl) rfl dX7_most_81 ?_
    refine lv_istore (lv' := [(7, .int (-1)), (6, .int 0), (5, .int 2), (4, .int 0), (8, .int 0), (3, .int (-1)), (0, .ref p0), (1, .int 5), (2, .int p2)]) hx hb dX7_most_82 hl (by decide) rfl (fun ls hl => ?_)
    refine lv_iload hx hb dX7_most_84 (lv_at hl 0 rfl) ?_
    refine lv_iconst (v := (-1)) hx hb dX7_most_86 (by decide +kernel) ?_
    refine lv_icmp_ne (tgt := 93) hx hb dX7_most_87 (by decide) (fun q9 => absurd q9 (by decide +kernel)) (fun _ => ?_)
    refine lv_goto (tgt := 154) hx hb dX7_most_90 (by decide) ?_
    refine lv_iinc (v := 1) (lv' := [(6, .int 1), (7, .int (-1)), (5, .int 2), (4, .int 0), (8, .int 0), (3, .int (-1)), (0, .ref p0), (1, .int 5), (2, .int p2)]) hx hb dX7_most_154 hl (k := 1) rfl (by decide +kernel) (by decide) rfl (fun ls hl => ?_)
    refine lv_goto (tgt := 52) hx hb dX7_most_157 (by decide) ?_
    refine lv_iload hx hb dX7_most_52 (lv_at hl 0 rfl) ?_
    refine lv_iconst (v := 1) hx hb dX7_most_54 (by decide +kernel) ?_
    refine lv_aload_n hx hb dX7_most_55 rfl (lv_at hl 6 rfl) ?_
    refine k_get (D := (dC, dI)) (ci := 7) (v := .ref (p3 14)) (C := RX7) (T := TX7) (N := 92) hx hb hts hinX7 hown hK hP 4 rfl rfl 14 (by decide) w_1 rfl rfl dX7_most_56 ?_
    refine lv_aload_n hx hb dX7_most_59 rfl (lv_at hl 6 rfl) ?_
    refine k_get (D := (dC, dI)) (ci := 7) (v := .int 0) (C := RX7) (T := TX7) (N := 92) hx hb hts hinX7 hown hK hP 4 rfl rfl 13 (by decide) w_2 rfl rfl dX7_most_60 ?_
    refine k_iald (v := 0) hx hb hK hP 5 0 0 rfl rfl rfl (Nat.le_of_ble_eq_true rfl) (Nat.le_of_ble_eq_true rfl) rfl dX7_most_63 ?_
    refine lv_ishl hx hb dX7_most_64 ?_
    refine k_int (v := 1) (by decide +kernel) ?_
    refine lv_icmp_ge (tgt := 160) hx hb dX7_most_65 (by decide) (fun _ => ?_) (fun q9 => absurd q9 (by decide +kernel))
    refine lv_iinc (v := 3) (lv' := [(5, .int 3), (6, .int 1), (7, .int (-1)), (4, .int 0), (8, .int 0), (3, .int (-1)), (0, .ref p0), (1, .int 5), (2, .int p2)]) hx hb dX7_most_160 hl (k := 2) rfl (by decide +kernel) (by decide) rfl (fun ls hl => ?_)
    refine lv_goto (tgt := 43) hx hb dX7_most_163 (by decide) ?_
    refine lv_iload hx hb dX7_most_43 (lv_at hl 0 rfl) ?_
    refine lv_iload_n hx hb dX7_most_45 rfl (lv_at hl 7 rfl) ?_
    refine lv_icmp_gt (tgt := 166) hx hb dX7_most_46 (by decide) (fun q9 => absurd q9 (by decide +kernel)) (fun _ => ?_)
    refine lv_iconst (v := 0) hx hb dX7_most_49 (by decide +kernel) ?_
    refine lv_istore (lv' := [(6, .int 0), (5, .int 3), (7, .int (-1)), (4, .int 0), (8, .int 0), (3, .int (-1)), (0, .ref p0), (1, .int 5), (2, .int p2)]) hx hb dX7_most_50 hl (by decide) rfl (fun ls hl => ?_)
    refine lv_iload hx hb dX7_most_52 (lv_at hl 0 rfl) ?_
    refine lv_iconst (v := 1) hx hb dX7_most_54 (by decide +kernel) ?_
    refine lv_aload_n hx hb dX7_most_55 rfl (lv_at hl 6 rfl) ?_
    refine k_get (D := (dC, dI)) (ci := 7) (v := .ref (p3 14)) (C := RX7) (T := TX7) (N := 92) hx hb hts hinX7 hown hK hP 4 rfl rfl 14 (by decide) w_1 rfl rfl dX7_most_56 ?_
    refine lv_aload_n hx hb dX7_most_59 rfl (lv_at hl 6 rfl) ?_
    refine k_get (D := (dC, dI)) (ci := 7) (v := .int 0) (C := RX7) (T := TX7) (N := 92) hx hb hts hinX7 hown hK hP 4 rfl rfl 13 (by decide) w_2 rfl rfl dX7_most_60 ?_
    refine k_iald (v := 0) hx hb hK hP 5 0 0 rfl rfl rfl (Nat.le_of_ble_eq_true rfl) (Nat.le_of_ble_eq_true rfl) rfl dX7_most_63 ?_
    refine lv_ishl hx hb dX7_most_64 ?_
    refine k_int (v := 1) (by decide +kernel) ?_
    refine lv_icmp_ge (tgt := 160) hx hb dX7_most_65 (by decide) (fun q9 => absurd q9 (by decide +kernel)) (fun _ => ?_)
    refine lv_aload_n hx hb dX7_most_68 rfl (lv_at hl 6 rfl) ?_
    refine k_get (D := (dC, dI)) (ci := 7) (v := .ref (p3 72)) (C := RX7) (T := TX7) (N := 92) hx hb hts hinX7 hown hK hP 4 rfl rfl 72 (by decide) w_3 rfl rfl dX7_most_69 ?_
    refine lv_sipush (v := 1024) hx hb dX7_most_72 (by decide +kernel) ?_
    refine lv_iload hx hb dX7_most_75 (lv_at hl 1 rfl) ?_
    refine lv_imul hx hb dX7_most_77 ?_
    refine k_int (v := 3072) (by decide +kernel) ?_
    refine lv_iload hx hb dX7_most_78 (lv_at hl 0 rfl) ?_
    refine lv_iadd hx hb dX7_most_80 ?_
    refine k_int (v := 3072) (by decide +kernel) ?_
    refine k_iald (v := (-1)) hx hb hK hP 2 0 3072 rfl rfl rfl (Nat.le_of_ble_eq_true rfl) (Nat.le_of_ble_eq_true rfl) rfl dX7_most_81 ?_
    refine lv_istore (lv' := [(7, .int (-1)), (6, .int 0), (5, .int 3), (4, .int 0), (8, .int 0), (3, .int (-1)), (0, .ref p0), (1, .int 5), (2, .int p2)]) hx hb dX7_most_82 hl (by decide) rfl (fun ls hl => ?_)
    refine lv_iload hx hb dX7_most_84 (lv_at hl 0 rfl) ?_
    refine lv_iconst (v := (-1)) hx hb dX7_most_86 (by decide +kernel) ?_
    refine lv_icmp_ne (tgt := 93) hx hb dX7_most_87 (by decide) (fun q9 => absurd q9 (by decide +kernel)) (fun _ => ?_)
    refine lv_goto (tgt := 154) hx hb dX7_most_90 (by decide) ?_
    refine lv_iinc (v := 1) (lv' := [(6, .int 1), (7, .int (-1)), (5, .int 3), (4, .int 0), (8, .int 0), (3, .int (-1)), (0, .ref p0), (1, .int 5), (2, .int p2)]) hx hb dX7_most_154 hl (k := 1) rfl (by decide +kernel) (by decide) rfl (fun ls hl => ?_)
    refine lv_goto (tgt := 52) hx hb dX7_most_157 (by decide) ?_
    refine lv_iload hx hb dX7_most_52 (lv_at hl 0 rfl) ?_
    refine lv_iconst (v := 1) hx hb dX7_most_54 (by decide +kernel) ?_
    refine lv_aload_n hx hb dX7_most_55 rfl (lv_at hl 6 rfl) ?_
    refine k_get (D := (dC, dI)) (ci := 7) (v := .ref (p3 14)) (C := RX7) (T := TX7) (N := 92) hx hb hts hinX7 hown hK hP 4 rfl rfl 14 (by decide) w_1 rfl rfl dX7_most_56 ?_
    refine lv_aload_n hx hb dX7_most_59 rfl (lv_at hl 6 rfl) ?_
    refine k_get (D := (dC, dI)) (ci := 7) (v := .int 0) (C := RX7) (T := TX7) (N := 92) hx hb hts hinX7 hown hK hP 4 rfl rfl 13 (by decide) w_2 rfl rfl dX7_most_60 ?_
    refine k_iald (v := 0) hx hb hK hP 5 0 0 rfl rfl rfl (Nat.le_of_ble_eq_true rfl) (Nat.le_of_ble_eq_true rfl) rfl dX7_most_63 ?_
    refine lv_ishl hx hb dX7_most_64 ?_
    refine k_int (v := 1) (by decide +kernel) ?_
    refine lv_icmp_ge (tgt := 160) hx hb dX7_most_65 (by decide) (fun _ => ?_) (fun q9 => absurd q9 (by decide +kernel))
    refine lv_iinc (v := 4) (lv' := [(5, .int 4), (6, .int 1), (7, .int (-1)), (4, .int 0), (8, .int 0), (3, .int (-1)), (0, .ref p0), (1, .int 5), (2, .int p2)]) hx hb dX7_most_160 hl (k := 2) rfl (by decide +kernel) (by decide) rfl (fun ls hl => ?_)
    refine lv_goto (tgt := 43) hx hb dX7_most_163 (by decide) ?_
    refine lv_iload hx hb dX7_most_43 (lv_at hl 0 rfl) ?_
    refine lv_iload_n hx hb dX7_most_45 rfl (lv_at hl 7 rfl) ?_
    refine lv_icmp_gt (tgt := 166) hx hb dX7_most_46 (by decide) (fun q9 => absurd q9 (by decide +kernel)) (fun _ => ?_)
    refine lv_iconst (v := 0) hx hb dX7_most_49 (by decide +kernel) ?_
    refine lv_istore (lv' := [(6, .int 0), (5, .int 4), (7, .int (-1)), (4, .int 0), (8, .int 0), (3, .int (-1)), (0, .ref p0), (1, .int 5), (2, .int p2)]) hx hb dX7_most_50 hl (by decide) rfl (fun ls hl => ?_)
    refine lv_iload hx hb dX7_most_52 (lv_at hl 0 rfl) ?_
    refine lv_iconst (v := 1) hx hb dX7_most_54 (by decide +kernel) ?_
    refine lv_aload_n hx hb dX7_most_55 rfl (lv_at hl 6 rfl) ?_
    refine k_get (D := (dC, dI)) (ci := 7) (v := .ref (p3 14)) (C := RX7) (T := TX7) (N := 92) hx hb hts hinX7 hown hK hP 4 rfl rfl 14 (by decide) w_1 rfl rfl dX7_most_56 ?_
    refine lv_aload_n hx hb dX7_most_59 rfl (lv_at hl 6 rfl) ?_
    refine k_get (D := (dC, dI)) (ci := 7) (v := .int 0) (C := RX7) (T := TX7) (N := 92) hx hb hts hinX7 hown hK hP 4 rfl rfl 13 (by decide) w_2 rfl rfl dX7_most_60 ?_
    refine k_iald (v := 0) hx hb hK hP 5 0 0 rfl rfl rfl (Nat.le_of_ble_eq_true rfl) (Nat.le_of_ble_eq_true rfl) rfl dX7_most_63 ?_
    refine lv_ishl hx hb dX7_most_64 ?_
    refine k_int (v := 1) (by decide +kernel) ?_
    refine lv_icmp_ge (tgt := 160) hx hb dX7_most_65 (by decide) (fun q9 => absurd q9 (by decide +kernel)) (fun _ => ?_)
    refine lv_aload_n hx hb dX7_most_68 rfl (lv_at hl 6 rfl) ?_
    refine k_get (D := (dC, dI)) (ci := 7) (v := .ref (p3 72)) (C := RX7) (T := TX7) (N := 92) hx hb hts hinX7 hown hK hP 4 rfl rfl 72 (by decide) w_3 rfl rfl dX7_most_69 ?_
    refine lv_sipush (v := 1024) hx hb dX7_most_72 (by decide +kernel) ?_
    refine lv_iload hx hb dX7_most_75 (lv_at hl 1 rfl) ?_
    refine lv_imul hx hb dX7_most_77 ?_
    refine k_int (v := 4096) (by decide +kernel) ?_
    refine lv_iload hx hb dX7_most_78 (lv_at hl 0 rfl) ?_
    refine lv_iadd hx hb dX7_most_80 ?_
    refine k_int (v := 4096) (by decide +kernel) ?_
    refine k_iald (v := (-1)) hx hb hK hP 2 0 4096 rfl rfl rfl (Nat.le_of_ble_eq_true rfl) (Nat.le_of_ble_eq_true rfl) rfl dX7_most_81 ?_
    refine lv_istore (lv' := [(7, .int (-1)), (6, .int 0), (5, .int 4), (4, .int 0), (8, .int 0), (3, .int (-1)), (0, .ref p0), (1, .int 5), (2, .int p2)]) hx hb dX7_most_82 hl (by decide) rfl (fun ls hl => ?_)
    refine lv_iload hx hb dX7_most_84 (lv_at hl 0 rfl) ?_
    refine lv_iconst (v := (-1)) hx hb dX7_most_86 (by decide +kernel) ?_
    refine lv_icmp_ne (tgt := 93) hx hb dX7_most_87 (by decide) (fun q9 => absurd q9 (by decide +kernel)) (fun _ => ?_)
    refine lv_goto (tgt := 154) hx hb dX7_most_90 (by decide) ?_
    refine lv_iinc (v := 1) (lv' := [(6, .int 1), (7, .int (-1)), (5, .int 4), (4, .int 0), (8, .int 0), (3, .int (-1)), (0, .ref p0), (1, .int 5), (2, .int p2)]) hx hb dX7_most_154 hl (k := 1) rfl (by decide +kernel) (by decide) rfl (fun ls hl => ?_)
    refine lv_goto (tgt := 52) hx hb dX7_most_157 (by decide) ?_
    refine lv_iload hx hb dX7_most_52 (lv_at hl 0 rfl) ?_
    refine lv_iconst (v := 1) hx hb dX7_most_54 (by decide +kernel) ?_
    refine lv_aload_n hx hb dX7_most_55 rfl (lv_at hl 6 rfl) ?_
    refine k_get (D := (dC, dI)) (ci := 7) (v := .ref (p3 14)) (C := RX7) (T := TX7) (N := 92) hx hb hts hinX7 hown hK hP 4 rfl rfl 14 (by decide) w_1 rfl rfl dX7_most_56 ?_
    refine lv_aload_n hx hb dX7_most_59 rfl (lv_at hl 6 rfl) ?_
    refine k_get (D := (dC, dI)) (ci := 7) (v := .int 0) (C := RX7) (T := TX7) (N := 92) hx hb hts hinX7 hown hK hP 4 rfl rfl 13 (by decide) w_2 rfl rfl dX7_most_60 ?_
    refine k_iald (v := 0) hx hb hK hP 5 0 0 rfl rfl rfl (Nat.le_of_ble_eq_true rfl) (Nat.le_of_ble_eq_true rfl) rfl dX7_most_63 ?_
    refine lv_ishl hx hb dX7_most_64 ?_
    refine k_int (v := 1) (by decide +kernel) ?_
    refine lv_icmp_ge (tgt := 160) hx hb dX7_most_65 (by decide) (fun _ => ?_) (fun q9 => absurd q9 (by decide +kernel))
    refine lv_iinc (v := 5) (lv' := [(5, .int 5), (6, .int 1), (7, .int (-1)), (4, .int 0), (8, .int 0), (3, .int (-1)), (0, .ref p0), (1, .int 5), (2, .int p2)]) hx hb dX7_most_160 hl (k := 2) rfl (by decide +kernel) (by decide) rfl (fun ls hl => ?_)
    refine lv_goto (tgt := 43) hx hb dX7_most_163 (by decide) ?_
    refine lv_iload hx hb dX7_most_43 (lv_at hl 0 rfl) ?_
    refine lv_iload_n hx hb dX7_most_45 rfl (lv_at hl 7 rfl) ?_
    refine lv_icmp_gt (tgt := 166) hx hb dX7_most_46 (by decide) (fun q9 => absurd q9 (by decide +kernel)) (fun _ => ?_)
    refine lv_iconst (v := 0) hx hb dX7_most_49 (by decide +kernel) ?_
    refine lv_istore (lv' := [(6, .int 0), (5, .int 5), (7, .int (-1)), (4, .int 0), (8, .int 0), (3, .int (-1)), (0, .ref p0), (1, .int 5), (2, .int p2)]) hx hb dX7_most_50 hl (by decide) rfl (fun ls hl => ?_)
    refine lv_iload hx hb dX7_most_52 (lv_at hl 0 rfl) ?_
    refine lv_iconst (v := 1) hx hb dX7_most_54 (by decide +kernel) ?_
    refine lv_aload_n hx hb dX7_most_55 rfl (lv_at hl 6 rfl) ?_
    refine k_get (D := (dC, dI)) (ci := 7) (v := .ref (p3 14)) (C := RX7) (T := TX7) (N := 92) hx hb hts hinX7 hown hK hP 4 rfl rfl 14 (by decide) w_1 rfl rfl dX7_most_56 ?_
    refine lv_aload_n hx hb dX7_most_59 rfl (lv_at hl 6 rfl) ?_
    refine k_get (D := (dC, dI)) (ci := 7) (v := .int 0) (C := RX7) (T := TX7) (N := 92) hx hb hts hinX7 hown hK hP 4 rfl rfl 13 (by decide) w_2 rfl rfl dX7_most_60 ?_
    refine k_iald (v := 0) hx hb hK hP 5 0 0 rfl rfl rfl (Nat.le_of_ble_eq_true rfl) (Nat.le_of_ble_eq_true rfl) rfl dX7_most_63 ?_
    refine lv_ishl hx hb dX7_most_64 ?_
    refine k_int (v := 1) (by decide +kernel) ?_
    refine lv_icmp_ge (tgt := 160) hx hb dX7_most_65 (by decide) (fun q9 => absurd q9 (by decide +kernel)) (fun _ => ?_)
    refine lv_aload_n hx hb dX7_most_68 rfl (lv_at hl 6 rfl) ?_
    refine k_get (D := (dC, dI)) (ci := 7) (v := .ref (p3 72)) (C := RX7) (T := TX7) (N := 92) hx hb hts hinX7 hown hK hP 4 rfl rfl 72 (by decide) w_3 rfl rfl dX7_most_69 ?_
    refine lv_sipush (v := 1024) hx hb dX7_most_72 (by decide +kernel) ?_
    refine lv_iload hx hb dX7_most_75 (lv_at hl 1 rfl) ?_
    refine lv_imul hx hb dX7_most_77 ?_
    refine k_int (v := 5120) (by decide +kernel) ?_
    refine lv_iload hx hb dX7_most_78 (lv_at hl 0 rfl) ?_
    refine lv_iadd hx hb dX7_most_80 ?_
    refine k_int (v := 5120) (by decide +kernel) ?_
    refine k_iald (v := (-1)) hx hb hK hP 2 0 5120 rfl rfl rfl (Nat.le_of_ble_eq_true rfl) (Nat.le_of_ble_eq_true rfl) rfl dX7_most_81 ?_
    refine lv_istore (lv' := [(7, .int (-1)), (6, .int 0), (5, .int 5), (4, .int 0), (8, .int 0), (3, .int (-1)), (0, .ref p0), (1, .int 5), (2, .int p2)]) hx hb dX7_most_82 hl (by decide) rfl (fun ls hl => ?_)
    refine lv_iload hx hb dX7_most_84 (lv_at hl 0 rfl) ?_
    refine lv_iconst (v := (-1)) hx hb dX7_most_86 (by decide +kernel) ?_
    refine lv_icmp_ne (tgt := 93) hx hb dX7_most_87 (by decide) (fun q9 => absurd q9 (by decide +kernel)) (fun _ => ?_)
    refine lv_goto (tgt := 154) hx hb dX7_most_90 (by decide) ?_
    refine lv_iinc (v := 1) (lv' := [(6, .int 1), (7, .int (-1)), (5, .int 5), (4, .int 0), (8, .int 0), (3, .int (-1)), (0, .ref p0), (1, .int 5), (2, .int p2)]) hx hb dX7_most_154 hl (k := 1) rfl (by decide +kernel) (by decide) rfl (fun ls hl => ?_)
    refine lv_goto (tgt := 52) hx hb dX7_most_157 (by decide) ?_
    refine lv_iload hx hb dX7_most_52 (lv_at hl 0 rfl) ?_
    refine lv_iconst (v := 1) hx hb dX7_most_54 (by decide +kernel) ?_
    refine lv_aload_n hx hb dX7_most_55 rfl (lv_at hl 6 rfl) ?_
    refine k_get (D := (dC, dI)) (ci := 7) (v := .ref (p3 14)) (C := RX7) (T := TX7) (N := 92) hx hb hts hinX7 hown hK hP 4 rfl rfl 14 (by decide) w_1 rfl rfl dX7_most_56 ?_
    refine lv_aload_n hx hb dX7_most_59 rfl (lv_at hl 6 rfl) ?_
    refine k_get (D := (dC, dI)) (ci := 7) (v := .int 0) (C := RX7) (T := TX7) (N := 92) hx hb hts hinX7 hown hK hP 4 rfl rfl 13 (by decide) w_2 rfl rfl dX7_most_60 ?_
    refine k_iald (v := 0) hx hb hK hP 5 0 0 rfl rfl rfl (Nat.le_of_ble_eq_true rfl) (Nat.le_of_ble_eq_true rfl) rfl dX7_most_63 ?_
    refine lv_ishl hx hb dX7_most_64 ?_
    refine k_int (v := 1) (by decide +kernel) ?_
    refine lv_icmp_ge (tgt := 160) hx hb dX7_most_65 (by decide) (fun _ => ?_) (fun q9 => absurd q9 (by decide +kernel))
    refine lv_iinc (v := 6) (lv' := [(5, .int 6), (6, .int 1), (7, .int (-1)), (4, .int 0), (8, .int 0), (3, .int (-1)), (0, .ref p0), (1, .int 5), (2, .int p2)]) hx hb dX7_most_160 hl (k := 2) rfl (by decide +kernel) (by decide) rfl (fun ls hl => ?_)
    refine lv_goto (tgt := 43) hx hb dX7_most_163 (by decide) ?_
    refine lv_iload hx hb dX7_most_43 (lv_at hl 0 rfl) ?_
    refine lv_iload_n hx hb dX7_most_45 rfl (lv_at hl 7 rfl) ?_
    refine lv_icmp_gt (tgt := 166) hx hb dX7_most_46 (by decide) (fun _ => ?_) (fun q9 => absurd q9 (by decide +kernel))
    refine lv_iload_n hx hb dX7_most_166 rfl (lv_at hl 8 rfl) ?_
    refine lv_if_ne (tgt := 175) hx hb dX7_most_167 (by decide) (fun c_67 => ?_) (fun c_67 => ?_)
    · have c_67 : ¬ p2.toInt = 0 := k_eqF rfl (by decide +kernel) c_67
      exfalso; omega
    · have c_67 : p2.toInt = 0 := k_eqT rfl (by decide +kernel) c_67
      refine lv_iload hx hb dX7_most_170 (lv_at hl 3 rfl) ?_
      refine lv_goto (tgt := 203) hx hb dX7_most_172 (by decide) ?_
      exact k_ri B hP hD hS dX7_most_203 () [4, 0, 1, 2, 5, 3] rfl rfl rfl (Nat.le_of_ble_eq_true rfl) (Nat.le_of_ble_eq_true rfl) rfl
  · obtain rfl : p1 = 6 := k_eqL (by decide +kernel) c_1
    refine lv_iload_n hx hb dX7_most_0 rfl (lv_at hl 1 rfl) ?_
    refine lv_iconst (v := 0) hx hb dX7_most_1 (by decide +kernel) ?_
    refine lv_bipush (v := 8) hx hb dX7_most_2 (by decide +kernel) ?_
    refine k_ci (wc := []) (wr := [(p0, .inr (7, oM p3 i7 j7)), ((p3 49), .inl (cI, 22, .inl (fun _ => 0))), ((p3 50), .inl (cI, 22, .inl (fun _ => 0))), ((p3 72), .inl (cI, 9216, .inl (fun _ => 0))), ((p3 14), .inl (cI, 2, .inl (fun _ => 0))), ((p3 18), .inl (cI, 2, .inl (fun _ => 0)))]) (fun hPc hDc hFc => va_runS (As := [.int 6, .int 0, .int 8]) (rest := []) ⟨hx, hb, hml, hown, hts⟩ (c_X7_is_v12 l dC dI cI cJ cZ cM H.size) (va_cwS 3 hts gX7_most_X7_is rfl rfl rfl (by decide +kernel) ⟨(Nat.le_of_ble_eq_true rfl), (Nat.le_of_ble_eq_true rfl)⟩) (k_pS hPc hDc hK hN hC hS hFc) rfl rfl hl.1 rfl (lv_room (Nat.le_of_ble_eq_true rfl)) dX7_most_4 ⟨(Nat.le_of_ble_eq_true rfl), (Nat.le_of_ble_eq_true rfl)⟩) hP hD hS hA [] [0, 1, 2, 3, 4, 5] rfl rfl rfl rfl (by decide) (fun _ => rfl) 0 0 rfl rfl (fun r_68 u_69 H locs hw hP hD hS => ?_)
    obtain rfl : r_68 = 1 := hw
    have hP : va_P (dC, dI) vwCl [(p0, .inr (7, oM p3 i7 j7)), ((p3 49), .inl (cI, 22, .inl (fun _ => 0))), ((p3 50), .inl (cI, 22, .inl (fun _ => 0))), ((p3 72), .inl (cI, 9216, .inl (fun _ => 0))), ((p3 14), .inl (cI, 2, .inl (fun _ => 0))), ((p3 18), .inl (cI, 2, .inl (fun _ => 0)))] H := hP
    have hD : va_D A [(p0, .inr (7, oM p3 i7 j7)), ((p3 49), .inl (cI, 22, .inl (fun _ => 0))), ((p3 50), .inl (cI, 22, .inl (fun _ => 0))), ((p3 72), .inl (cI, 9216, .inl (fun _ => 0))), ((p3 14), .inl (cI, 2, .inl (fun _ => 0))), ((p3 18), .inl (cI, 2, .inl (fun _ => 0)))] := hD
    refine lv_if_eq (tgt := 19) hx hb dX7_most_7 (by decide) (fun q9 => absurd q9 (by decide +kernel)) (fun _ => ?_)
    refine lv_iload_n hx hb dX7_most_10 rfl (lv_at hl 2 rfl) ?_
    refine lv_iconst (v := 0) hx hb dX7_most_11 (by decide +kernel) ?_
    refine lv_iconst (v := 3) hx hb dX7_most_12 (by decide +kernel) ?_
    refine k_ci (wc := []) (wr := [(p0, .inr (7, oM p3 i7 j7)), ((p3 49), .inl (cI, 22, .inl (fun _ => 0))), ((p3 50), .inl (cI, 22, .inl (fun _ => 0))), ((p3 72), .inl (cI, 9216, .inl (fun _ => 0))), ((p3 14), .inl (cI, 2, .inl (fun _ => 0))), ((p3 18), .inl (cI, 2, .inl (fun _ => 0)))]) (fun hPc hDc hFc => va_runS (As := [.int p2, .int 0, .int 3]) (rest := []) ⟨hx, hb, hml, hown, hts⟩ (c_X7_is_v20 l dC dI cI cJ cZ cM p2 (by omega) (by omega) H.size) (va_cwS 3 hts gX7_most_X7_is rfl rfl rfl (by decide +kernel) ⟨(Nat.le_of_ble_eq_true rfl), (Nat.le_of_ble_eq_true rfl)⟩) (k_pS hPc hDc hK hN hC hS hFc) rfl rfl hl.1 rfl (lv_room (Nat.le_of_ble_eq_true rfl)) dX7_most_13 ⟨(Nat.le_of_ble_eq_true rfl), (Nat.le_of_ble_eq_true rfl)⟩) hP hD hS hA [] [0, 1, 2, 3, 4, 5] rfl rfl rfl rfl (by decide) (fun _ => rfl) 0 0 rfl rfl (fun r_70 u_71 H locs hw hP hD hS => ?_)
    obtain rfl : r_70 = 1 := hw
    have hP : va_P (dC, dI) vwCl [(p0, .inr (7, oM p3 i7 j7)), ((p3 49), .inl (cI, 22, .inl (fun _ => 0))), ((p3 50), .inl (cI, 22, .inl (fun _ => 0))), ((p3 72), .inl (cI, 9216, .inl (fun _ => 0))), ((p3 14), .inl (cI, 2, .inl (fun _ => 0))), ((p3 18), .inl (cI, 2, .inl (fun _ => 0)))] H := hP
    have hD : va_D A [(p0, .inr (7, oM p3 i7 j7)), ((p3 49), .inl (cI, 22, .inl (fun _ => 0))), ((p3 50), .inl (cI, 22, .inl (fun _ => 0))), ((p3 72), .inl (cI, 9216, .inl (fun _ => 0))), ((p3 14), .inl (cI, 2, .inl (fun _ => 0))), ((p3 18), .inl (cI, 2, .inl (fun _ => 0)))] := hD
    refine lv_if_ne (tgt := 21) hx hb dX7_most_16 (by decide) (fun _ => ?_) (fun q9 => absurd q9 (by decide +kernel))
    refine lv_aload_n hx hb dX7_most_21 rfl (lv_at hl 0 rfl) ?_
    refine k_cv (wc := [(p0, .inr (7, oM p3 i7 j7)), ((p3 49), .inl (cI, 22, .inl (fun _ => 0))), ((p3 50), .inl (cI, 22, .inl (fun _ => 0))), ((p3 72), .inl (cI, 9216, .inl (fun _ => 0))), ((p3 14), .inl (cI, 2, .inl (fun _ => 0))), ((p3 18), .inl (cI, 2, .inl (fun _ => 0)))]) (wr := []) (fun hPc hDc hFc => va_runV (As := []) (rest := []) ⟨hx, hb, hml, hown, hts⟩ (c_X7_climbs_v0 l dC dI cI cJ cZ cM p0 p3 H.size) (cwV 0 hts gX7_most_X7_climbs rfl rfl rfl (by decide +kernel) ⟨(Nat.le_of_ble_eq_true rfl), (Nat.le_of_ble_eq_true rfl)⟩) (k_pV hPc hDc hK hN hC hS hFc hP (q0 := 0) (ci := 7) rfl rfl) rfl rfl hl.1 rfl (lv_room (Nat.le_of_ble_eq_true rfl)) dX7_most_22 ⟨(Nat.le_of_ble_eq_true rfl), (Nat.le_of_ble_eq_true rfl)⟩) hP hD hS hA [0, 1, 2, 3, 4, 5] [] rfl rfl rfl rfl (by decide) (fun _ => rfl) 0 0 rfl rfl (fun u_73 H locs hw hP hD hS => ?_)
    have hP : va_P (dC, dI) vwCl [(p0, .inr (7, oM p3 i7 j7)), ((p3 49), .inl (cI, 22, .inl (fun _ => 0))), ((p3 50), .inl (cI, 22, .inl (fun _ => 0))), ((p3 72), .inl (cI, 9216, .inl (upd (fun _ => (-1)) 0 0))), ((p3 14), .inl (cI, 2, .inl (fun _ => 0))), ((p3 18), .inl (cI, 2, .inl (fun _ => 0)))] H := hP
    have hD : va_D A [(p0, .inr (7, oM p3 i7 j7)), ((p3 49), .inl (cI, 22, .inl (fun _ => 0))), ((p3 50), .inl (cI, 22, .inl (fun _ => 0))), ((p3 72), .inl (cI, 9216, .inl (upd (fun _ => (-1)) 0 0))), ((p3 14), .inl (cI, 2, .inl (fun _ => 0))), ((p3 18), .inl (cI, 2, .inl (fun _ => 0)))] := hD
    refine lv_aload_n hx hb dX7_most_25 rfl (lv_at hl 0 rfl) ?_
    refine k_ci (wc := [(p0, .inr (7, oM p3 i7 j7)), ((p3 14), .inl (cI, 2, .inl (fun _ => 0)))]) (wr := [((p3 49), .inl (cI, 22, .inl (fun _ => 0))), ((p3 50), .inl (cI, 22, .inl (fun _ => 0))), ((p3 72), .inl (cI, 9216, .inl (upd (fun _ => (-1)) 0 0))), ((p3 18), .inl (cI, 2, .inl (fun _ => 0)))]) (fun hPc hDc hFc => va_runV (As := []) (rest := []) ⟨hx, hb, hml, hown, hts⟩ (c_X7_briefOnes_v2 l dC dI cI cJ cZ cM p0 p3 H.size) (cwV 0 hts gX7_most_X7_briefOnes rfl rfl rfl (by decide +kernel) ⟨(Nat.le_of_ble_eq_true rfl), (Nat.le_of_ble_eq_true rfl)⟩) (k_pV hPc hDc hK hN hC hS hFc hP (q0 := 0) (ci := 7) rfl rfl) rfl rfl hl.1 rfl (lv_room (Nat.le_of_ble_eq_true rfl)) dX7_most_26 ⟨(Nat.le_of_ble_eq_true rfl), (Nat.le_of_ble_eq_true rfl)⟩) hP hD hS hA [0, 4] [1, 2, 3, 5] rfl rfl rfl rfl (by decide) (fun _ => rfl) 0 0 rfl rfl (fun r_74 u_75 H locs hw hP hD hS => ?_)
    obtain rfl : r_74 = 0 := hw
    have hP : va_P (dC, dI) vwCl [((p3 49), .inl (cI, 22, .inl (fun _ => 0))), ((p3 50), .inl (cI, 22, .inl (fun _ => 0))), ((p3 72), .inl (cI, 9216, .inl (upd (fun _ => (-1)) 0 0))), ((p3 18), .inl (cI, 2, .inl (fun _ => 0))), (p0, .inr (7, oM p3 i7 j7)), ((p3 14), .inl (cI, 2, .inl (fun _ => 0)))] H := hP
    have hD : va_D A [((p3 49), .inl (cI, 22, .inl (fun _ => 0))), ((p3 50), .inl (cI, 22, .inl (fun _ => 0))), ((p3 72), .inl (cI, 9216, .inl (upd (fun _ => (-1)) 0 0))), ((p3 18), .inl (cI, 2, .inl (fun _ => 0))), (p0, .inr (7, oM p3 i7 j7)), ((p3 14), .inl (cI, 2, .inl (fun _ => 0)))] := hD
    refine lv_iconst (v := (-1)) hx hb dX7_most_29 (by decide +kernel) ?_
    refine lv_ixor hx hb dX7_most_30 ?_
    refine k_int (v := (-1)) (by decide +kernel) ?_
    refine lv_istore_n (lv' := [(3, .int (-1)), (0, .ref p0), (1, .int 6), (2, .int p2)]) hx hb dX7_most_31 rfl hl (by decide) rfl (fun ls hl => ?_)
    refine lv_aload_n hx hb dX7_most_32 rfl (lv_at hl 1 rfl) ?_
    refine lv_iconst (v := (-1)) hx hb dX7_most_33 (by decide +kernel) ?_
    refine k_put (D := (dC, dI)) (ci := 7) (v := .int (-1)) (C := RX7) (T := TX7) (N := 92) (ws' := [((p3 49), .inl (cI, 22, .inl (fun _ => 0))), ((p3 50), .inl (cI, 22, .inl (fun _ => 0))), ((p3 72), .inl (cI, 9216, .inl (upd (fun _ => (-1)) 0 0))), ((p3 18), .inl (cI, 2, .inl (fun _ => 0))), (p0, .inr (7, oM p3 (upd i7 75 (-1)) j7)), ((p3 14), .inl (cI, 2, .inl (fun _ => 0)))]) hx hb hts hinX7 tyX7 tyX7_ok nmX7 hown hK hP hD hS 4 rfl rfl 75 (by decide) w_0 rfl rfl rfl rfl (Nat.le_of_ble_eq_true rfl) rfl dX7_most_34 (fun H locs hP hD hS => ?_)
    refine lv_iconst (v := (-1)) hx hb dX7_most_37 (by decide +kernel) ?_
    refine lv_istore (lv' := [(4, .int (-1)), (3, .int (-1)), (0, .ref p0), (1, .int 6), (2, .int p2)]) hx hb dX7_most_38 hl (by decide) rfl (fun ls hl => ?_)
    refine lv_iconst (v := 0) hx hb dX7_most_40 (by decide +kernel) ?_
    refine lv_istore (lv' := [(5, .int 0), (4, .int (-1)), (3, .int (-1)), (0, .ref p0), (1, .int 6), (2, .int p2)]) hx hb dX7_most_41 hl (by decide) rfl (fun ls hl => ?_)
    refine lv_iload hx hb dX7_most_43 (lv_at hl 0 rfl) ?_
    refine lv_iload_n hx hb dX7_most_45 rfl (lv_at hl 4 rfl) ?_
    refine lv_icmp_gt (tgt := 166) hx hb dX7_most_46 (by decide) (fun q9 => absurd q9 (by decide +kernel)) (fun _ => ?_)
    refine lv_iconst (v := 0) hx hb dX7_most_49 (by decide +kernel) ?_
    refine lv_istore (lv' := [(6, .int 0), (5, .int 0), (4, .int (-1)), (3, .int (-1)), (0, .ref p0), (1, .int 6), (2, .int p2)]) hx hb dX7_most_50 hl (by decide) rfl (fun ls hl => ?_)
    refine lv_iload hx hb dX7_most_52 (lv_at hl 0 rfl) ?_
    refine lv_iconst (v := 1) hx hb dX7_most_54 (by decide +kernel) ?_
    refine lv_aload_n hx hb dX7_most_55 rfl (lv_at hl 4 rfl) ?_
    refine k_get (D := (dC, dI)) (ci := 7) (v := .ref (p3 14)) (C := RX7) (T := TX7) (N := 92) hx hb hts hinX7 hown hK hP 4 rfl rfl 14 (by decide) w_1 rfl rfl dX7_most_56 ?_
    refine lv_aload_n hx hb dX7_most_59 rfl (lv_at hl 4 rfl) ?_
    refine k_get (D := (dC, dI)) (ci := 7) (v := .int 0) (C := RX7) (T := TX7) (N := 92) hx hb hts hinX7 hown hK hP 4 rfl rfl 13 (by decide) w_2 rfl rfl dX7_most_60 ?_
    refine k_iald (v := 0) hx hb hK hP 5 0 0 rfl rfl rfl (Nat.le_of_ble_eq_true rfl) (Nat.le_of_ble_eq_true rfl) rfl dX7_most_63 ?_
    refine lv_ishl hx hb dX7_most_64 ?_
    refine k_int (v := 1) (by decide +kernel) ?_
    refine lv_icmp_ge (tgt := 160) hx hb dX7_most_65 (by decide) (fun q9 => absurd q9 (by decide +kernel)) (fun _ => ?_)
    refine lv_aload_n hx hb dX7_most_68 rfl (lv_at hl 4 rfl) ?_
    refine k_get (D := (dC, dI)) (ci := 7) (v := .ref (p3 72)) (C := RX7) (T := TX7) (N := 92) hx hb hts hinX7 hown hK hP 4 rfl rfl 72 (by decide) w_3 rfl rfl dX7_most_69 ?_
    refine lv_sipush (v := 1024) hx hb dX7_most_72 (by decide +kernel) ?_
    refine lv_iload hx hb dX7_most_75 (lv_at hl 1 rfl) ?_
    refine lv_imul hx hb dX7_most_77 ?_
    refine k_int (v := 0) (by decide +kernel) ?_
    refine lv_iload hx hb dX7_most_78 (lv_at hl 0 rfl) ?_
    refine lv_iadd hx hb dX7_most_80 ?_
    refine k_int (v := 0) (by decide +kernel) ?_
    refine k_iald (v := 0) hx hb hK hP 2 0 0 rfl rfl rfl (Nat.le_of_ble_eq_true rfl) (Nat.le_of_ble_eq_true rfl) rfl dX7_most_81 ?_
    refine lv_istore (lv' := [(7, .int 0), (6, .int 0), (5, .int 0), (4, .int (-1)), (3, .int (-1)), (0, .ref p0), (1, .int 6), (2, .int p2)]) hx hb dX7_most_82 hl (by decide) rfl (fun ls hl => ?_)
    refine lv_iload hx hb dX7_most_84 (lv_at hl 0 rfl) ?_
    refine lv_iconst (v := (-1)) hx hb dX7_most_86 (by decide +kernel) ?_
    refine lv_icmp_ne (tgt := 93) hx hb dX7_most_87 (by decide) (fun _ => ?_) (fun q9 => absurd q9 (by decide +kernel))
    refine lv_aload_n hx hb dX7_most_93 rfl (lv_at hl 5 rfl) ?_
    refine lv_iload hx hb dX7_most_94 (lv_at hl 1 rfl) ?_
    refine lv_iload_n hx hb dX7_most_96 rfl (lv_at hl 4 rfl) ?_
    refine lv_iand hx hb dX7_most_97 ?_
    refine k_int (v := 0) (by decide +kernel) ?_
    refine k_ci (wc := [(p0, .inr (7, oM p3 (upd i7 75 (-1)) j7)), ((p3 14), .inl (cI, 2, .inl (fun _ => 0)))]) (wr := [((p3 49), .inl (cI, 22, .inl (fun _ => 0))), ((p3 50), .inl (cI, 22, .inl (fun _ => 0))), ((p3 72), .inl (cI, 9216, .inl (upd (fun _ => (-1)) 0 0))), ((p3 18), .inl (cI, 2, .inl (fun _ => 0)))]) (fun hPc hDc hFc => va_runV (As := [.int 0]) (rest := []) ⟨hx, hb, hml, hown, hts⟩ (c_X7_worthOf_v1 l dC dI cI cJ cZ cM p0 p3 H.size) (cwV 1 hts gX7_most_X7_worthOf rfl rfl rfl (by decide +kernel) ⟨(Nat.le_of_ble_eq_true rfl), (Nat.le_of_ble_eq_true rfl)⟩) (k_pV hPc hDc hK hN hC hS hFc hP (q0 := 4) (ci := 7) rfl rfl) rfl rfl hl.1 rfl (lv_room (Nat.le_of_ble_eq_true rfl)) dX7_most_98 ⟨(Nat.le_of_ble_eq_true rfl), (Nat.le_of_ble_eq_true rfl)⟩) hP hD hS hA [4, 5] [0, 1, 2, 3] rfl rfl rfl rfl (by decide) (fun _ => rfl) 0 0 rfl rfl (fun r_76 u_77 H locs hw hP hD hS => ?_)
    obtain rfl : r_76 = 0 := hw
    have hP : va_P (dC, dI) vwCl [((p3 49), .inl (cI, 22, .inl (fun _ => 0))), ((p3 50), .inl (cI, 22, .inl (fun _ => 0))), ((p3 72), .inl (cI, 9216, .inl (upd (fun _ => (-1)) 0 0))), ((p3 18), .inl (cI, 2, .inl (fun _ => 0))), (p0, .inr (7, oM p3 (upd i7 75 (-1)) j7)), ((p3 14), .inl (cI, 2, .inl (fun _ => 0)))] H := hP
    have hD : va_D A [((p3 49), .inl (cI, 22, .inl (fun _ => 0))), ((p3 50), .inl (cI, 22, .inl (fun _ => 0))), ((p3 72), .inl (cI, 9216, .inl (upd (fun _ => (-1)) 0 0))), ((p3 18), .inl (cI, 2, .inl (fun _ => 0))), (p0, .inr (7, oM p3 (upd i7 75 (-1)) j7)), ((p3 14), .inl (cI, 2, .inl (fun _ => 0)))] := hD
    refine lv_istore (lv' := [(8, .int 0), (7, .int 0), (6, .int 0), (5, .int 0), (4, .int (-1)), (3, .int (-1)), (0, .ref p0), (1, .int 6), (2, .int p2)]) hx hb dX7_most_101 hl (by decide) rfl (fun ls hl => ?_)
    refine lv_iload hx hb dX7_most_103 (lv_at hl 0 rfl) ?_
    refine lv_iload hx hb dX7_most_105 (lv_at hl 4 rfl) ?_
    refine lv_icmp_lt (tgt := 154) hx hb dX7_most_107 (by decide) (fun q9 => absurd q9 (by decide +kernel)) (fun _ => ?_)
    refine lv_iload hx hb dX7_most_110 (lv_at hl 0 rfl) ?_
    refine lv_iload hx hb dX7_most_112 (lv_at hl 4 rfl) ?_
    refine lv_icmp_ne (tgt := 138) hx hb dX7_most_114 (by decide) (fun _ => ?_) (fun q9 => absurd q9 (by decide +kernel))
    refine lv_iload hx hb dX7_most_138 (lv_at hl 0 rfl) ?_
    refine lv_istore (lv' := [(4, .int 0), (8, .int 0), (7, .int 0), (6, .int 0), (5, .int 0), (3, .int (-1)), (0, .ref p0), (1, .int 6), (2, .int p2)]) hx hb dX7_most_140 hl (by decide) rfl (fun ls hl => ?_)
    refine lv_aload_n hx hb dX7_most_142 rfl (lv_at hl 6 rfl) ?_
    refine lv_iload hx hb dX7_most_143 (lv_at hl 4 rfl) ?_
    refine k_put (D := (dC, dI)) (ci := 7) (v := .int 0) (C := RX7) (T := TX7) (N := 92) (ws' := [((p3 49), .inl (cI, 22, .inl (fun _ => 0))), ((p3 50), .inl (cI, 22, .inl (fun _ => 0))), ((p3 72), .inl (cI, 9216, .inl (upd (fun _ => (-1)) 0 0))), ((p3 18), .inl (cI, 2, .inl (fun _ => 0))), (p0, .inr (7, oM p3 (upd i7 75 0) j7)), ((p3 14), .inl (cI, 2, .inl (fun _ => 0)))]) hx hb hts hinX7 tyX7 tyX7_ok nmX7 hown hK hP hD hS 4 rfl rfl 75 (by decide) w_0 rfl rfl rfl rfl (Nat.le_of_ble_eq_true rfl) rfl dX7_most_145 (fun H locs hP hD hS => ?_)
    refine lv_aload_n hx hb dX7_most_148 rfl (lv_at hl 6 rfl) ?_
    refine lv_iload hx hb dX7_most_149 (lv_at hl 3 rfl) ?_
    refine k_put (D := (dC, dI)) (ci := 7) (v := .int 0) (C := RX7) (T := TX7) (N := 92) (ws' := [((p3 49), .inl (cI, 22, .inl (fun _ => 0))), ((p3 50), .inl (cI, 22, .inl (fun _ => 0))), ((p3 72), .inl (cI, 9216, .inl (upd (fun _ => (-1)) 0 0))), ((p3 18), .inl (cI, 2, .inl (fun _ => 0))), (p0, .inr (7, oM p3 (upd (upd i7 75 0) 76 0) j7)), ((p3 14), .inl (cI, 2, .inl (fun _ => 0)))]) hx hb hts hinX7 tyX7 tyX7_ok nmX7 hown hK hP hD hS 4 rfl rfl 76 (by decide) w_4 rfl rfl rfl rfl (Nat.le_of_ble_eq_true rfl) rfl dX7_most_151 (fun H locs hP hD hS => ?_)
    refine lv_iinc (v := 1) (lv' := [(6, .int 1), (4, .int 0), (8, .int 0), (7, .int 0), (5, .int 0), (3, .int (-1)), (0, .ref p0), (1, .int 6), (2, .int p2)]) hx hb dX7_most_154 hl (k := 3) rfl (by decide +kernel) (by decide) rfl (fun ls hl => ?_)
    refine lv_goto (tgt := 52) hx hb dX7_most_157 (by decide) ?_
    refine lv_iload hx hb dX7_most_52 (lv_at hl 0 rfl) ?_
    refine lv_iconst (v := 1) hx hb dX7_most_54 (by decide +kernel) ?_
    refine lv_aload_n hx hb dX7_most_55 rfl (lv_at hl 6 rfl) ?_
    refine k_get (D := (dC, dI)) (ci := 7) (v := .ref (p3 14)) (C := RX7) (T := TX7) (N := 92) hx hb hts hinX7 hown hK hP 4 rfl rfl 14 (by decide) w_1 rfl rfl dX7_most_56 ?_
    refine lv_aload_n hx hb dX7_most_59 rfl (lv_at hl 6 rfl) ?_
    refine k_get (D := (dC, dI)) (ci := 7) (v := .int 0) (C := RX7) (T := TX7) (N := 92) hx hb hts hinX7 hown hK hP 4 rfl rfl 13 (by decide) w_2 rfl rfl dX7_most_60 ?_
    refine k_iald (v := 0) hx hb hK hP 5 0 0 rfl rfl rfl (Nat.le_of_ble_eq_true rfl) (Nat.le_of_ble_eq_true rfl) rfl dX7_most_63 ?_
    refine lv_ishl hx hb dX7_most_64 ?_
    refine k_int (v := 1) (by decide +kernel) ?_
    refine lv_icmp_ge (tgt := 160) hx hb dX7_most_65 (by decide) (fun _ => ?_) (fun q9 => absurd q9 (by decide +kernel))
    refine lv_iinc (v := 1) (lv' := [(5, .int 1), (6, .int 1), (4, .int 0), (8, .int 0), (7, .int 0), (3, .int (-1)), (0, .ref p0), (1, .int 6), (2, .int p2)]) hx hb dX7_most_160 hl (k := 4) rfl (by decide +kernel) (by decide) rfl (fun ls hl => ?_)
    refine lv_goto (tgt := 43) hx hb dX7_most_163 (by decide) ?_
    refine lv_iload hx hb dX7_most_43 (lv_at hl 0 rfl) ?_
    refine lv_iload_n hx hb dX7_most_45 rfl (lv_at hl 7 rfl) ?_
    refine lv_icmp_gt (tgt := 166) hx hb dX7_most_46 (by decide) (fun q9 => absurd q9 (by decide +kernel)) (fun _ => ?_)
    refine lv_iconst (v := 0) hx hb dX7_most_49 (by decide +kernel) ?_
    refine lv_istore (lv' := [(6, .int 0), (5, .int 1), (4, .int 0), (8, .int 0), (7, .int 0), (3, .int (-1)), (0, .ref p0), (1, .int 6), (2, .int p2)]) hx hb dX7_most_50 hl (by decide) rfl (fun ls hl => ?_)
    refine lv_iload hx hb dX7_most_52 (lv_at hl 0 rfl) ?_
    refine lv_iconst (v := 1) hx hb dX7_most_54 (by decide +kernel) ?_
    refine lv_aload_n hx hb dX7_most_55 rfl (lv_at hl 6 rfl) ?_
    refine k_get (D := (dC, dI)) (ci := 7) (v := .ref (p3 14)) (C := RX7) (T := TX7) (N := 92) hx hb hts hinX7 hown hK hP 4 rfl rfl 14 (by decide) w_1 rfl rfl dX7_most_56 ?_
    refine lv_aload_n hx hb dX7_most_59 rfl (lv_at hl 6 rfl) ?_
    refine k_get (D := (dC, dI)) (ci := 7) (v := .int 0) (C := RX7) (T := TX7) (N := 92) hx hb hts hinX7 hown hK hP 4 rfl rfl 13 (by decide) w_2 rfl rfl dX7_most_60 ?_
    refine k_iald (v := 0) hx hb hK hP 5 0 0 rfl rfl rfl (Nat.le_of_ble_eq_true rfl) (Nat.le_of_ble_eq_true rfl) rfl dX7_most_63 ?_
    refine lv_ishl hx hb dX7_most_64 ?_
    refine k_int (v := 1) (by decide +kernel) ?_
    refine lv_icmp_ge (tgt := 160) hx hb dX7_most_65 (by decide) (fun q9 => absurd q9 (by decide +kernel)) (fun _ => ?_)
    refine lv_aload_n hx hb dX7_most_68 rfl (lv_at hl 6 rfl) ?_
    refine k_get (D := (dC, dI)) (ci := 7) (v := .ref (p3 72)) (C := RX7) (T := TX7) (N := 92) hx hb hts hinX7 hown hK hP 4 rfl rfl 72 (by decide) w_3 rfl rfl dX7_most_69 ?_
    refine lv_sipush (v := 1024) hx hb dX7_most_72 (by decide +kernel) ?_
    refine lv_iload hx hb dX7_most_75 (lv_at hl 1 rfl) ?_
    refine lv_imul hx hb dX7_most_77 ?_
    refine k_int (v := 1024) (by decide +kernel) ?_
    refine lv_iload hx hb dX7_most_78 (lv_at hl 0 rfl) ?_
    refine lv_iadd hx hb dX7_most_80 ?_
    refine k_int (v := 1024) (by decide +kernel) ?_
    refine k_iald (v := (-1)) hx hb hK hP 2 0 1024 rfl rfl rfl (Nat.le_of_ble_eq_true rfl) (Nat.le_of_ble_eq_true rfl) rfl dX7_most_81 ?_
    refine lv_istore (lv' := [(7, .int (-1)), (6, .int 0), (5, .int 1), (4, .int 0), (8, .int 0), (3, .int (-1)), (0, .ref p0), (1, .int 6), (2, .int p2)]) hx hb dX7_most_82 hl (by decide) rfl (fun ls hl => ?_)
    refine lv_iload hx hb dX7_most_84 (lv_at hl 0 rfl) ?_
    refine lv_iconst (v := (-1)) hx hb dX7_most_86 (by decide +kernel) ?_
    refine lv_icmp_ne (tgt := 93) hx hb dX7_most_87 (by decide) (fun q9 => absurd q9 (by decide +kernel)) (fun _ => ?_)
    refine lv_goto (tgt := 154) hx hb dX7_most_90 (by decide) ?_
    refine lv_iinc (v := 1) (lv' := [(6, .int 1), (7, .int (-1)), (5, .int 1), (4, .int 0), (8, .int 0), (3, .int (-1)), (0, .ref p0), (1, .int 6), (2, .int p2)]) hx hb dX7_most_154 hl (k := 1) rfl (by decide +kernel) (by decide) rfl (fun ls hl => ?_)
    refine lv_goto (tgt := 52) hx hb dX7_most_157 (by decide) ?_
    refine lv_iload hx hb dX7_most_52 (lv_at hl 0 rfl) ?_
    refine lv_iconst (v := 1) hx hb dX7_most_54 (by decide +kernel) ?_
    refine lv_aload_n hx hb dX7_most_55 rfl (lv_at hl 6 rfl) ?_
    refine k_get (D := (dC, dI)) (ci := 7) (v := .ref (p3 14)) (C := RX7) (T := TX7) (N := 92) hx hb hts hinX7 hown hK hP 4 rfl rfl 14 (by decide) w_1 rfl rfl dX7_most_56 ?_
    refine lv_aload_n hx hb dX7_most_59 rfl (lv_at hl 6 rfl) ?_
    refine k_get (D := (dC, dI)) (ci := 7) (v := .int 0) (C := RX7) (T := TX7) (N := 92) hx hb hts hinX7 hown hK hP 4 rfl rfl 13 (by decide) w_2 rfl rfl dX7_most_60 ?_
    refine k_iald (v := 0) hx hb hK hP 5 0 0 rfl rfl rfl (Nat.le_of_ble_eq_true rfl) (Nat.le_of_ble_eq_true rfl) rfl dX7_most_63 ?_
    refine lv_ishl hx hb dX7_most_64 ?_
    refine k_int (v := 1) (by decide +kernel) ?_
    refine lv_icmp_ge (tgt := 160) hx hb dX7_most_65 (by decide) (fun _ => ?_) (fun q9 => absurd q9 (by decide +kernel))
    refine lv_iinc (v := 2) (lv' := [(5, .int 2), (6, .int 1), (7, .int (-1)), (4, .int 0), (8, .int 0), (3, .int (-1)), (0, .ref p0), (1, .int 6), (2, .int p2)]) hx hb dX7_most_160 hl (k := 2) rfl (by decide +kernel) (by decide) rfl (fun ls hl => ?_)
    refine lv_goto (tgt := 43) hx hb dX7_most_163 (by decide) ?_
    refine lv_iload hx hb dX7_most_43 (lv_at hl 0 rfl) ?_
    refine lv_iload_n hx hb dX7_most_45 rfl (lv_at hl 7 rfl) ?_
    refine lv_icmp_gt (tgt := 166) hx hb dX7_most_46 (by decide) (fun q9 => absurd q9 (by decide +kernel)) (fun _ => ?_)
    refine lv_iconst (v := 0) hx hb dX7_most_49 (by decide +kernel) ?_
    refine lv_istore (lv' := [(6, .int 0), (5, .int 2), (7, .int (-1)), (4, .int 0), (8, .int 0), (3, .int (-1)), (0, .ref p0), (1, .int 6), (2, .int p2)]) hx hb dX7_most_50 hl (by decide) rfl (fun ls hl => ?_)
    refine lv_iload hx hb dX7_most_52 (lv_at hl 0 rfl) ?_
    refine lv_iconst (v := 1) hx hb dX7_most_54 (by decide +kernel) ?_
    refine lv_aload_n hx hb dX7_most_55 rfl (lv_at hl 6 rfl) ?_
    refine k_get (D := (dC, dI)) (ci := 7) (v := .ref (p3 14)) (C := RX7) (T := TX7) (N := 92) hx hb hts hinX7 hown hK hP 4 rfl rfl 14 (by decide) w_1 rfl rfl dX7_most_56 ?_
    refine lv_aload_n hx hb dX7_most_59 rfl (lv_at hl 6 rfl) ?_
    refine k_get (D := (dC, dI)) (ci := 7) (v := .int 0) (C := RX7) (T := TX7) (N := 92) hx hb hts hinX7 hown hK hP 4 rfl rfl 13 (by decide) w_2 rfl rfl dX7_most_60 ?_
    refine k_iald (v := 0) hx hb hK hP 5 0 0 rfl rfl rfl (Nat.le_of_ble_eq_true rfl) (Nat.le_of_ble_eq_true rfl) rfl dX7_most_63 ?_
    refine lv_ishl hx hb dX7_most_64 ?_
    refine k_int (v := 1) (by decide +kernel) ?_
    refine lv_icmp_ge (tgt := 160) hx hb dX7_most_65 (by decide) (fun q9 => absurd q9 (by decide +kernel)) (fun _ => ?_)
    refine lv_aload_n hx hb dX7_most_68 rfl (lv_at hl 6 rfl) ?_
    refine k_get (D := (dC, dI)) (ci := 7) (v := .ref (p3 72)) (C := RX7) (T := TX7) (N := 92) hx hb hts hinX7 hown hK hP 4 rfl rfl 72 (by decide) w_3 rfl rfl dX7_most_69 ?_
    refine lv_sipush (v := 1024) hx hb dX7_most_72 (by decide +kernel) ?_
    refine lv_iload hx hb dX7_most_75 (lv_at hl 1 rfl) ?_
    refine lv_imul hx hb dX7_most_77 ?_
    refine k_int (v := 2048) (by decide +kernel) ?_
    refine lv_iload hx hb dX7_most_78 (lv_at hl 0 rfl) ?_
    refine lv_iadd hx hb dX7_most_80 ?_
    refine k_int (v := 2048) (by decide +kernel) ?_
    refine k_iald (v := (-1)) hx hb hK hP 2 0 2048 rfl rfl rfl (Nat.le_of_ble_eq_true rfl) (Nat.le_of_ble_eq_true rfl) rfl dX7_most_81 ?_
    refine lv_istore (lv' := [(7, .int (-1)), (6, .int 0), (5, .int 2), (4, .int 0), (8, .int 0), (3, .int (-1)), (0, .ref p0), (1, .int 6), (2, .int p2)]) hx hb dX7_most_82 hl (by decide) rfl (fun ls hl => ?_)
    refine lv_iload hx hb dX7_most_84 (lv_at hl 0 rfl) ?_
    refine lv_iconst (v := (-1)) hx hb dX7_most_86 (by decide +kernel) ?_
    refine lv_icmp_ne (tgt := 93) hx hb dX7_most_87 (by decide) (fun q9 => absurd q9 (by decide +kernel)) (fun _ => ?_)
    refine lv_goto (tgt := 154) hx hb dX7_most_90 (by decide) ?_
    refine lv_iinc (v := 1) (lv' := [(6, .int 1), (7, .int (-1)), (5, .int 2), (4, .int 0), (8, .int 0), (3, .int (-1)), (0, .ref p0), (1, .int 6), (2, .int p2)]) hx hb dX7_most_154 hl (k := 1) rfl (by decide +kernel) (by decide) rfl (fun ls hl => ?_)
    refine lv_goto (tgt := 52) hx hb dX7_most_157 (by decide) ?_
    refine lv_iload hx hb dX7_most_52 (lv_at hl 0 rfl) ?_
    refine lv_iconst (v := 1) hx hb dX7_most_54 (by decide +kernel) ?_
    refine lv_aload_n hx hb dX7_most_55 rfl (lv_at hl 6 rfl) ?_
    refine k_get (D := (dC, dI)) (ci := 7) (v := .ref (p3 14)) (C := RX7) (T := TX7) (N := 92) hx hb hts hinX7 hown hK hP 4 rfl rfl 14 (by decide) w_1 rfl rfl dX7_most_56 ?_
    refine lv_aload_n hx hb dX7_most_59 rfl (lv_at hl 6 rfl) ?_
    refine k_get (D := (dC, dI)) (ci := 7) (v := .int 0) (C := RX7) (T := TX7) (N := 92) hx hb hts hinX7 hown hK hP 4 rfl rfl 13 (by decide) w_2 rfl rfl dX7_most_60 ?_
    refine k_iald (v := 0) hx hb hK hP 5 0 0 rfl rfl rfl (Nat.le_of_ble_eq_true rfl) (Nat.le_of_ble_eq_true rfl) rfl dX7_most_63 ?_
    refine lv_ishl hx hb dX7_most_64 ?_
    refine k_int (v := 1) (by decide +kernel) ?_
    refine lv_icmp_ge (tgt := 160) hx hb dX7_most_65 (by decide) (fun _ => ?_) (fun q9 => absurd q9 (by decide +kernel))
    refine lv_iinc (v := 3) (lv' := [(5, .int 3), (6, .int 1), (7, .int (-1)), (4, .int 0), (8, .int 0), (3, .int (-1)), (0, .ref p0), (1, .int 6), (2, .int p2)]) hx hb dX7_most_160 hl (k := 2) rfl (by decide +kernel) (by decide) rfl (fun ls hl => ?_)
    refine lv_goto (tgt := 43) hx hb dX7_most_163 (by decide) ?_
    refine lv_iload hx hb dX7_most_43 (lv_at hl 0 rfl) ?_
    refine lv_iload_n hx hb dX7_most_45 rfl (lv_at hl 7 rfl) ?_
    refine lv_icmp_gt (tgt := 166) hx hb dX7_most_46 (by decide) (fun q9 => absurd q9 (by decide +kernel)) (fun _ => ?_)
    refine lv_iconst (v := 0) hx hb dX7_most_49 (by decide +kernel) ?_
    refine lv_istore (lv' := [(6, .int 0), (5, .int 3), (7, .int (-1)), (4, .int 0), (8, .int 0), (3, .int (-1)), (0, .ref p0), (1, .int 6), (2, .int p2)]) hx hb dX7_most_50 hl (by decide) rfl (fun ls hl => ?_)
    refine lv_iload hx hb dX7_most_52 (lv_at hl 0 rfl) ?_
    refine lv_iconst (v := 1) hx hb dX7_most_54 (by decide +kernel) ?_
    refine lv_aload_n hx hb dX7_most_55 rfl (lv_at hl 6 rfl) ?_
    refine k_get (D := (dC, dI)) (ci := 7) (v := .ref (p3 14)) (C := RX7) (T := TX7) (N := 92) hx hb hts hinX7 hown hK hP 4 rfl rfl 14 (by decide) w_1 rfl rfl dX7_most_56 ?_
    refine lv_aload_n hx hb dX7_most_59 rfl (lv_at hl 6 rfl) ?_
    refine k_get (D := (dC, dI)) (ci := 7) (v := .int 0) (C := RX7) (T := TX7) (N := 92) hx hb hts hinX7 hown hK hP 4 rfl rfl 13 (by decide) w_2 rfl rfl dX7_most_60 ?_
    refine k_iald (v := 0) hx hb hK hP 5 0 0 rfl rfl rfl (Nat.le_of_ble_eq_true rfl) (Nat.le_of_ble_eq_true rfl) rfl dX7_most_63 ?_
    refine lv_ishl hx hb dX7_most_64 ?_
    refine k_int (v := 1) (by decide +kernel) ?_
    refine lv_icmp_ge (tgt := 160) hx hb dX7_most_65 (by decide) (fun q9 => absurd q9 (by decide +kernel)) (fun _ => ?_)
    refine lv_aload_n hx hb dX7_most_68 rfl (lv_at hl 6 rfl) ?_
    refine k_get (D := (dC, dI)) (ci := 7) (v := .ref (p3 72)) (C := RX7) (T := TX7) (N := 92) hx hb hts hinX7 hown hK hP 4 rfl rfl 72 (by decide) w_3 rfl rfl dX7_most_69 ?_
    refine lv_sipush (v := 1024) hx hb dX7_most_72 (by decide +kernel) ?_
    refine lv_iload hx hb dX7_most_75 (lv_at hl 1 rfl) ?_
    refine lv_imul hx hb dX7_most_77 ?_
    refine k_int (v := 3072) (by decide +kernel) ?_
    refine lv_iload hx hb dX7_most_78 (lv_at hl 0 rfl) ?_
    refine lv_iadd hx hb dX7_most_80 ?_
    refine k_int (v := 3072) (by decide +kernel) ?_
    refine k_iald (v := (-1)) hx hb hK hP 2 0 3072 rfl rfl rfl (Nat.le_of_ble_eq_true rfl) (Nat.le_of_ble_eq_true rfl) rfl dX7_most_81 ?_
    refine lv_istore (lv' := [(7, .int (-1)), (6, .int 0), (5, .int 3), (4, .int 0), (8, .int 0), (3, .int (-1)), (0, .ref p0), (1, .int 6), (2, .int p2)]) hx hb dX7_most_82 hl (by decide) rfl (fun ls hl => ?_)
    refine lv_iload hx hb dX7_most_84 (lv_at hl 0 rfl) ?_
    refine lv_iconst (v := (-1)) hx hb dX7_most_86 (by decide +kernel) ?_
    refine lv_icmp_ne (tgt := 93) hx hb dX7_most_87 (by decide) (fun q9 => absurd q9 (by decide +kernel)) (fun _ => ?_)
    refine lv_goto (tgt := 154) hx hb dX7_most_90 (by decide) ?_
    refine lv_iinc (v := 1) (lv' := [(6, .int 1), (7, .int (-1)), (5, .int 3), (4, .int 0), (8, .int 0), (3, .int (-1)), (0, .ref p0), (1, .int 6), (2, .int p2)]) hx hb dX7_most_154 hl (k := 1) rfl (by decide +kernel) (by decide) rfl (fun ls hl => ?_)
    refine lv_goto (tgt := 52) hx hb dX7_most_157 (by decide) ?_
    refine lv_iload hx hb dX7_most_52 (lv_at hl 0 rfl) ?_
    refine lv_iconst (v := 1) hx hb dX7_most_54 (by decide +kernel) ?_
    refine lv_aload_n hx hb dX7_most_55 rfl (lv_at hl 6 rfl) ?_
    refine k_get (D := (dC, dI)) (ci := 7) (v := .ref (p3 14)) (C := RX7) (T := TX7) (N := 92) hx hb hts hinX7 hown hK hP 4 rfl rfl 14 (by decide) w_1 rfl rfl dX7_most_56 ?_
    refine lv_aload_n hx hb dX7_most_59 rfl (lv_at hl 6 rfl) ?_
    refine k_get (D := (dC, dI)) (ci := 7) (v := .int 0) (C := RX7) (T := TX7) (N := 92) hx hb hts hinX7 hown hK hP 4 rfl rfl 13 (by decide) w_2 rfl rfl dX7_most_60 ?_
    refine k_iald (v := 0) hx hb hK hP 5 0 0 rfl rfl rfl (Nat.le_of_ble_eq_true rfl) (Nat.le_of_ble_eq_true rfl) rfl dX7_most_63 ?_
    refine lv_ishl hx hb dX7_most_64 ?_
    refine k_int (v := 1) (by decide +kernel) ?_
    refine lv_icmp_ge (tgt := 160) hx hb dX7_most_65 (by decide) (fun _ => ?_) (fun q9 => absurd q9 (by decide +kernel))
    refine lv_iinc (v := 4) (lv' := [(5, .int 4), (6, .int 1), (7, .int (-1)), (4, .int 0), (8, .int 0), (3, .int (-1)), (0, .ref p0), (1, .int 6), (2, .int p2)]) hx hb dX7_most_160 hl (k := 2) rfl (by decide +kernel) (by decide) rfl (fun ls hl => ?_)
    refine lv_goto (tgt := 43) hx hb dX7_most_163 (by decide) ?_
    refine lv_iload hx hb dX7_most_43 (lv_at hl 0 rfl) ?_
    refine lv_iload_n hx hb dX7_most_45 rfl (lv_at hl 7 rfl) ?_
    refine lv_icmp_gt (tgt := 166) hx hb dX7_most_46 (by decide) (fun q9 => absurd q9 (by decide +kernel)) (fun _ => ?_)
    refine lv_iconst (v := 0) hx hb dX7_most_49 (by decide +kernel) ?_
    refine lv_istore (lv' := [(6, .int 0), (5, .int 4), (7, .int (-1)), (4, .int 0), (8, .int 0), (3, .int (-1)), (0, .ref p0), (1, .int 6), (2, .int p2)]) hx hb dX7_most_50 hl (by decide) rfl (fun ls hl => ?_)
    refine lv_iload hx hb dX7_most_52 (lv_at hl 0 rfl) ?_
    refine lv_iconst (v := 1) hx hb dX7_most_54 (by decide +kernel) ?_
    refine lv_aload_n hx hb dX7_most_55 rfl (lv_at hl 6 rfl) ?_
    refine k_get (D := (dC, dI)) (ci := 7) (v := .ref (p3 14)) (C := RX7) (T := TX7) (N := 92) hx hb hts hinX7 hown hK hP 4 rfl rfl 14 (by decide) w_1 rfl rfl dX7_most_56 ?_
    refine lv_aload_n hx hb dX7_most_59 rfl (lv_at hl 6 rfl) ?_
    refine k_get (D := (dC, dI)) (ci := 7) (v := .int 0) (C := RX7) (T := TX7) (N := 92) hx hb hts hinX7 hown hK hP 4 rfl rfl 13 (by decide) w_2 rfl rfl dX7_most_60 ?_
    refine k_iald (v := 0) hx hb hK hP 5 0 0 rfl rfl rfl (Nat.le_of_ble_eq_true rfl) (Nat.le_of_ble_eq_true rfl) rfl dX7_most_63 ?_
    refine lv_ishl hx hb dX7_most_64 ?_
    refine k_int (v := 1) (by decide +kernel) ?_
    refine lv_icmp_ge (tgt := 160) hx hb dX7_most_65 (by decide) (fun q9 => absurd q9 (by decide +kernel)) (fun _ => ?_)
    refine lv_aload_n hx hb dX7_most_68 rfl (lv_at hl 6 rfl) ?_
    refine k_get (D := (dC, dI)) (ci := 7) (v := .ref (p3 72)) (C := RX7) (T := TX7) (N := 92) hx hb hts hinX7 hown hK hP 4 rfl rfl 72 (by decide) w_3 rfl rfl dX7_most_69 ?_
    refine lv_sipush (v := 1024) hx hb dX7_most_72 (by decide +kernel) ?_
    refine lv_iload hx hb dX7_most_75 (lv_at hl 1 rfl) ?_
    refine lv_imul hx hb dX7_most_77 ?_
    refine k_int (v := 4096) (by decide +kernel) ?_
    refine lv_iload hx hb dX7_most_78 (lv_at hl 0 rfl) ?_
    refine lv_iadd hx hb dX7_most_80 ?_
    refine k_int (v := 4096) (by decide +kernel) ?_
    refine k_iald (v := (-1)) hx hb hK hP 2 0 4096 rfl rfl rfl (Nat.le_of_ble_eq_true rfl) (Nat.le_of_ble_eq_true rfl) rfl dX7_most_81 ?_
    refine lv_istore (lv' := [(7, .int (-1)), (6, .int 0), (5, .int 4), (4, .int 0), (8, .int 0), (3, .int (-1)), (0, .ref p0), (1, .int 6), (2, .int p2)]) hx hb dX7_most_82 hl (by decide) rfl (fun ls hl => ?_)
    refine lv_iload hx hb dX7_most_84 (lv_at hl 0 rfl) ?_
    refine lv_iconst (v := (-1)) hx hb dX7_most_86 (by decide +kernel) ?_
    refine lv_icmp_ne (tgt := 93) hx hb dX7_most_87 (by decide) (fun q9 => absurd q9 (by decide +kernel)) (fun _ => ?_)
    refine lv_goto (tgt := 154) hx hb dX7_most_90 (by decide) ?_
    refine lv_iinc (v := 1) (lv' := [(6, .int 1), (7, .int (-1)), (5, .int 4), (4, .int 0), (8, .int 0), (3, .int (-1)), (0, .ref p0), (1, .int 6), (2, .int p2)]) hx hb dX7_most_154 hl (k := 1) rfl (by decide +kernel) (by decide) rfl (fun ls hl => ?_)
    refine lv_goto (tgt := 52) hx hb dX7_most_157 (by decide) ?_
    refine lv_iload hx hb dX7_most_52 (lv_at hl 0 rfl) ?_
    refine lv_iconst (v := 1) hx hb dX7_most_54 (by decide +kernel) ?_
    refine lv_aload_n hx hb dX7_most_55 rfl (lv_at hl 6 rfl) ?_
    refine k_get (D := (dC, dI)) (ci := 7) (v := .ref (p3 14)) (C := RX7) (T := TX7) (N := 92) hx hb hts hinX7 hown hK hP 4 rfl rfl 14 (by decide) w_1 rfl rfl dX7_most_56 ?_
    refine lv_aload_n hx hb dX7_most_59 rfl (lv_at hl 6 rfl) ?_
    refine k_get (D := (dC, dI)) (ci := 7) (v := .int 0) (C := RX7) (T := TX7) (N := 92) hx hb hts hinX7 hown hK hP 4 rfl rfl 13 (by decide) w_2 rfl rfl dX7_most_60 ?_
    refine k_iald (v := 0) hx hb hK hP 5 0 0 rfl rfl rfl (Nat.le_of_ble_eq_true rfl) (Nat.le_of_ble_eq_true rfl) rfl dX7_most_63 ?_
    refine lv_ishl hx hb dX7_most_64 ?_
    refine k_int (v := 1) (by decide +kernel) ?_
    refine lv_icmp_ge (tgt := 160) hx hb dX7_most_65 (by decide) (fun _ => ?_) (fun q9 => absurd q9 (by decide +kernel))
    refine lv_iinc (v := 5) (lv' := [(5, .int 5), (6, .int 1), (7, .int (-1)), (4, .int 0), (8, .int 0), (3, .int (-1)), (0, .ref p0), (1, .int 6), (2, .int p2)]) hx hb dX7_most_160 hl (k := 2) rfl (by decide +kernel) (by decide) rfl (fun ls hl => ?_)
    refine lv_goto (tgt := 43) hx hb dX7_most_163 (by decide) ?_
    refine lv_iload hx hb dX7_most_43 (lv_at hl 0 rfl) ?_
    refine lv_iload_n hx hb dX7_most_45 rfl (lv_at hl 7 rfl) ?_
    refine lv_icmp_gt (tgt := 166) hx hb dX7_most_46 (by decide) (fun q9 => absurd q9 (by decide +kernel)) (fun _ => ?_)
    refine lv_iconst (v := 0) hx hb dX7_most_49 (by decide +kernel) ?_
    refine lv_istore (lv' := [(6, .int 0), (5, .int 5), (7, .int (-1)), (4, .int 0), (8, .int 0), (3, .int (-1)), (0, .ref p0), (1, .int 6), (2, .int p2)]) hx hb dX7_most_50 hl (by decide) rfl (fun ls hl => ?_)
    refine lv_iload hx hb dX7_most_52 (lv_at hl 0 rfl) ?_
    refine lv_iconst (v := 1) hx hb dX7_most_54 (by decide +kernel) ?_
    refine lv_aload_n hx hb dX7_most_55 rfl (lv_at hl 6 rfl) ?_
    refine k_get (D := (dC, dI)) (ci := 7) (v := .ref (p3 14)) (C := RX7) (T := TX7) (N := 92) hx hb hts hinX7 hown hK hP 4 rfl rfl 14 (by decide) w_1 rfl rfl dX7_most_56 ?_
    refine lv_aload_n hx hb dX7_most_59 rfl (lv_at hl 6 rfl) ?_
    refine k_get (D := (dC, dI)) (ci := 7) (v := .int 0) (C := RX7) (T := TX7) (N := 92) hx hb hts hinX7 hown hK hP 4 rfl rfl 13 (by decide) w_2 rfl rfl dX7_most_60 ?_
    refine k_iald (v := 0) hx hb hK hP 5 0 0 rfl rfl rfl (Nat.le_of_ble_eq_true rfl) (Nat.le_of_ble_eq_true rfl) rfl dX7_most_63 ?_
    refine lv_ishl hx hb dX7_most_64 ?_
    refine k_int (v := 1) (by decide +kernel) ?_
    refine lv_icmp_ge (tgt := 160) hx hb dX7_most_65 (by decide) (fun q9 => absurd q9 (by decide +kernel)) (fun _ => ?_)
    refine lv_aload_n hx hb dX7_most_68 rfl (lv_at hl 6 rfl) ?_
    refine k_get (D := (dC, dI)) (ci := 7) (v := .ref (p3 72)) (C := RX7) (T := TX7) (N := 92) hx hb hts hinX7 hown hK hP 4 rfl rfl 72 (by decide) w_3 rfl rfl dX7_most_69 ?_
    refine lv_sipush (v := 1024) hx hb dX7_most_72 (by decide +kernel) ?_
    refine lv_iload hx hb dX7_most_75 (lv_at hl 1 rfl) ?_
    refine lv_imul hx hb dX7_most_77 ?_
    refine k_int (v := 5120) (by decide +kernel) ?_
    refine lv_iload hx hb dX7_most_78 (lv_at hl 0 rfl) ?_
    refine lv_iadd hx hb dX7_most_80 ?_
    refine k_int (v := 5120) (by decide +kernel) ?_
    refine k_iald (v := (-1)) hx hb hK hP 2 0 5120 rfl rfl rfl (Nat.le_of_ble_eq_true rfl) (Nat.le_of_ble_eq_true rfl) rfl dX7_most_81 ?_
    refine lv_istore (lv' := [(7, .int (-1)), (6, .int 0), (5, .int 5), (4, .int 0), (8, .int 0), (3, .int (-1)), (0, .ref p0), (1, .int 6), (2, .int p2)]) hx hb dX7_most_82 hl (by decide) rfl (fun ls hl => ?_)
    refine lv_iload hx hb dX7_most_84 (lv_at hl 0 rfl) ?_
    refine lv_iconst (v := (-1)) hx hb dX7_most_86 (by decide +kernel) ?_
    refine lv_icmp_ne (tgt := 93) hx hb dX7_most_87 (by decide) (fun q9 => absurd q9 (by decide +kernel)) (fun _ => ?_)
    refine lv_goto (tgt := 154) hx hb dX7_most_90 (by decide) ?_
    refine lv_iinc (v := 1) (lv' := [(6, .int 1), (7, .int (-1)), (5, .int 5), (4, .int 0), (8, .int 0), (3, .int (-1)), (0, .ref p0), (1, .int 6), (2, .int p2)]) hx hb dX7_most_154 hl (k := 1) rfl (by decide +kernel) (by decide) rfl (fun ls hl => ?_)
    refine lv_goto (tgt := 52) hx hb dX7_most_157 (by decide) ?_
    refine lv_iload hx hb dX7_most_52 (lv_at hl 0 rfl) ?_
    refine lv_iconst (v := 1) hx hb dX7_most_54 (by decide +kernel) ?_
    refine lv_aload_n hx hb dX7_most_55 rfl (lv_at hl 6 rfl) ?_
    refine k_get (D := (dC, dI)) (ci := 7) (v := .ref (p3 14)) (C := RX7) (T := TX7) (N := 92) hx hb hts hinX7 hown hK hP 4 rfl rfl 14 (by decide) w_1 rfl rfl dX7_most_56 ?_
    refine lv_aload_n hx hb dX7_most_59 rfl (lv_at hl 6 rfl) ?_
    refine k_get (D := (dC, dI)) (ci := 7) (v := .int 0) (C := RX7) (T := TX7) (N := 92) hx hb hts hinX7 hown hK hP 4 rfl rfl 13 (by decide) w_2 rfl rfl dX7_most_60 ?_
    refine k_iald (v := 0) hx hb hK hP 5 0 0 rfl rfl rfl (Nat.le_of_ble_eq_true rfl) (Nat.le_of_ble_eq_true rfl) rfl dX7_most_63 ?_
    refine lv_ishl hx hb dX7_most_64 ?_
    refine k_int (v := 1) (by decide +kernel) ?_
    refine lv_icmp_ge (tgt := 160) hx hb dX7_most_65 (by decide) (fun _ => ?_) (fun q9 => absurd q9 (by decide +kernel))
    refine lv_iinc (v := 6) (lv' := [(5, .int 6), (6, .int 1), (7, .int (-1)), (4, .int 0), (8, .int 0), (3, .int (-1)), (0, .ref p0), (1, .int 6), (2, .int p2)]) hx hb dX7_most_160 hl (k := 2) rfl (by decide +kernel) (by decide) rfl (fun ls hl => ?_)
    refine lv_goto (tgt := 43) hx hb dX7_most_163 (by decide) ?_
    refine lv_iload hx hb dX7_most_43 (lv_at hl 0 rfl) ?_
    refine lv_iload_n hx hb dX7_most_45 rfl (lv_at hl 7 rfl) ?_
    refine lv_icmp_gt (tgt := 166) hx hb dX7_most_46 (by decide) (fun q9 => absurd q9 (by decide +kernel)) (fun _ => ?_)
    refine lv_iconst (v := 0) hx hb dX7_most_49 (by decide +kernel) ?_
    refine lv_istore (lv' := [(6, .int 0), (5, .int 6), (7, .int (-1)), (4, .int 0), (8, .int 0), (3, .int (-1)), (0, .ref p0), (1, .int 6), (2, .int p2)]) hx hb dX7_most_50 hl (by decide) rfl (fun ls hl => ?_)
    refine lv_iload hx hb dX7_most_52 (lv_at hl 0 rfl) ?_
    refine lv_iconst (v := 1) hx hb dX7_most_54 (by decide +kernel) ?_
    refine lv_aload_n hx hb dX7_most_55 rfl (lv_at hl 6 rfl) ?_
    refine k_get (D := (dC, dI)) (ci := 7) (v := .ref (p3 14)) (C := RX7) (T := TX7) (N := 92) hx hb hts hinX7 hown hK hP 4 rfl rfl 14 (by decide) w_1 rfl rfl dX7_most_56 ?_
    refine lv_aload_n hx hb dX7_most_59 rfl (lv_at hl 6 rfl) ?_
    refine k_get (D := (dC, dI)) (ci := 7) (v := .int 0) (C := RX7) (T := TX7) (N := 92) hx hb hts hinX7 hown hK hP 4 rfl rfl 13 (by decide) w_2 rfl rfl dX7_most_60 ?_
    refine k_iald (v := 0) hx hb hK hP 5 0 0 rfl rfl rfl (Nat.le_of_ble_eq_true rfl) (Nat.le_of_ble_eq_true rfl) rfl dX7_most_63 ?_
    refine lv_ishl hx hb dX7_most_64 ?_
    refine k_int (v := 1) (by decide +kernel) ?_
    refine lv_icmp_ge (tgt := 160) hx hb dX7_most_65 (by decide) (fun q9 => absurd q9 (by decide +kernel)) (fun _ => ?_)
    refine lv_aload_n hx hb dX7_most_68 rfl (lv_at hl 6 rfl) ?_
    refine k_get (D := (dC, dI)) (ci := 7) (v := .ref (p3 72)) (C := RX7) (T := TX7) (N := 92) hx hb hts hinX7 hown hK hP 4 rfl rfl 72 (by decide) w_3 rfl rfl dX7_most_69 ?_
    refine lv_sipush (v := 1024) hx hb dX7_most_72 (by decide +kernel) ?_
    refine lv_iload hx hb dX7_most_75 (lv_at hl 1 rfl) ?_
    refine lv_imul hx hb dX7_most_77 ?_
    refine k_int (v := 6144) (by decide +kernel) ?_
    refine lv_iload hx hb dX7_most_78 (lv_at hl 0 rfl) ?_
    refine lv_iadd hx hb dX7_most_80 ?_
    refine k_int (v := 6144) (by decide +kernel) ?_
    refine k_iald (v := (-1)) hx hb hK hP 2 0 6144 rfl rfl rfl (Nat.le_of_ble_eq_true rfl) (Nat.le_of_ble_eq_true rfl) rfl dX7_most_81 ?_
    refine lv_istore (lv' := [(7, .int (-1)), (6, .int 0), (5, .int 6), (4, .int 0), (8, .int 0), (3, .int (-1)), (0, .ref p0), (1, .int 6), (2, .int p2)]) hx hb dX7_most_82 hl (by decide) rfl (fun ls hl => ?_)
    refine lv_iload hx hb dX7_most_84 (lv_at hl 0 rfl) ?_
    refine lv_iconst (v := (-1)) hx hb dX7_most_86 (by decide +kernel) ?_
    refine lv_icmp_ne (tgt := 93) hx hb dX7_most_87 (by decide) (fun q9 => absurd q9 (by decide +kernel)) (fun _ => ?_)
    refine lv_goto (tgt := 154) hx hb dX7_most_90 (by decide) ?_
    refine lv_iinc (v := 1) (lv' := [(6, .int 1), (7, .int (-1)), (5, .int 6), (4, .int 0), (8, .int 0), (3, .int (-1)), (0, .ref p0), (1, .int 6), (2, .int p2)]) hx hb dX7_most_154 hl (k := 1) rfl (by decide +kernel) (by decide) rfl (fun ls hl => ?_)
    refine lv_goto (tgt := 52) hx hb dX7_most_157 (by decide) ?_
    refine lv_iload hx hb dX7_most_52 (lv_at hl 0 rfl) ?_
    refine lv_iconst (v := 1) hx hb dX7_most_54 (by decide +kernel) ?_
    refine lv_aload_n hx hb dX7_most_55 rfl (lv_at hl 6 rfl) ?_
    refine k_get (D := (dC, dI)) (ci := 7) (v := .ref (p3 14)) (C := RX7) (T := TX7) (N := 92) hx hb hts hinX7 hown hK hP 4 rfl rfl 14 (by decide) w_1 rfl rfl dX7_most_56 ?_
    refine lv_aload_n hx hb dX7_most_59 rfl (lv_at hl 6 rfl) ?_
    refine k_get (D := (dC, dI)) (ci := 7) (v := .int 0) (C := RX7) (T := TX7) (N := 92) hx hb hts hinX7 hown hK hP 4 rfl rfl 13 (by decide) w_2 rfl rfl dX7_most_60 ?_
    refine k_iald (v := 0) hx hb hK hP 5 0 0 rfl rfl rfl (Nat.le_of_ble_eq_true rfl) (Nat.le_of_ble_eq_true rfl) rfl dX7_most_63 ?_
    refine lv_ishl hx hb dX7_most_64 ?_
    refine k_int (v := 1) (by decide +kernel) ?_
    refine lv_icmp_ge (tgt := 160) hx hb dX7_most_65 (by decide) (fun _ => ?_) (fun q9 => absurd q9 (by decide +kernel))
    refine lv_iinc (v := 7) (lv' := [(5, .int 7), (6, .int 1), (7, .int (-1)), (4, .int 0), (8, .int 0), (3, .int (-1)), (0, .ref p0), (1, .int 6), (2, .int p2)]) hx hb dX7_most_160 hl (k := 2) rfl (by decide +kernel) (by decide) rfl (fun ls hl => ?_)
    refine lv_goto (tgt := 43) hx hb dX7_most_163 (by decide) ?_
    refine lv_iload hx hb dX7_most_43 (lv_at hl 0 rfl) ?_
    refine lv_iload_n hx hb dX7_most_45 rfl (lv_at hl 7 rfl) ?_
    refine lv_icmp_gt (tgt := 166) hx hb dX7_most_46 (by decide) (fun _ => ?_) (fun q9 => absurd q9 (by decide +kernel))
    refine lv_iload_n hx hb dX7_most_166 rfl (lv_at hl 8 rfl) ?_
    refine lv_if_ne (tgt := 175) hx hb dX7_most_167 (by decide) (fun c_78 => ?_) (fun c_78 => ?_)
    · have c_78 : ¬ p2.toInt = 0 := k_eqF rfl (by decide +kernel) c_78
      exfalso; omega
    · have c_78 : p2.toInt = 0 := k_eqT rfl (by decide +kernel) c_78
      refine lv_iload hx hb dX7_most_170 (lv_at hl 3 rfl) ?_
      refine lv_goto (tgt := 203) hx hb dX7_most_172 (by decide) ?_
      exact k_ri B hP hD hS dX7_most_203 () [4, 0, 1, 2, 5, 3] rfl rfl rfl (Nat.le_of_ble_eq_true rfl) (Nat.le_of_ble_eq_true rfl) rfl
  · obtain rfl : p1 = 7 := k_eqL (by decide +kernel) c_1
    refine lv_iload_n hx hb dX7_most_0 rfl (lv_at hl 1 rfl) ?_
    refine lv_iconst (v := 0) hx hb dX7_most_1 (by decide +kernel) ?_
    refine lv_bipush (v := 8) hx hb dX7_most_2 (by decide +kernel) ?_
    refine k_ci (wc := []) (wr := [(p0, .inr (7, oM p3 i7 j7)), ((p3 49), .inl (cI, 22, .inl (fun _ => 0))), ((p3 50), .inl (cI, 22, .inl (fun _ => 0))), ((p3 72), .inl (cI, 9216, .inl (fun _ => 0))), ((p3 14), .inl (cI, 2, .inl (fun _ => 0))), ((p3 18), .inl (cI, 2, .inl (fun _ => 0)))]) (fun hPc hDc hFc => va_runS (As := [.int 7, .int 0, .int 8]) (rest := []) ⟨hx, hb, hml, hown, hts⟩ (c_X7_is_v13 l dC dI cI cJ cZ cM H.size) (va_cwS 3 hts gX7_most_X7_is rfl rfl rfl (by decide +kernel) ⟨(Nat.le_of_ble_eq_true rfl), (Nat.le_of_ble_eq_true rfl)⟩) (k_pS hPc hDc hK hN hC hS hFc) rfl rfl hl.1 rfl (lv_room (Nat.le_of_ble_eq_true rfl)) dX7_most_4 ⟨(Nat.le_of_ble_eq_true rfl), (Nat.le_of_ble_eq_true rfl)⟩) hP hD hS hA [] [0, 1, 2, 3, 4, 5] rfl rfl rfl rfl (by decide) (fun _ => rfl) 0 0 rfl rfl (fun r_79 u_80 H locs hw hP hD hS => ?_)
    obtain rfl : r_79 = 1 := hw
    have hP : va_P (dC, dI) vwCl [(p0, .inr (7, oM p3 i7 j7)), ((p3 49), .inl (cI, 22, .inl (fun _ => 0))), ((p3 50), .inl (cI, 22, .inl (fun _ => 0))), ((p3 72), .inl (cI, 9216, .inl (fun _ => 0))), ((p3 14), .inl (cI, 2, .inl (fun _ => 0))), ((p3 18), .inl (cI, 2, .inl (fun _ => 0)))] H := hP
    have hD : va_D A [(p0, .inr (7, oM p3 i7 j7)), ((p3 49), .inl (cI, 22, .inl (fun _ => 0))), ((p3 50), .inl (cI, 22, .inl (fun _ => 0))), ((p3 72), .inl (cI, 9216, .inl (fun _ => 0))), ((p3 14), .inl (cI, 2, .inl (fun _ => 0))), ((p3 18), .inl (cI, 2, .inl (fun _ => 0)))] := hD
    refine lv_if_eq (tgt := 19) hx hb dX7_most_7 (by decide) (fun q9 => absurd q9 (by decide +kernel)) (fun _ => ?_)
    refine lv_iload_n hx hb dX7_most_10 rfl (lv_at hl 2 rfl) ?_
    refine lv_iconst (v := 0) hx hb dX7_most_11 (by decide +kernel) ?_
    refine lv_iconst (v := 3) hx hb dX7_most_12 (by decide +kernel) ?_
    refine k_ci (wc := []) (wr := [(p0, .inr (7, oM p3 i7 j7)), ((p3 49), .inl (cI, 22, .inl (fun _ => 0))), ((p3 50), .inl (cI, 22, .inl (fun _ => 0))), ((p3 72), .inl (cI, 9216, .inl (fun _ => 0))), ((p3 14), .inl (cI, 2, .inl (fun _ => 0))), ((p3 18), .inl (cI, 2, .inl (fun _ => 0)))]) (fun hPc hDc hFc => va_runS (As := [.int p2, .int 0, .int 3]) (rest := []) ⟨hx, hb, hml, hown, hts⟩ (c_X7_is_v20 l dC dI cI cJ cZ cM p2 (by omega) (by omega) H.size) (va_cwS 3 hts gX7_most_X7_is rfl rfl rfl (by decide +kernel) ⟨(Nat.le_of_ble_eq_true rfl), (Nat.le_of_ble_eq_true rfl)⟩) (k_pS hPc hDc hK hN hC hS hFc) rfl rfl hl.1 rfl (lv_room (Nat.le_of_ble_eq_true rfl)) dX7_most_13 ⟨(Nat.le_of_ble_eq_true rfl), (Nat.le_of_ble_eq_true rfl)⟩) hP hD hS hA [] [0, 1, 2, 3, 4, 5] rfl rfl rfl rfl (by decide) (fun _ => rfl) 0 0 rfl rfl (fun r_81 u_82 H locs hw hP hD hS => ?_)
    obtain rfl : r_81 = 1 := hw
    have hP : va_P (dC, dI) vwCl [(p0, .inr (7, oM p3 i7 j7)), ((p3 49), .inl (cI, 22, .inl (fun _ => 0))), ((p3 50), .inl (cI, 22, .inl (fun _ => 0))), ((p3 72), .inl (cI, 9216, .inl (fun _ => 0))), ((p3 14), .inl (cI, 2, .inl (fun _ => 0))), ((p3 18), .inl (cI, 2, .inl (fun _ => 0)))] H := hP
    have hD : va_D A [(p0, .inr (7, oM p3 i7 j7)), ((p3 49), .inl (cI, 22, .inl (fun _ => 0))), ((p3 50), .inl (cI, 22, .inl (fun _ => 0))), ((p3 72), .inl (cI, 9216, .inl (fun _ => 0))), ((p3 14), .inl (cI, 2, .inl (fun _ => 0))), ((p3 18), .inl (cI, 2, .inl (fun _ => 0)))] := hD
    refine lv_if_ne (tgt := 21) hx hb dX7_most_16 (by decide) (fun _ => ?_) (fun q9 => absurd q9 (by decide +kernel))
    refine lv_aload_n hx hb dX7_most_21 rfl (lv_at hl 0 rfl) ?_
    refine k_cv (wc := [(p0, .inr (7, oM p3 i7 j7)), ((p3 49), .inl (cI, 22, .inl (fun _ => 0))), ((p3 50), .inl (cI, 22, .inl (fun _ => 0))), ((p3 72), .inl (cI, 9216, .inl (fun _ => 0))), ((p3 14), .inl (cI, 2, .inl (fun _ => 0))), ((p3 18), .inl (cI, 2, .inl (fun _ => 0)))]) (wr := []) (fun hPc hDc hFc => va_runV (As := []) (rest := []) ⟨hx, hb, hml, hown, hts⟩ (c_X7_climbs_v0 l dC dI cI cJ cZ cM p0 p3 H.size) (cwV 0 hts gX7_most_X7_climbs rfl rfl rfl (by decide +kernel) ⟨(Nat.le_of_ble_eq_true rfl), (Nat.le_of_ble_eq_true rfl)⟩) (k_pV hPc hDc hK hN hC hS hFc hP (q0 := 0) (ci := 7) rfl rfl) rfl rfl hl.1 rfl (lv_room (Nat.le_of_ble_eq_true rfl)) dX7_most_22 ⟨(Nat.le_of_ble_eq_true rfl), (Nat.le_of_ble_eq_true rfl)⟩) hP hD hS hA [0, 1, 2, 3, 4, 5] [] rfl rfl rfl rfl (by decide) (fun _ => rfl) 0 0 rfl rfl (fun u_84 H locs hw hP hD hS => ?_)
    have hP : va_P (dC, dI) vwCl [(p0, .inr (7, oM p3 i7 j7)), ((p3 49), .inl (cI, 22, .inl (fun _ => 0))), ((p3 50), .inl (cI, 22, .inl (fun _ => 0))), ((p3 72), .inl (cI, 9216, .inl (upd (fun _ => (-1)) 0 0))), ((p3 14), .inl (cI, 2, .inl (fun _ => 0))), ((p3 18), .inl (cI, 2, .inl (fun _ => 0)))] H := hP
    have hD : va_D A [(p0, .inr (7, oM p3 i7 j7)), ((p3 49), .inl (cI, 22, .inl (fun _ => 0))), ((p3 50), .inl (cI, 22, .inl (fun _ => 0))), ((p3 72), .inl (cI, 9216, .inl (upd (fun _ => (-1)) 0 0))), ((p3 14), .inl (cI, 2, .inl (fun _ => 0))), ((p3 18), .inl (cI, 2, .inl (fun _ => 0)))] := hD
    refine lv_aload_n hx hb dX7_most_25 rfl (lv_at hl 0 rfl) ?_
    refine k_ci (wc := [(p0, .inr (7, oM p3 i7 j7)), ((p3 14), .inl (cI, 2, .inl (fun _ => 0)))]) (wr := [((p3 49), .inl (cI, 22, .inl (fun _ => 0))), ((p3 50), .inl (cI, 22, .inl (fun _ => 0))), ((p3 72), .inl (cI, 9216, .inl (upd (fun _ => (-1)) 0 0))), ((p3 18), .inl (cI, 2, .inl (fun _ => 0)))]) (fun hPc hDc hFc => va_runV (As := []) (rest := []) ⟨hx, hb, hml, hown, hts⟩ (c_X7_briefOnes_v2 l dC dI cI cJ cZ cM p0 p3 H.size) (cwV 0 hts gX7_most_X7_briefOnes rfl rfl rfl (by decide +kernel) ⟨(Nat.le_of_ble_eq_true rfl), (Nat.le_of_ble_eq_true rfl)⟩) (k_pV hPc hDc hK hN hC hS hFc hP (q0 := 0) (ci := 7) rfl rfl) rfl rfl hl.1 rfl (lv_room (Nat.le_of_ble_eq_true rfl)) dX7_most_26 ⟨(Nat.le_of_ble_eq_true rfl), (Nat.le_of_ble_eq_true rfl)⟩) hP hD hS hA [0, 4] [1, 2, 3, 5] rfl rfl rfl rfl (by decide) (fun _ => rfl) 0 0 rfl rfl (fun r_85 u_86 H locs hw hP hD hS => ?_)
    obtain rfl : r_85 = 0 := hw
    have hP : va_P (dC, dI) vwCl [((p3 49), .inl (cI, 22, .inl (fun _ => 0))), ((p3 50), .inl (cI, 22, .inl (fun _ => 0))), ((p3 72), .inl (cI, 9216, .inl (upd (fun _ => (-1)) 0 0))), ((p3 18), .inl (cI, 2, .inl (fun _ => 0))), (p0, .inr (7, oM p3 i7 j7)), ((p3 14), .inl (cI, 2, .inl (fun _ => 0)))] H := hP
    have hD : va_D A [((p3 49), .inl (cI, 22, .inl (fun _ => 0))), ((p3 50), .inl (cI, 22, .inl (fun _ => 0))), ((p3 72), .inl (cI, 9216, .inl (upd (fun _ => (-1)) 0 0))), ((p3 18), .inl (cI, 2, .inl (fun _ => 0))), (p0, .inr (7, oM p3 i7 j7)), ((p3 14), .inl (cI, 2, .inl (fun _ => 0)))] := hD
    refine lv_iconst (v := (-1)) hx hb dX7_most_29 (by decide +kernel) ?_
    refine lv_ixor hx hb dX7_most_30 ?_
    refine k_int (v := (-1)) (by decide +kernel) ?_
    refine lv_istore_n (lv' := [(3, .int (-1)), (0, .ref p0), (1, .int 7), (2, .int p2)]) hx hb dX7_most_31 rfl hl (by decide) rfl (fun ls hl => ?_)
    refine lv_aload_n hx hb dX7_most_32 rfl (lv_at hl 1 rfl) ?_
    refine lv_iconst (v := (-1)) hx hb dX7_most_33 (by decide +kernel) ?_
    refine k_put (D := (dC, dI)) (ci := 7) (v := .int (-1)) (C := RX7) (T := TX7) (N := 92) (ws' := [((p3 49), .inl (cI, 22, .inl (fun _ => 0))), ((p3 50), .inl (cI, 22, .inl (fun _ => 0))), ((p3 72), .inl (cI, 9216, .inl (upd (fun _ => (-1)) 0 0))), ((p3 18), .inl (cI, 2, .inl (fun _ => 0))), (p0, .inr (7, oM p3 (upd i7 75 (-1)) j7)), ((p3 14), .inl (cI, 2, .inl (fun _ => 0)))]) hx hb hts hinX7 tyX7 tyX7_ok nmX7 hown hK hP hD hS 4 rfl rfl 75 (by decide) w_0 rfl rfl rfl rfl (Nat.le_of_ble_eq_true rfl) rfl dX7_most_34 (fun H locs hP hD hS => ?_)
    refine lv_iconst (v := (-1)) hx hb dX7_most_37 (by decide +kernel) ?_
    refine lv_istore (lv' := [(4, .int (-1)), (3, .int (-1)), (0, .ref p0), (1, .int 7), (2, .int p2)]) hx hb dX7_most_38 hl (by decide) rfl (fun ls hl => ?_)
    refine lv_iconst (v := 0) hx hb dX7_most_40 (by decide +kernel) ?_
    refine lv_istore (lv' := [(5, .int 0), (4, .int (-1)), (3, .int (-1)), (0, .ref p0), (1, .int 7), (2, .int p2)]) hx hb dX7_most_41 hl (by decide) rfl (fun ls hl => ?_)
    refine lv_iload hx hb dX7_most_43 (lv_at hl 0 rfl) ?_
    refine lv_iload_n hx hb dX7_most_45 rfl (lv_at hl 4 rfl) ?_
    refine lv_icmp_gt (tgt := 166) hx hb dX7_most_46 (by decide) (fun q9 => absurd q9 (by decide +kernel)) (fun _ => ?_)
    refine lv_iconst (v := 0) hx hb dX7_most_49 (by decide +kernel) ?_
    refine lv_istore (lv' := [(6, .int 0), (5, .int 0), (4, .int (-1)), (3, .int (-1)), (0, .ref p0), (1, .int 7), (2, .int p2)]) hx hb dX7_most_50 hl (by decide) rfl (fun ls hl => ?_)
    refine lv_iload hx hb dX7_most_52 (lv_at hl 0 rfl) ?_
    refine lv_iconst (v := 1) hx hb dX7_most_54 (by decide +kernel) ?_
    refine lv_aload_n hx hb dX7_most_55 rfl (lv_at hl 4 rfl) ?_
    refine k_get (D := (dC, dI)) (ci := 7) (v := .ref (p3 14)) (C := RX7) (T := TX7) (N := 92) hx hb hts hinX7 hown hK hP 4 rfl rfl 14 (by decide) w_1 rfl rfl dX7_most_56 ?_
    refine lv_aload_n hx hb dX7_most_59 rfl (lv_at hl 4 rfl) ?_
    refine k_get (D := (dC, dI)) (ci := 7) (v := .int 0) (C := RX7) (T := TX7) (N := 92) hx hb hts hinX7 hown hK hP 4 rfl rfl 13 (by decide) w_2 rfl rfl dX7_most_60 ?_
    refine k_iald (v := 0) hx hb hK hP 5 0 0 rfl rfl rfl (Nat.le_of_ble_eq_true rfl) (Nat.le_of_ble_eq_true rfl) rfl dX7_most_63 ?_
    refine lv_ishl hx hb dX7_most_64 ?_
    refine k_int (v := 1) (by decide +kernel) ?_
    refine lv_icmp_ge (tgt := 160) hx hb dX7_most_65 (by decide) (fun q9 => absurd q9 (by decide +kernel)) (fun _ => ?_)
    refine lv_aload_n hx hb dX7_most_68 rfl (lv_at hl 4 rfl) ?_
    refine k_get (D := (dC, dI)) (ci := 7) (v := .ref (p3 72)) (C := RX7) (T := TX7) (N := 92) hx hb hts hinX7 hown hK hP 4 rfl rfl 72 (by decide) w_3 rfl rfl dX7_most_69 ?_
    refine lv_sipush (v := 1024) hx hb dX7_most_72 (by decide +kernel) ?_
    refine lv_iload hx hb dX7_most_75 (lv_at hl 1 rfl) ?_
    refine lv_imul hx hb dX7_most_77 ?_
    refine k_int (v := 0) (by decide +kernel) ?_
    refine lv_iload hx hb dX7_most_78 (lv_at hl 0 rfl) ?_
    refine lv_iadd hx hb dX7_most_80 ?_
    refine k_int (v := 0) (by decide +kernel) ?_
    refine k_iald (v := 0) hx hb hK hP 2 0 0 rfl rfl rfl (Nat.le_of_ble_eq_true rfl) (Nat.le_of_ble_eq_true rfl) rfl dX7_most_81 ?_
    refine lv_istore (lv' := [(7, .int 0), (6, .int 0), (5, .int 0), (4, .int (-1)), (3, .int (-1)), (0, .ref p0), (1, .int 7), (2, .int p2)]) hx hb dX7_most_82 hl (by decide) rfl (fun ls hl => ?_)
    refine lv_iload hx hb dX7_most_84 (lv_at hl 0 rfl) ?_
    refine lv_iconst (v := (-1)) hx hb dX7_most_86 (by decide +kernel) ?_
    refine lv_icmp_ne (tgt := 93) hx hb dX7_most_87 (by decide) (fun _ => ?_) (fun q9 => absurd q9 (by decide +kernel))
    refine lv_aload_n hx hb dX7_most_93 rfl (lv_at hl 5 rfl) ?_
    refine lv_iload hx hb dX7_most_94 (lv_at hl 1 rfl) ?_
    refine lv_iload_n hx hb dX7_most_96 rfl (lv_at hl 4 rfl) ?_
    refine lv_iand hx hb dX7_most_97 ?_
    refine k_int (v := 0) (by decide +kernel) ?_
    refine k_ci (wc := [(p0, .inr (7, oM p3 (upd i7 75 (-1)) j7)), ((p3 14), .inl (cI, 2, .inl (fun _ => 0)))]) (wr := [((p3 49), .inl (cI, 22, .inl (fun _ => 0))), ((p3 50), .inl (cI, 22, .inl (fun _ => 0))), ((p3 72), .inl (cI, 9216, .inl (upd (fun _ => (-1)) 0 0))), ((p3 18), .inl (cI, 2, .inl (fun _ => 0)))]) (fun hPc hDc hFc => va_runV (As := [.int 0]) (rest := []) ⟨hx, hb, hml, hown, hts⟩ (c_X7_worthOf_v1 l dC dI cI cJ cZ cM p0 p3 H.size) (cwV 1 hts gX7_most_X7_worthOf rfl rfl rfl (by decide +kernel) ⟨(Nat.le_of_ble_eq_true rfl), (Nat.le_of_ble_eq_true rfl)⟩) (k_pV hPc hDc hK hN hC hS hFc hP (q0 := 4) (ci := 7) rfl rfl) rfl rfl hl.1 rfl (lv_room (Nat.le_of_ble_eq_true rfl)) dX7_most_98 ⟨(Nat.le_of_ble_eq_true rfl), (Nat.le_of_ble_eq_true rfl)⟩) hP hD hS hA [4, 5] [0, 1, 2, 3] rfl rfl rfl rfl (by decide) (fun _ => rfl) 0 0 rfl rfl (fun r_87 u_88 H locs hw hP hD hS => ?_)
    obtain rfl : r_87 = 0 := hw
    have hP : va_P (dC, dI) vwCl [((p3 49), .inl (cI, 22, .inl (fun _ => 0))), ((p3 50), .inl (cI, 22, .inl (fun _ => 0))), ((p3 72), .inl (cI, 9216, .inl (upd (fun _ => (-1)) 0 0))), ((p3 18), .inl (cI, 2, .inl (fun _ => 0))), (p0, .inr (7, oM p3 (upd i7 75 (-1)) j7)), ((p3 14), .inl (cI, 2, .inl (fun _ => 0)))] H := hP
    have hD : va_D A [((p3 49), .inl (cI, 22, .inl (fun _ => 0))), ((p3 50), .inl (cI, 22, .inl (fun _ => 0))), ((p3 72), .inl (cI, 9216, .inl (upd (fun _ => (-1)) 0 0))), ((p3 18), .inl (cI, 2, .inl (fun _ => 0))), (p0, .inr (7, oM p3 (upd i7 75 (-1)) j7)), ((p3 14), .inl (cI, 2, .inl (fun _ => 0)))] := hD
    refine lv_istore (lv' := [(8, .int 0), (7, .int 0), (6, .int 0), (5, .int 0), (4, .int (-1)), (3, .int (-1)), (0, .ref p0), (1, .int 7), (2, .int p2)]) hx hb dX7_most_101 hl (by decide) rfl (fun ls hl => ?_)
    refine lv_iload hx hb dX7_most_103 (lv_at hl 0 rfl) ?_
    refine lv_iload hx hb dX7_most_105 (lv_at hl 4 rfl) ?_
    refine lv_icmp_lt (tgt := 154) hx hb dX7_most_107 (by decide) (fun q9 => absurd q9 (by decide +kernel)) (fun _ => ?_)
    refine lv_iload hx hb dX7_most_110 (lv_at hl 0 rfl) ?_
    refine lv_iload hx hb dX7_most_112 (lv_at hl 4 rfl) ?_
    refine lv_icmp_ne (tgt := 138) hx hb dX7_most_114 (by decide) (fun _ => ?_) (fun q9 => absurd q9 (by decide +kernel))
    refine lv_iload hx hb dX7_most_138 (lv_at hl 0 rfl) ?_
    refine lv_istore (lv' := [(4, .int 0), (8, .int 0), (7, .int 0), (6, .int 0), (5, .int 0), (3, .int (-1)), (0, .ref p0), (1, .int 7), (2, .int p2)]) hx hb dX7_most_140 hl (by decide) rfl (fun ls hl => ?_)
    refine lv_aload_n hx hb dX7_most_142 rfl (lv_at hl 6 rfl) ?_
    refine lv_iload hx hb dX7_most_143 (lv_at hl 4 rfl) ?_
    refine k_put (D := (dC, dI)) (ci := 7) (v := .int 0) (C := RX7) (T := TX7) (N := 92) (ws' := [((p3 49), .inl (cI, 22, .inl (fun _ => 0))), ((p3 50), .inl (cI, 22, .inl (fun _ => 0))), ((p3 72), .inl (cI, 9216, .inl (upd (fun _ => (-1)) 0 0))), ((p3 18), .inl (cI, 2, .inl (fun _ => 0))), (p0, .inr (7, oM p3 (upd i7 75 0) j7)), ((p3 14), .inl (cI, 2, .inl (fun _ => 0)))]) hx hb hts hinX7 tyX7 tyX7_ok nmX7 hown hK hP hD hS 4 rfl rfl 75 (by decide) w_0 rfl rfl rfl rfl (Nat.le_of_ble_eq_true rfl) rfl dX7_most_145 (fun H locs hP hD hS => ?_)
    refine lv_aload_n hx hb dX7_most_148 rfl (lv_at hl 6 rfl) ?_
    refine lv_iload hx hb dX7_most_149 (lv_at hl 3 rfl) ?_
    refine k_put (D := (dC, dI)) (ci := 7) (v := .int 0) (C := RX7) (T := TX7) (N := 92) (ws' := [((p3 49), .inl (cI, 22, .inl (fun _ => 0))), ((p3 50), .inl (cI, 22, .inl (fun _ => 0))), ((p3 72), .inl (cI, 9216, .inl (upd (fun _ => (-1)) 0 0))), ((p3 18), .inl (cI, 2, .inl (fun _ => 0))), (p0, .inr (7, oM p3 (upd (upd i7 75 0) 76 0) j7)), ((p3 14), .inl (cI, 2, .inl (fun _ => 0)))]) hx hb hts hinX7 tyX7 tyX7_ok nmX7 hown hK hP hD hS 4 rfl rfl 76 (by decide) w_4 rfl rfl rfl rfl (Nat.le_of_ble_eq_true rfl) rfl dX7_most_151 (fun H locs hP hD hS => ?_)
    refine lv_iinc (v := 1) (lv' := [(6, .int 1), (4, .int 0), (8, .int 0), (7, .int 0), (5, .int 0), (3, .int (-1)), (0, .ref p0), (1, .int 7), (2, .int p2)]) hx hb dX7_most_154 hl (k := 3) rfl (by decide +kernel) (by decide) rfl (fun ls hl => ?_)
    refine lv_goto (tgt := 52) hx hb dX7_most_157 (by decide) ?_
    refine lv_iload hx hb dX7_most_52 (lv_at hl 0 rfl) ?_
    refine lv_iconst (v := 1) hx hb dX7_most_54 (by decide +kernel) ?_
    refine lv_aload_n hx hb dX7_most_55 rfl (lv_at hl 6 rfl) ?_
    refine k_get (D := (dC, dI)) (ci := 7) (v := .ref (p3 14)) (C := RX7) (T := TX7) (N := 92) hx hb hts hinX7 hown hK hP 4 rfl rfl 14 (by decide) w_1 rfl rfl dX7_most_56 ?_
    refine lv_aload_n hx hb dX7_most_59 rfl (lv_at hl 6 rfl) ?_
    refine k_get (D := (dC, dI)) (ci := 7) (v := .int 0) (C := RX7) (T := TX7) (N := 92) hx hb hts hinX7 hown hK hP 4 rfl rfl 13 (by decide) w_2 rfl rfl dX7_most_60 ?_
    refine k_iald (v := 0) hx hb hK hP 5 0 0 rfl rfl rfl (Nat.le_of_ble_eq_true rfl) (Nat.le_of_ble_eq_true rfl) rfl dX7_most_63 ?_
    refine lv_ishl hx hb dX7_most_64 ?_
    refine k_int (v := 1) (by decide +kernel) ?_
    refine lv_icmp_ge (tgt := 160) hx hb dX7_most_65 (by decide) (fun _ => ?_) (fun q9 => absurd q9 (by decide +kernel))
    refine lv_iinc (v := 1) (lv' := [(5, .int 1), (6, .int 1), (4, .int 0), (8, .int 0), (7, .int 0), (3, .int (-1)), (0, .ref p0), (1, .int 7), (2, .int p2)]) hx hb dX7_most_160 hl (k := 4) rfl (by decide +kernel) (by decide) rfl (fun ls hl => ?_)
    refine lv_goto (tgt := 43) hx hb dX7_most_163 (by decide) ?_
    refine lv_iload hx hb dX7_most_43 (lv_at hl 0 rfl) ?_
    refine lv_iload_n hx hb dX7_most_45 rfl (lv_at hl 7 rfl) ?_
    refine lv_icmp_gt (tgt := 166) hx hb dX7_most_46 (by decide) (fun q9 => absurd q9 (by decide +kernel)) (fun _ => ?_)
    refine lv_iconst (v := 0) hx hb dX7_most_49 (by decide +kernel) ?_
    refine lv_istore (lv' := [(6, .int 0), (5, .int 1), (4, .int 0), (8, .int 0), (7, .int 0), (3, .int (-1)), (0, .ref p0), (1, .int 7), (2, .int p2)]) hx hb dX7_most_50 hl (by decide) rfl (fun ls hl => ?_)
    refine lv_iload hx hb dX7_most_52 (lv_at hl 0 rfl) ?_
    refine lv_iconst (v := 1) hx hb dX7_most_54 (by decide +kernel) ?_
    refine lv_aload_n hx hb dX7_most_55 rfl (lv_at hl 6 rfl) ?_
    refine k_get (D := (dC, dI)) (ci := 7) (v := .ref (p3 14)) (C := RX7) (T := TX7) (N := 92) hx hb hts hinX7 hown hK hP 4 rfl rfl 14 (by decide) w_1 rfl rfl dX7_most_56 ?_
    refine lv_aload_n hx hb dX7_most_59 rfl (lv_at hl 6 rfl) ?_
    refine k_get (D := (dC, dI)) (ci := 7) (v := .int 0) (C := RX7) (T := TX7) (N := 92) hx hb hts hinX7 hown hK hP 4 rfl rfl 13 (by decide) w_2 rfl rfl dX7_most_60 ?_
    refine k_iald (v := 0) hx hb hK hP 5 0 0 rfl rfl rfl (Nat.le_of_ble_eq_true rfl) (Nat.le_of_ble_eq_true rfl) rfl dX7_most_63 ?_
    refine lv_ishl hx hb dX7_most_64 ?_
    refine k_int (v := 1) (by decide +kernel) ?_
    refine lv_icmp_ge (tgt := 160) hx hb dX7_most_65 (by decide) (fun q9 => absurd q9 (by decide +kernel)) (fun _ => ?_)
    refine lv_aload_n hx hb dX7_most_68 rfl (lv_at hl 6 rfl) ?_
    refine k_get (D := (dC, dI)) (ci := 7) (v := .ref (p3 72)) (C := RX7) (T := TX7) (N := 92) hx hb hts hinX7 hown hK hP 4 rfl rfl 72 (by decide) w_3 rfl rfl dX7_most_69 ?_
    refine lv_sipush (v := 1024) hx hb dX7_most_72 (by decide +kernel) ?_
    refine lv_iload hx hb dX7_most_75 (lv_at hl 1 rfl) ?_
    refine lv_imul hx hb dX7_most_77 ?_
    refine k_int (v := 1024) (by decide +kernel) ?_
    refine lv_iload hx hb dX7_most_78 (lv_at hl 0 rfl) ?_
    refine lv_iadd hx hb dX7_most_80 ?_
    refine k_int (v := 1024) (by decide +kernel) ?_
    refine k_iald (v := (-1)) hx hb hK hP 2 0 1024 rfl rfl rfl (Nat.le_of_ble_eq_true rfl) (Nat.le_of_ble_eq_true rfl) rfl dX7_most_81 ?_
    refine lv_istore (lv' := [(7, .int (-1)), (6, .int 0), (5, .int 1), (4, .int 0), (8, .int 0), (3, .int (-1)), (0, .ref p0), (1, .int 7), (2, .int p2)]) hx hb dX7_most_82 hl (by decide) rfl (fun ls hl => ?_)
    refine lv_iload hx hb dX7_most_84 (lv_at hl 0 rfl) ?_
    refine lv_iconst (v := (-1)) hx hb dX7_most_86 (by decide +kernel) ?_
    refine lv_icmp_ne (tgt := 93) hx hb dX7_most_87 (by decide) (fun q9 => absurd q9 (by decide +kernel)) (fun _ => ?_)
    refine lv_goto (tgt := 154) hx hb dX7_most_90 (by decide) ?_
    refine lv_iinc (v := 1) (lv' := [(6, .int 1), (7, .int (-1)), (5, .int 1), (4, .int 0), (8, .int 0), (3, .int (-1)), (0, .ref p0), (1, .int 7), (2, .int p2)]) hx hb dX7_most_154 hl (k := 1) rfl (by decide +kernel) (by decide) rfl (fun ls hl => ?_)
    refine lv_goto (tgt := 52) hx hb dX7_most_157 (by decide) ?_
    refine lv_iload hx hb dX7_most_52 (lv_at hl 0 rfl) ?_
    refine lv_iconst (v := 1) hx hb dX7_most_54 (by decide +kernel) ?_
    refine lv_aload_n hx hb dX7_most_55 rfl (lv_at hl 6 rfl) ?_
    refine k_get (D := (dC, dI)) (ci := 7) (v := .ref (p3 14)) (C := RX7) (T := TX7) (N := 92) hx hb hts hinX7 hown hK hP 4 rfl rfl 14 (by decide) w_1 rfl rfl dX7_most_56 ?_
    refine lv_aload_n hx hb dX7_most_59 rfl (lv_at hl 6 rfl) ?_
    refine k_get (D := (dC, dI)) (ci := 7) (v := .int 0) (C := RX7) (T := TX7) (N := 92) hx hb hts hinX7 hown hK hP 4 rfl rfl 13 (by decide) w_2 rfl rfl dX7_most_60 ?_
    refine k_iald (v := 0) hx hb hK hP 5 0 0 rfl rfl rfl (Nat.le_of_ble_eq_true rfl) (Nat.le_of_ble_eq_true rfl) rfl dX7_most_63 ?_
    refine lv_ishl hx hb dX7_most_64 ?_
    refine k_int (v := 1) (by decide +kernel) ?_
    refine lv_icmp_ge (tgt := 160) hx hb dX7_most_65 (by decide) (fun _ => ?_) (fun q9 => absurd q9 (by decide +kernel))
    refine lv_iinc (v := 2) (lv' := [(5, .int 2), (6, .int 1), (7, .int (-1)), (4, .int 0), (8, .int 0), (3, .int (-1)), (0, .ref p0), (1, .int 7), (2, .int p2)]) hx hb dX7_most_160 hl (k := 2) rfl (by decide +kernel) (by decide) rfl (fun ls hl => ?_)
    refine lv_goto (tgt := 43) hx hb dX7_most_163 (by decide) ?_
    refine lv_iload hx hb dX7_most_43 (lv_at hl 0 rfl) ?_
    refine lv_iload_n hx hb dX7_most_45 rfl (lv_at hl 7 rfl) ?_
    refine lv_icmp_gt (tgt := 166) hx hb dX7_most_46 (by decide) (fun q9 => absurd q9 (by decide +kernel)) (fun _ => ?_)
    refine lv_iconst (v := 0) hx hb dX7_most_49 (by decide +kernel) ?_
    refine lv_istore (lv' := [(6, .int 0), (5, .int 2), (7, .int (-1)), (4, .int 0), (8, .int 0), (3, .int (-1)), (0, .ref p0), (1, .int 7), (2, .int p2)]) hx hb dX7_most_50 hl (by decide) rfl (fun ls hl => ?_)
    refine lv_iload hx hb dX7_most_52 (lv_at hl 0 rfl) ?_
    refine lv_iconst (v := 1) hx hb dX7_most_54 (by decide +kernel) ?_
    refine lv_aload_n hx hb dX7_most_55 rfl (lv_at hl 6 rfl) ?_
    refine k_get (D := (dC, dI)) (ci := 7) (v := .ref (p3 14)) (C := RX7) (T := TX7) (N := 92) hx hb hts hinX7 hown hK hP 4 rfl rfl 14 (by decide) w_1 rfl rfl dX7_most_56 ?_
    refine lv_aload_n hx hb dX7_most_59 rfl (lv_at hl 6 rfl) ?_
    refine k_get (D := (dC, dI)) (ci := 7) (v := .int 0) (C := RX7) (T := TX7) (N := 92) hx hb hts hinX7 hown hK hP 4 rfl rfl 13 (by decide) w_2 rfl rfl dX7_most_60 ?_
    refine k_iald (v := 0) hx hb hK hP 5 0 0 rfl rfl rfl (Nat.le_of_ble_eq_true rfl) (Nat.le_of_ble_eq_true rfl) rfl dX7_most_63 ?_
    refine lv_ishl hx hb dX7_most_64 ?_
    refine k_int (v := 1) (by decide +kernel) ?_
    refine lv_icmp_ge (tgt := 160) hx hb dX7_most_65 (by decide) (fun q9 => absurd q9 (by decide +kernel)) (fun _ => ?_)
    refine lv_aload_n hx hb dX7_most_68 rfl (lv_at hl 6 rfl) ?_
    refine k_get (D := (dC, dI)) (ci := 7) (v := .ref (p3 72)) (C := RX7) (T := TX7) (N := 92) hx hb hts hinX7 hown hK hP 4 rfl rfl 72 (by decide) w_3 rfl rfl dX7_most_69 ?_
    refine lv_sipush (v := 1024) hx hb dX7_most_72 (by decide +kernel) ?_
    refine lv_iload hx hb dX7_most_75 (lv_at hl 1 rfl) ?_
    refine lv_imul hx hb dX7_most_77 ?_
    refine k_int (v := 2048) (by decide +kernel) ?_
    refine lv_iload hx hb dX7_most_78 (lv_at hl 0 rfl) ?_
    refine lv_iadd hx hb dX7_most_80 ?_
    refine k_int (v := 2048) (by decide +kernel) ?_
    refine k_iald (v := (-1)) hx hb hK hP 2 0 2048 rfl rfl rfl (Nat.le_of_ble_eq_true rfl) (Nat.le_of_ble_eq_true rfl) rfl dX7_most_81 ?_
    refine lv_istore (lv' := [(7, .int (-1)), (6, .int 0), (5, .int 2), (4, .int 0), (8, .int 0), (3, .int (-1)), (0, .ref p0), (1, .int 7), (2, .int p2)]) hx hb dX7_most_82 hl (by decide) rfl (fun ls hl => ?_)
    refine lv_iload hx hb dX7_most_84 (lv_at hl 0 rfl) ?_
    refine lv_iconst (v := (-1)) hx hb dX7_most_86 (by decide +kernel) ?_
    refine lv_icmp_ne (tgt := 93) hx hb dX7_most_87 (by decide) (fun q9 => absurd q9 (by decide +kernel)) (fun _ => ?_)
    refine lv_goto (tgt := 154) hx hb dX7_most_90 (by decide) ?_
    refine lv_iinc (v := 1) (lv' := [(6, .int 1), (7, .int (-1)), (5, .int 2), (4, .int 0), (8, .int 0), (3, .int (-1)), (0, .ref p0), (1, .int 7), (2, .int p2)]) hx hb dX7_most_154 hl (k := 1) rfl (by decide +kernel) (by decide) rfl (fun ls hl => ?_)
    refine lv_goto (tgt := 52) hx hb dX7_most_157 (by decide) ?_
    refine lv_iload hx hb dX7_most_52 (lv_at hl 0 rfl) ?_
    refine lv_iconst (v := 1) hx hb dX7_most_54 (by decide +kernel) ?_
    refine lv_aload_n hx hb dX7_most_55 rfl (lv_at hl 6 rfl) ?_
    refine k_get (D := (dC, dI)) (ci := 7) (v := .ref (p3 14)) (C := RX7) (T := TX7) (N := 92) hx hb hts hinX7 hown hK hP 4 rfl rfl 14 (by decide) w_1 rfl rfl dX7_most_56 ?_
    refine lv_aload_n hx hb dX7_most_59 rfl (lv_at hl 6 rfl) ?_
    refine k_get (D := (dC, dI)) (ci := 7) (v := .int 0) (C := RX7) (T := TX7) (N := 92) hx hb hts hinX7 hown hK hP 4 rfl rfl 13 (by decide) w_2 rfl rfl dX7_most_60 ?_
    refine k_iald (v := 0) hx hb hK hP 5 0 0 rfl rfl rfl (Nat.le_of_ble_eq_true rfl) (Nat.le_of_ble_eq_true rfl) rfl dX7_most_63 ?_
    refine lv_ishl hx hb dX7_most_64 ?_
    refine k_int (v := 1) (by decide +kernel) ?_
    refine lv_icmp_ge (tgt := 160) hx hb dX7_most_65 (by decide) (fun _ => ?_) (fun q9 => absurd q9 (by decide +kernel))
    refine lv_iinc (v := 3) (lv' := [(5, .int 3), (6, .int 1), (7, .int (-1)), (4, .int 0), (8, .int 0), (3, .int (-1)), (0, .ref p0), (1, .int 7), (2, .int p2)]) hx hb dX7_most_160 hl (k := 2) rfl (by decide +kernel) (by decide) rfl (fun ls hl => ?_)
    refine lv_goto (tgt := 43) hx hb dX7_most_163 (by decide) ?_
    refine lv_iload hx hb dX7_most_43 (lv_at hl 0 rfl) ?_
    refine lv_iload_n hx hb dX7_most_45 rfl (lv_at hl 7 rfl) ?_
    refine lv_icmp_gt (tgt := 166) hx hb dX7_most_46 (by decide) (fun q9 => absurd q9 (by decide +kernel)) (fun _ => ?_)
    refine lv_iconst (v := 0) hx hb dX7_most_49 (by decide +kernel) ?_
    refine lv_istore (lv' := [(6, .int 0), (5, .int 3), (7, .int (-1)), (4, .int 0), (8, .int 0), (3, .int (-1)), (0, .ref p0), (1, .int 7), (2, .int p2)]) hx hb dX7_most_50 hl (by decide) rfl (fun ls hl => ?_)
    refine lv_iload hx hb dX7_most_52 (lv_at hl 0 rfl) ?_
    refine lv_iconst (v := 1) hx hb dX7_most_54 (by decide +kernel) ?_
    refine lv_aload_n hx hb dX7_most_55 rfl (lv_at hl 6 rfl) ?_
    refine k_get (D := (dC, dI)) (ci := 7) (v := .ref (p3 14)) (C := RX7) (T := TX7) (N := 92) hx hb hts hinX7 hown hK hP 4 rfl rfl 14 (by decide) w_1 rfl rfl dX7_most_56 ?_
    refine lv_aload_n hx hb dX7_most_59 rfl (lv_at hl 6 rfl) ?_
    refine k_get (D := (dC, dI)) (ci := 7) (v := .int 0) (C := RX7) (T := TX7) (N := 92) hx hb hts hinX7 hown hK hP 4 rfl rfl 13 (by decide) w_2 rfl rfl dX7_most_60 ?_
    refine k_iald (v := 0) hx hb hK hP 5 0 0 rfl rfl rfl (Nat.le_of_ble_eq_true rfl) (Nat.le_of_ble_eq_true rfl) rfl dX7_most_63 ?_
    refine lv_ishl hx hb dX7_most_64 ?_
    refine k_int (v := 1) (by decide +kernel) ?_
    refine lv_icmp_ge (tgt := 160) hx hb dX7_most_65 (by decide) (fun q9 => absurd q9 (by decide +kernel)) (fun _ => ?_)
    refine lv_aload_n hx hb dX7_most_68 rfl (lv_at hl 6 rfl) ?_
    refine k_get (D := (dC, dI)) (ci := 7) (v := .ref (p3 72)) (C := RX7) (T := TX7) (N := 92) hx hb hts hinX7 hown hK hP 4 rfl rfl 72 (by decide) w_3 rfl rfl dX7_most_69 ?_
    refine lv_sipush (v := 1024) hx hb dX7_most_72 (by decide +kernel) ?_
    refine lv_iload hx hb dX7_most_75 (lv_at hl 1 rfl) ?_
    refine lv_imul hx hb dX7_most_77 ?_
    refine k_int (v := 3072) (by decide +kernel) ?_
    refine lv_iload hx hb dX7_most_78 (lv_at hl 0 rfl) ?_
    refine lv_iadd hx hb dX7_most_80 ?_
    refine k_int (v := 3072) (by decide +kernel) ?_
    refine k_iald (v := (-1)) hx hb hK hP 2 0 3072 rfl rfl rfl (Nat.le_of_ble_eq_true rfl) (Nat.le_of_ble_eq_true rfl) rfl dX7_most_81 ?_
    refine lv_istore (lv' := [(7, .int (-1)), (6, .int 0), (5, .int 3), (4, .int 0), (8, .int 0), (3, .int (-1)), (0, .ref p0), (1, .int 7), (2, .int p2)]) hx hb dX7_most_82 hl (by decide) rfl (fun ls hl => ?_)
    refine lv_iload hx hb dX7_most_84 (lv_at hl 0 rfl) ?_
    refine lv_iconst (v := (-1)) hx hb dX7_most_86 (by decide +kernel) ?_
    refine lv_icmp_ne (tgt := 93) hx hb dX7_most_87 (by decide) (fun q9 => absurd q9 (by decide +kernel)) (fun _ => ?_)
    refine lv_goto (tgt := 154) hx hb dX7_most_90 (by decide) ?_
    refine lv_iinc (v := 1) (lv' := [(6, .int 1), (7, .int (-1)), (5, .int 3), (4, .int 0), (8, .int 0), (3, .int (-1)), (0, .ref p0), (1, .int 7), (2, .int p2)]) hx hb dX7_most_154 hl (k := 1) rfl (by decide +kernel) (by decide) rfl (fun ls hl => ?_)
    refine lv_goto (tgt := 52) hx hb dX7_most_157 (by decide) ?_
    refine lv_iload hx hb dX7_most_52 (lv_at hl 0 rfl) ?_
    refine lv_iconst (v := 1) hx hb dX7_most_54 (by decide +kernel) ?_
    refine lv_aload_n hx hb dX7_most_55 rfl (lv_at hl 6 rfl) ?_
    refine k_get (D := (dC, dI)) (ci := 7) (v := .ref (p3 14)) (C := RX7) (T := TX7) (N := 92) hx hb hts hinX7 hown hK hP 4 rfl rfl 14 (by decide) w_1 rfl rfl dX7_most_56 ?_
    refine lv_aload_n hx hb dX7_most_59 rfl (lv_at hl 6 rfl) ?_
    refine k_get (D := (dC, dI)) (ci := 7) (v := .int 0) (C := RX7) (T := TX7) (N := 92) hx hb hts hinX7 hown hK hP 4 rfl rfl 13 (by decide) w_2 rfl rfl dX7_most_60 ?_
    refine k_iald (v := 0) hx hb hK hP 5 0 0 rfl rfl rfl (Nat.le_of_ble_eq_true rfl) (Nat.le_of_ble_eq_true rfl) rfl dX7_most_63 ?_
    refine lv_ishl hx hb dX7_most_64 ?_
    refine k_int (v := 1) (by decide +kernel) ?_
    refine lv_icmp_ge (tgt := 160) hx hb dX7_most_65 (by decide) (fun _ => ?_) (fun q9 => absurd q9 (by decide +kernel))
    refine lv_iinc (v := 4) (lv' := [(5, .int 4), (6, .int 1), (7, .int (-1)), (4, .int 0), (8, .int 0), (3, .int (-1)), (0, .ref p0), (1, .int 7), (2, .int p2)]) hx hb dX7_most_160 hl (k := 2) rfl (by decide +kernel) (by decide) rfl (fun ls hl => ?_)
    refine lv_goto (tgt := 43) hx hb dX7_most_163 (by decide) ?_
    refine lv_iload hx hb dX7_most_43 (lv_at hl 0 rfl) ?_
    refine lv_iload_n hx hb dX7_most_45 rfl (lv_at hl 7 rfl) ?_
    refine lv_icmp_gt (tgt := 166) hx hb dX7_most_46 (by decide) (fun q9 => absurd q9 (by decide +kernel)) (fun _ => ?_)
    refine lv_iconst (v := 0) hx hb dX7_most_49 (by decide +kernel) ?_
    refine lv_istore (lv' := [(6, .int 0), (5, .int 4), (7, .int (-1)), (4, .int 0), (8, .int 0), (3, .int (-1)), (0, .ref p0), (1, .int 7), (2, .int p2)]) hx hb dX7_most_50 hl (by decide) rfl (fun ls hl => ?_)
    refine lv_iload hx hb dX7_most_52 (lv_at hl 0 rfl) ?_
    refine lv_iconst (v := 1) hx hb dX7_most_54 (by decide +kernel) ?_
    refine lv_aload_n hx hb dX7_most_55 rfl (lv_at hl 6 rfl) ?_
    refine k_get (D := (dC, dI)) (ci := 7) (v := .ref (p3 14)) (C := RX7) (T := TX7) (N := 92) hx hb hts hinX7 hown hK hP 4 rfl rfl 14 (by decide) w_1 rfl rfl dX7_most_56 ?_
    refine lv_aload_n hx hb dX7_most_59 rfl (lv_at hl 6 rfl) ?_
    refine k_get (D := (dC, dI)) (ci := 7) (v := .int 0) (C := RX7) (T := TX7) (N := 92) hx hb hts hinX7 hown hK hP 4 rfl rfl 13 (by decide) w_2 rfl rfl dX7_most_60 ?_
    refine k_iald (v := 0) hx hb hK hP 5 0 0 rfl rfl rfl (Nat.le_of_ble_eq_true rfl) (Nat.le_of_ble_eq_true rfl) rfl dX7_most_63 ?_
    refine lv_ishl hx hb dX7_most_64 ?_
    refine k_int (v := 1) (by decide +kernel) ?_
    refine lv_icmp_ge (tgt := 160) hx hb dX7_most_65 (by decide) (fun q9 => absurd q9 (by decide +kernel)) (fun _ => ?_)
    refine lv_aload_n hx hb dX7_most_68 rfl (lv_at hl 6 rfl) ?_
    refine k_get (D := (dC, dI)) (ci := 7) (v := .ref (p3 72)) (C := RX7) (T := TX7) (N := 92) hx hb hts hinX7 hown hK hP 4 rfl rfl 72 (by decide) w_3 rfl rfl dX7_most_69 ?_
    refine lv_sipush (v := 1024) hx hb dX7_most_72 (by decide +kernel) ?_
    refine lv_iload hx hb dX7_most_75 (lv_at hl 1 rfl) ?_
    refine lv_imul hx hb dX7_most_77 ?_
    refine k_int (v := 4096) (by decide +kernel) ?_
    refine lv_iload hx hb dX7_most_78 (lv_at hl 0 rfl) ?_
    refine lv_iadd hx hb dX7_most_80 ?_
    refine k_int (v := 4096) (by decide +kernel) ?_
    refine k_iald (v := (-1)) hx hb hK hP 2 0 4096 rfl rfl rfl (Nat.le_of_ble_eq_true rfl) (Nat.le_of_ble_eq_true rfl) rfl dX7_most_81 ?_
    refine lv_istore (lv' := [(7, .int (-1)), (6, .int 0), (5, .int 4), (4, .int 0), (8, .int 0), (3, .int (-1)), (0, .ref p0), (1, .int 7), (2, .int p2)]) hx hb dX7_most_82 hl (by decide) rfl (fun ls hl => ?_)
    refine lv_iload hx hb dX7_most_84 (lv_at hl 0 rfl) ?_
    refine lv_iconst (v := (-1)) hx hb dX7_most_86 (by decide +kernel) ?_
    refine lv_icmp_ne (tgt := 93) hx hb dX7_most_87 (by decide) (fun q9 => absurd q9 (by decide +kernel)) (fun _ => ?_)
    refine lv_goto (tgt := 154) hx hb dX7_most_90 (by decide) ?_
    refine lv_iinc (v := 1) (lv' := [(6, .int 1), (7, .int (-1)), (5, .int 4), (4, .int 0), (8, .int 0), (3, .int (-1)), (0, .ref p0), (1, .int 7), (2, .int p2)]) hx hb dX7_most_154 hl (k := 1) rfl (by decide +kernel) (by decide) rfl (fun ls hl => ?_)
    refine lv_goto (tgt := 52) hx hb dX7_most_157 (by decide) ?_
    refine lv_iload hx hb dX7_most_52 (lv_at hl 0 rfl) ?_
    refine lv_iconst (v := 1) hx hb dX7_most_54 (by decide +kernel) ?_
    refine lv_aload_n hx hb dX7_most_55 rfl (lv_at hl 6 rfl) ?_
    refine k_get (D := (dC, dI)) (ci := 7) (v := .ref (p3 14)) (C := RX7) (T := TX7) (N := 92) hx hb hts hinX7 hown hK hP 4 rfl rfl 14 (by decide) w_1 rfl rfl dX7_most_56 ?_
    refine lv_aload_n hx hb dX7_most_59 rfl (lv_at hl 6 rfl) ?_
    refine k_get (D := (dC, dI)) (ci := 7) (v := .int 0) (C := RX7) (T := TX7) (N := 92) hx hb hts hinX7 hown hK hP 4 rfl rfl 13 (by decide) w_2 rfl rfl dX7_most_60 ?_
    refine k_iald (v := 0) hx hb hK hP 5 0 0 rfl rfl rfl (Nat.le_of_ble_eq_true rfl) (Nat.le_of_ble_eq_true rfl) rfl dX7_most_63 ?_
    refine lv_ishl hx hb dX7_most_64 ?_
    refine k_int (v := 1) (by decide +kernel) ?_
    refine lv_icmp_ge (tgt := 160) hx hb dX7_most_65 (by decide) (fun _ => ?_) (fun q9 => absurd q9 (by decide +kernel))
    refine lv_iinc (v := 5) (lv' := [(5, .int 5), (6, .int 1), (7, .int (-1)), (4, .int 0), (8, .int 0), (3, .int (-1)), (0, .ref p0), (1, .int 7), (2, .int p2)]) hx hb dX7_most_160 hl (k := 2) rfl (by decide +kernel) (by decide) rfl (fun ls hl => ?_)
    refine lv_goto (tgt := 43) hx hb dX7_most_163 (by decide) ?_
    refine lv_iload hx hb dX7_most_43 (lv_at hl 0 rfl) ?_
    refine lv_iload_n hx hb dX7_most_45 rfl (lv_at hl 7 rfl) ?_
    refine lv_icmp_gt (tgt := 166) hx hb dX7_most_46 (by decide) (fun q9 => absurd q9 (by decide +kernel)) (fun _ => ?_)
    refine lv_iconst (v := 0) hx hb dX7_most_49 (by decide +kernel) ?_
    refine lv_istore (lv' := [(6, .int 0), (5, .int 5), (7, .int (-1)), (4, .int 0), (8, .int 0), (3, .int (-1)), (0, .ref p0), (1, .int 7), (2, .int p2)]) hx hb dX7_most_50 hl (by decide) rfl (fun ls hl => ?_)
    refine lv_iload hx hb dX7_most_52 (lv_at hl 0 rfl) ?_
    refine lv_iconst (v := 1) hx hb dX7_most_54 (by decide +kernel) ?_
    refine lv_aload_n hx hb dX7_most_55 rfl (lv_at hl 6 rfl) ?_
    refine k_get (D := (dC, dI)) (ci := 7) (v := .ref (p3 14)) (C := RX7) (T := TX7) (N := 92) hx hb hts hinX7 hown hK hP 4 rfl rfl 14 (by decide) w_1 rfl rfl dX7_most_56 ?_
    refine lv_aload_n hx hb dX7_most_59 rfl (lv_at hl 6 rfl) ?_
    refine k_get (D := (dC, dI)) (ci := 7) (v := .int 0) (C := RX7) (T := TX7) (N := 92) hx hb hts hinX7 hown hK hP 4 rfl rfl 13 (by decide) w_2 rfl rfl dX7_most_60 ?_
    refine k_iald (v := 0) hx hb hK hP 5 0 0 rfl rfl rfl (Nat.le_of_ble_eq_true rfl) (Nat.le_of_ble_eq_true rfl) rfl dX7_most_63 ?_
    refine lv_ishl hx hb dX7_most_64 ?_
    refine k_int (v := 1) (by decide +kernel) ?_
    refine lv_icmp_ge (tgt := 160) hx hb dX7_most_65 (by decide) (fun q9 => absurd q9 (by decide +kernel)) (fun _ => ?_)
    refine lv_aload_n hx hb dX7_most_68 rfl (lv_at hl 6 rfl) ?_
    refine k_get (D := (dC, dI)) (ci := 7) (v := .ref (p3 72)) (C := RX7) (T := TX7) (N := 92) hx hb hts hinX7 hown hK hP 4 rfl rfl 72 (by decide) w_3 rfl rfl dX7_most_69 ?_
    refine lv_sipush (v := 1024) hx hb dX7_most_72 (by decide +kernel) ?_
    refine lv_iload hx hb dX7_most_75 (lv_at hl 1 rfl) ?_
    refine lv_imul hx hb dX7_most_77 ?_
    refine k_int (v := 5120) (by decide +kernel) ?_
    refine lv_iload hx hb dX7_most_78 (lv_at hl 0 rfl) ?_
    refine lv_iadd hx hb dX7_most_80 ?_
    refine k_int (v := 5120) (by decide +kernel) ?_
    refine k_iald (v := (-1)) hx hb hK hP 2 0 5120 rfl rfl rfl (Nat.le_of_ble_eq_true rfl) (Nat.le_of_ble_eq_true rfl) rfl dX7_most_81 ?_
    refine lv_istore (lv' := [(7, .int (-1)), (6, .int 0), (5, .int 5), (4, .int 0), (8, .int 0), (3, .int (-1)), (0, .ref p0), (1, .int 7), (2, .int p2)]) hx hb dX7_most_82 hl (by decide) rfl (fun ls hl => ?_)
    refine lv_iload hx hb dX7_most_84 (lv_at hl 0 rfl) ?_
    refine lv_iconst (v := (-1)) hx hb dX7_most_86 (by decide +kernel) ?_
    refine lv_icmp_ne (tgt := 93) hx hb dX7_most_87 (by decide) (fun q9 => absurd q9 (by decide +kernel)) (fun _ => ?_)
    refine lv_goto (tgt := 154) hx hb dX7_most_90 (by decide) ?_
    refine lv_iinc (v := 1) (lv' := [(6, .int 1), (7, .int (-1)), (5, .int 5), (4, .int 0), (8, .int 0), (3, .int (-1)), (0, .ref p0), (1, .int 7), (2, .int p2)]) hx hb dX7_most_154 hl (k := 1) rfl (by decide +kernel) (by decide) rfl (fun ls hl => ?_)
    refine lv_goto (tgt := 52) hx hb dX7_most_157 (by decide) ?_
    refine lv_iload hx hb dX7_most_52 (lv_at hl 0 rfl) ?_
    refine lv_iconst (v := 1) hx hb dX7_most_54 (by decide +kernel) ?_
    refine lv_aload_n hx hb dX7_most_55 rfl (lv_at hl 6 rfl) ?_
    refine k_get (D := (dC, dI)) (ci := 7) (v := .ref (p3 14)) (C := RX7) (T := TX7) (N := 92) hx hb hts hinX7 hown hK hP 4 rfl rfl 14 (by decide) w_1 rfl rfl dX7_most_56 ?_
    refine lv_aload_n hx hb dX7_most_59 rfl (lv_at hl 6 rfl) ?_
    refine k_get (D := (dC, dI)) (ci := 7) (v := .int 0) (C := RX7) (T := TX7) (N := 92) hx hb hts hinX7 hown hK hP 4 rfl rfl 13 (by decide) w_2 rfl rfl dX7_most_60 ?_
    refine k_iald (v := 0) hx hb hK hP 5 0 0 rfl rfl rfl (Nat.le_of_ble_eq_true rfl) (Nat.le_of_ble_eq_true rfl) rfl dX7_most_63 ?_
    refine lv_ishl hx hb dX7_most_64 ?_
    refine k_int (v := 1) (by decide +kernel) ?_
    refine lv_icmp_ge (tgt := 160) hx hb dX7_most_65 (by decide) (fun _ => ?_) (fun q9 => absurd q9 (by decide +kernel))
    refine lv_iinc (v := 6) (lv' := [(5, .int 6), (6, .int 1), (7, .int (-1)), (4, .int 0), (8, .int 0), (3, .int (-1)), (0, .ref p0), (1, .int 7), (2, .int p2)]) hx hb dX7_most_160 hl (k := 2) rfl (by decide +kernel) (by decide) rfl (fun ls hl => ?_)
    refine lv_goto (tgt := 43) hx hb dX7_most_163 (by decide) ?_
    refine lv_iload hx hb dX7_most_43 (lv_at hl 0 rfl) ?_
    refine lv_iload_n hx hb dX7_most_45 rfl (lv_at hl 7 rfl) ?_
    refine lv_icmp_gt (tgt := 166) hx hb dX7_most_46 (by decide) (fun q9 => absurd q9 (by decide +kernel)) (fun _ => ?_)
    refine lv_iconst (v := 0) hx hb dX7_most_49 (by decide +kernel) ?_
    refine lv_istore (lv' := [(6, .int 0), (5, .int 6), (7, .int (-1)), (4, .int 0), (8, .int 0), (3, .int (-1)), (0, .ref p0), (1, .int 7), (2, .int p2)]) hx hb dX7_most_50 hl (by decide) rfl (fun ls hl => ?_)
    refine lv_iload hx hb dX7_most_52 (lv_at hl 0 rfl) ?_
    refine lv_iconst (v := 1) hx hb dX7_most_54 (by decide +kernel) ?_
    refine lv_aload_n hx hb dX7_most_55 rfl (lv_at hl 6 rfl) ?_
    refine k_get (D := (dC, dI)) (ci := 7) (v := .ref (p3 14)) (C := RX7) (T := TX7) (N := 92) hx hb hts hinX7 hown hK hP 4 rfl rfl 14 (by decide) w_1 rfl rfl dX7_most_56 ?_
    refine lv_aload_n hx hb dX7_most_59 rfl (lv_at hl 6 rfl) ?_
    refine k_get (D := (dC, dI)) (ci := 7) (v := .int 0) (C := RX7) (T := TX7) (N := 92) hx hb hts hinX7 hown hK hP 4 rfl rfl 13 (by decide) w_2 rfl rfl dX7_most_60 ?_
    refine k_iald (v := 0) hx hb hK hP 5 0 0 rfl rfl rfl (Nat.le_of_ble_eq_true rfl) (Nat.le_of_ble_eq_true rfl) rfl dX7_most_63 ?_
    refine lv_ishl hx hb dX7_most_64 ?_
    refine k_int (v := 1) (by decide +kernel) ?_
    refine lv_icmp_ge (tgt := 160) hx hb dX7_most_65 (by decide) (fun q9 => absurd q9 (by decide +kernel)) (fun _ => ?_)
    refine lv_aload_n hx hb dX7_most_68 rfl (lv_at hl 6 rfl) ?_
    refine k_get (D := (dC, dI)) (ci := 7) (v := .ref (p3 72)) (C := RX7) (T := TX7) (N := 92) hx hb hts hinX7 hown hK hP 4 rfl rfl 72 (by decide) w_3 rfl rfl dX7_most_69 ?_
    refine lv_sipush (v := 1024) hx hb dX7_most_72 (by decide +kernel) ?_
    refine lv_iload hx hb dX7_most_75 (lv_at hl 1 rfl) ?_
    refine lv_imul hx hb dX7_most_77 ?_
    refine k_int (v := 6144) (by decide +kernel) ?_
    refine lv_iload hx hb dX7_most_78 (lv_at hl 0 rfl) ?_
    refine lv_iadd hx hb dX7_most_80 ?_
    refine k_int (v := 6144) (by decide +kernel) ?_
    refine k_iald (v := (-1)) hx hb hK hP 2 0 6144 rfl rfl rfl (Nat.le_of_ble_eq_true rfl) (Nat.le_of_ble_eq_true rfl) rfl dX7_most_81 ?_
    refine lv_istore (lv' := [(7, .int (-1)), (6, .int 0), (5, .int 6), (4, .int 0), (8, .int 0), (3, .int (-1)), (0, .ref p0), (1, .int 7), (2, .int p2)]) hx hb dX7_most_82 hl (by decide) rfl (fun ls hl => ?_)
    refine lv_iload hx hb dX7_most_84 (lv_at hl 0 rfl) ?_
    refine lv_iconst (v := (-1)) hx hb dX7_most_86 (by decide +kernel) ?_
    refine lv_icmp_ne (tgt := 93) hx hb dX7_most_87 (by decide) (fun q9 => absurd q9 (by decide +kernel)) (fun _ => ?_)
    refine lv_goto (tgt := 154) hx hb dX7_most_90 (by decide) ?_
    refine lv_iinc (v := 1) (lv' := [(6, .int 1), (7, .int (-1)), (5, .int 6), (4, .int 0), (8, .int 0), (3, .int (-1)), (0, .ref p0), (1, .int 7), (2, .int p2)]) hx hb dX7_most_154 hl (k := 1) rfl (by decide +kernel) (by decide) rfl (fun ls hl => ?_)
    refine lv_goto (tgt := 52) hx hb dX7_most_157 (by decide) ?_
    refine lv_iload hx hb dX7_most_52 (lv_at hl 0 rfl) ?_
    refine lv_iconst (v := 1) hx hb dX7_most_54 (by decide +kernel) ?_
    refine lv_aload_n hx hb dX7_most_55 rfl (lv_at hl 6 rfl) ?_
    refine k_get (D := (dC, dI)) (ci := 7) (v := .ref (p3 14)) (C := RX7) (T := TX7) (N := 92) hx hb hts hinX7 hown hK hP 4 rfl rfl 14 (by decide) w_1 rfl rfl dX7_most_56 ?_
    refine lv_aload_n hx hb dX7_most_59 rfl (lv_at hl 6 rfl) ?_
    refine k_get (D := (dC, dI)) (ci := 7) (v := .int 0) (C := RX7) (T := TX7) (N := 92) hx hb hts hinX7 hown hK hP 4 rfl rfl 13 (by decide) w_2 rfl rfl dX7_most_60 ?_
    refine k_iald (v := 0) hx hb hK hP 5 0 0 rfl rfl rfl (Nat.le_of_ble_eq_true rfl) (Nat.le_of_ble_eq_true rfl) rfl dX7_most_63 ?_
    refine lv_ishl hx hb dX7_most_64 ?_
    refine k_int (v := 1) (by decide +kernel) ?_
    refine lv_icmp_ge (tgt := 160) hx hb dX7_most_65 (by decide) (fun _ => ?_) (fun q9 => absurd q9 (by decide +kernel))
    refine lv_iinc (v := 7) (lv' := [(5, .int 7), (6, .int 1), (7, .int (-1)), (4, .int 0), (8, .int 0), (3, .int (-1)), (0, .ref p0), (1, .int 7), (2, .int p2)]) hx hb dX7_most_160 hl (k := 2) rfl (by decide +kernel) (by decide) rfl (fun ls hl => ?_)
    refine lv_goto (tgt := 43) hx hb dX7_most_163 (by decide) ?_
    refine lv_iload hx hb dX7_most_43 (lv_at hl 0 rfl) ?_
    refine lv_iload_n hx hb dX7_most_45 rfl (lv_at hl 7 rfl) ?_
    refine lv_icmp_gt (tgt := 166) hx hb dX7_most_46 (by decide) (fun q9 => absurd q9 (by decide +kernel)) (fun _ => ?_)
    refine lv_iconst (v := 0) hx hb dX7_most_49 (by decide +kernel) ?_
    refine lv_istore (lv' := [(6, .int 0), (5, .int 7), (7, .int (-1)), (4, .int 0), (8, .int 0), (3, .int (-1)), (0, .ref p0), (1, .int 7), (2, .int p2)]) hx hb dX7_most_50 hl (by decide) rfl (fun ls hl => ?_)
    refine lv_iload hx hb dX7_most_52 (lv_at hl 0 rfl) ?_
    refine lv_iconst (v := 1) hx hb dX7_most_54 (by decide +kernel) ?_
    refine lv_aload_n hx hb dX7_most_55 rfl (lv_at hl 6 rfl) ?_
    refine k_get (D := (dC, dI)) (ci := 7) (v := .ref (p3 14)) (C := RX7) (T := TX7) (N := 92) hx hb hts hinX7 hown hK hP 4 rfl rfl 14 (by decide) w_1 rfl rfl dX7_most_56 ?_
    refine lv_aload_n hx hb dX7_most_59 rfl (lv_at hl 6 rfl) ?_
    refine k_get (D := (dC, dI)) (ci := 7) (v := .int 0) (C := RX7) (T := TX7) (N := 92) hx hb hts hinX7 hown hK hP 4 rfl rfl 13 (by decide) w_2 rfl rfl dX7_most_60 ?_
    refine k_iald (v := 0) hx hb hK hP 5 0 0 rfl rfl rfl (Nat.le_of_ble_eq_true rfl) (Nat.le_of_ble_eq_true rfl) rfl dX7_most_63 ?_
    refine lv_ishl hx hb dX7_most_64 ?_
    refine k_int (v := 1) (by decide +kernel) ?_
    refine lv_icmp_ge (tgt := 160) hx hb dX7_most_65 (by decide) (fun q9 => absurd q9 (by decide +kernel)) (fun _ => ?_)
    refine lv_aload_n hx hb dX7_most_68 rfl (lv_at hl 6 rfl) ?_
    refine k_get (D := (dC, dI)) (ci := 7) (v := .ref (p3 72)) (C := RX7) (T := TX7) (N := 92) hx hb hts hinX7 hown hK hP 4 rfl rfl 72 (by decide) w_3 rfl rfl dX7_most_69 ?_
    refine lv_sipush (v := 1024) hx hb dX7_most_72 (by decide +kernel) ?_
    refine lv_iload hx hb dX7_most_75 (lv_at hl 1 rfl) ?_
    refine lv_imul hx hb dX7_most_77 ?_
    refine k_int (v := 7168) (by decide +kernel) ?_
    refine lv_iload hx hb dX7_most_78 (lv_at hl 0 rfl) ?_
    refine lv_iadd hx hb dX7_most_80 ?_
    refine k_int (v := 7168) (by decide +kernel) ?_
    refine k_iald (v := (-1)) hx hb hK hP 2 0 7168 rfl rfl rfl (Nat.le_of_ble_eq_true rfl) (Nat.le_of_ble_eq_true rfl) rfl dX7_most_81 ?_
    refine lv_istore (lv' := [(7, .int (-1)), (6, .int 0), (5, .int 7), (4, .int 0), (8, .int 0), (3, .int (-1)), (0, .ref p0), (1, .int 7), (2, .int p2)]) hx hb dX7_most_82 hl (by decide) rfl (fun ls hl => ?_)
    refine lv_iload hx hb dX7_most_84 (lv_at hl 0 rfl) ?_
    refine lv_iconst (v := (-1)) hx hb dX7_most_86 (by decide +kernel) ?_
    refine lv_icmp_ne (tgt := 93) hx hb dX7_most_87 (by decide) (fun q9 => absurd q9 (by decide +kernel)) (fun _ => ?_)
    refine lv_goto (tgt := 154) hx hb dX7_most_90 (by decide) ?_
    refine lv_iinc (v := 1) (lv' := [(6, .int 1), (7, .int (-1)), (5, .int 7), (4, .int 0), (8, .int 0), (3, .int (-1)), (0, .ref p0), (1, .int 7), (2, .int p2)]) hx hb dX7_most_154 hl (k := 1) rfl (by decide +kernel) (by decide) rfl (fun ls hl => ?_)
    refine lv_goto (tgt := 52) hx hb dX7_most_157 (by decide) ?_
    refine lv_iload hx hb dX7_most_52 (lv_at hl 0 rfl) ?_
    refine lv_iconst (v := 1) hx hb dX7_most_54 (by decide +kernel) ?_
    refine lv_aload_n hx hb dX7_most_55 rfl (lv_at hl 6 rfl) ?_
    refine k_get (D := (dC, dI)) (ci := 7) (v := .ref (p3 14)) (C := RX7) (T := TX7) (N := 92) hx hb hts hinX7 hown hK hP 4 rfl rfl 14 (by decide) w_1 rfl rfl dX7_most_56 ?_
    refine lv_aload_n hx hb dX7_most_59 rfl (lv_at hl 6 rfl) ?_
    refine k_get (D := (dC, dI)) (ci := 7) (v := .int 0) (C := RX7) (T := TX7) (N := 92) hx hb hts hinX7 hown hK hP 4 rfl rfl 13 (by decide) w_2 rfl rfl dX7_most_60 ?_
    refine k_iald (v := 0) hx hb hK hP 5 0 0 rfl rfl rfl (Nat.le_of_ble_eq_true rfl) (Nat.le_of_ble_eq_true rfl) rfl dX7_most_63 ?_
    refine lv_ishl hx hb dX7_most_64 ?_
    refine k_int (v := 1) (by decide +kernel) ?_
    refine lv_icmp_ge (tgt := 160) hx hb dX7_most_65 (by decide) (fun _ => ?_) (fun q9 => absurd q9 (by decide +kernel))
    refine lv_iinc (v := 8) (lv' := [(5, .int 8), (6, .int 1), (7, .int (-1)), (4, .int 0), (8, .int 0), (3, .int (-1)), (0, .ref p0), (1, .int 7), (2, .int p2)]) hx hb dX7_most_160 hl (k := 2) rfl (by decide +kernel) (by decide) rfl (fun ls hl => ?_)
    refine lv_goto (tgt := 43) hx hb dX7_most_163 (by decide) ?_
    refine lv_iload hx hb dX7_most_43 (lv_at hl 0 rfl) ?_
    refine lv_iload_n hx hb dX7_most_45 rfl (lv_at hl 7 rfl) ?_
    refine lv_icmp_gt (tgt := 166) hx hb dX7_most_46 (by decide) (fun _ => ?_) (fun q9 => absurd q9 (by decide +kernel))
    refine lv_iload_n hx hb dX7_most_166 rfl (lv_at hl 8 rfl) ?_
    refine lv_if_ne (tgt := 175) hx hb dX7_most_167 (by decide) (fun c_89 => ?_) (fun c_89 => ?_)
    · have c_89 : ¬ p2.toInt = 0 := k_eqF rfl (by decide +kernel) c_89
      exfalso; omega
    · have c_89 : p2.toInt = 0 := k_eqT rfl (by decide +kernel) c_89
      refine lv_iload hx hb dX7_most_170 (lv_at hl 3 rfl) ?_
      refine lv_goto (tgt := 203) hx hb dX7_most_172 (by decide) ?_
      exact k_ri B hP hD hS dX7_most_203 () [4, 0, 1, 2, 5, 3] rfl rfl rfl (Nat.le_of_ble_eq_true rfl) (Nat.le_of_ble_eq_true rfl) rfl
  · obtain rfl : p1 = 8 := k_eqL (by decide +kernel) c_1
    refine lv_iload_n hx hb dX7_most_0 rfl (lv_at hl 1 rfl) ?_
    refine lv_iconst (v := 0) hx hb dX7_most_1 (by decide +kernel) ?_
    refine lv_bipush (v := 8) hx hb dX7_most_2 (by decide +kernel) ?_
    refine k_ci (wc := []) (wr := [(p0, .inr (7, oM p3 i7 j7)), ((p3 49), .inl (cI, 22, .inl (fun _ => 0))), ((p3 50), .inl (cI, 22, .inl (fun _ => 0))), ((p3 72), .inl (cI, 9216, .inl (fun _ => 0))), ((p3 14), .inl (cI, 2, .inl (fun _ => 0))), ((p3 18), .inl (cI, 2, .inl (fun _ => 0)))]) (fun hPc hDc hFc => va_runS (As := [.int 8, .int 0, .int 8]) (rest := []) ⟨hx, hb, hml, hown, hts⟩ (c_X7_is_v14 l dC dI cI cJ cZ cM H.size) (va_cwS 3 hts gX7_most_X7_is rfl rfl rfl (by decide +kernel) ⟨(Nat.le_of_ble_eq_true rfl), (Nat.le_of_ble_eq_true rfl)⟩) (k_pS hPc hDc hK hN hC hS hFc) rfl rfl hl.1 rfl (lv_room (Nat.le_of_ble_eq_true rfl)) dX7_most_4 ⟨(Nat.le_of_ble_eq_true rfl), (Nat.le_of_ble_eq_true rfl)⟩) hP hD hS hA [] [0, 1, 2, 3, 4, 5] rfl rfl rfl rfl (by decide) (fun _ => rfl) 0 0 rfl rfl (fun r_90 u_91 H locs hw hP hD hS => ?_)
    obtain rfl : r_90 = 1 := hw
    have hP : va_P (dC, dI) vwCl [(p0, .inr (7, oM p3 i7 j7)), ((p3 49), .inl (cI, 22, .inl (fun _ => 0))), ((p3 50), .inl (cI, 22, .inl (fun _ => 0))), ((p3 72), .inl (cI, 9216, .inl (fun _ => 0))), ((p3 14), .inl (cI, 2, .inl (fun _ => 0))), ((p3 18), .inl (cI, 2, .inl (fun _ => 0)))] H := hP
    have hD : va_D A [(p0, .inr (7, oM p3 i7 j7)), ((p3 49), .inl (cI, 22, .inl (fun _ => 0))), ((p3 50), .inl (cI, 22, .inl (fun _ => 0))), ((p3 72), .inl (cI, 9216, .inl (fun _ => 0))), ((p3 14), .inl (cI, 2, .inl (fun _ => 0))), ((p3 18), .inl (cI, 2, .inl (fun _ => 0)))] := hD
    refine lv_if_eq (tgt := 19) hx hb dX7_most_7 (by decide) (fun q9 => absurd q9 (by decide +kernel)) (fun _ => ?_)
    refine lv_iload_n hx hb dX7_most_10 rfl (lv_at hl 2 rfl) ?_
    refine lv_iconst (v := 0) hx hb dX7_most_11 (by decide +kernel) ?_
    refine lv_iconst (v := 3) hx hb dX7_most_12 (by decide +kernel) ?_
    refine k_ci (wc := []) (wr := [(p0, .inr (7, oM p3 i7 j7)), ((p3 49), .inl (cI, 22, .inl (fun _ => 0))), ((p3 50), .inl (cI, 22, .inl (fun _ => 0))), ((p3 72), .inl (cI, 9216, .inl (fun _ => 0))), ((p3 14), .inl (cI, 2, .inl (fun _ => 0))), ((p3 18), .inl (cI, 2, .inl (fun _ => 0)))]) (fun hPc hDc hFc => va_runS (As := [.int p2, .int 0, .int 3]) (rest := []) ⟨hx, hb, hml, hown, hts⟩ (c_X7_is_v20 l dC dI cI cJ cZ cM p2 (by omega) (by omega) H.size) (va_cwS 3 hts gX7_most_X7_is rfl rfl rfl (by decide +kernel) ⟨(Nat.le_of_ble_eq_true rfl), (Nat.le_of_ble_eq_true rfl)⟩) (k_pS hPc hDc hK hN hC hS hFc) rfl rfl hl.1 rfl (lv_room (Nat.le_of_ble_eq_true rfl)) dX7_most_13 ⟨(Nat.le_of_ble_eq_true rfl), (Nat.le_of_ble_eq_true rfl)⟩) hP hD hS hA [] [0, 1, 2, 3, 4, 5] rfl rfl rfl rfl (by decide) (fun _ => rfl) 0 0 rfl rfl (fun r_92 u_93 H locs hw hP hD hS => ?_)
    obtain rfl : r_92 = 1 := hw
    have hP : va_P (dC, dI) vwCl [(p0, .inr (7, oM p3 i7 j7)), ((p3 49), .inl (cI, 22, .inl (fun _ => 0))), ((p3 50), .inl (cI, 22, .inl (fun _ => 0))), ((p3 72), .inl (cI, 9216, .inl (fun _ => 0))), ((p3 14), .inl (cI, 2, .inl (fun _ => 0))), ((p3 18), .inl (cI, 2, .inl (fun _ => 0)))] H := hP
    have hD : va_D A [(p0, .inr (7, oM p3 i7 j7)), ((p3 49), .inl (cI, 22, .inl (fun _ => 0))), ((p3 50), .inl (cI, 22, .inl (fun _ => 0))), ((p3 72), .inl (cI, 9216, .inl (fun _ => 0))), ((p3 14), .inl (cI, 2, .inl (fun _ => 0))), ((p3 18), .inl (cI, 2, .inl (fun _ => 0)))] := hD
    refine lv_if_ne (tgt := 21) hx hb dX7_most_16 (by decide) (fun _ => ?_) (fun q9 => absurd q9 (by decide +kernel))
    refine lv_aload_n hx hb dX7_most_21 rfl (lv_at hl 0 rfl) ?_
    refine k_cv (wc := [(p0, .inr (7, oM p3 i7 j7)), ((p3 49), .inl (cI, 22, .inl (fun _ => 0))), ((p3 50), .inl (cI, 22, .inl (fun _ => 0))), ((p3 72), .inl (cI, 9216, .inl (fun _ => 0))), ((p3 14), .inl (cI, 2, .inl (fun _ => 0))), ((p3 18), .inl (cI, 2, .inl (fun _ => 0)))]) (wr := []) (fun hPc hDc hFc => va_runV (As := []) (rest := []) ⟨hx, hb, hml, hown, hts⟩ (c_X7_climbs_v0 l dC dI cI cJ cZ cM p0 p3 H.size) (cwV 0 hts gX7_most_X7_climbs rfl rfl rfl (by decide +kernel) ⟨(Nat.le_of_ble_eq_true rfl), (Nat.le_of_ble_eq_true rfl)⟩) (k_pV hPc hDc hK hN hC hS hFc hP (q0 := 0) (ci := 7) rfl rfl) rfl rfl hl.1 rfl (lv_room (Nat.le_of_ble_eq_true rfl)) dX7_most_22 ⟨(Nat.le_of_ble_eq_true rfl), (Nat.le_of_ble_eq_true rfl)⟩) hP hD hS hA [0, 1, 2, 3, 4, 5] [] rfl rfl rfl rfl (by decide) (fun _ => rfl) 0 0 rfl rfl (fun u_95 H locs hw hP hD hS => ?_)
    have hP : va_P (dC, dI) vwCl [(p0, .inr (7, oM p3 i7 j7)), ((p3 49), .inl (cI, 22, .inl (fun _ => 0))), ((p3 50), .inl (cI, 22, .inl (fun _ => 0))), ((p3 72), .inl (cI, 9216, .inl (upd (fun _ => (-1)) 0 0))), ((p3 14), .inl (cI, 2, .inl (fun _ => 0))), ((p3 18), .inl (cI, 2, .inl (fun _ => 0)))] H := hP
    have hD : va_D A [(p0, .inr (7, oM p3 i7 j7)), ((p3 49), .inl (cI, 22, .inl (fun _ => 0))), ((p3 50), .inl (cI, 22, .inl (fun _ => 0))), ((p3 72), .inl (cI, 9216, .inl (upd (fun _ => (-1)) 0 0))), ((p3 14), .inl (cI, 2, .inl (fun _ => 0))), ((p3 18), .inl (cI, 2, .inl (fun _ => 0)))] := hD
    refine lv_aload_n hx hb dX7_most_25 rfl (lv_at hl 0 rfl) ?_
    refine k_ci (wc := [(p0, .inr (7, oM p3 i7 j7)), ((p3 14), .inl (cI, 2, .inl (fun _ => 0)))]) (wr := [((p3 49), .inl (cI, 22, .inl (fun _ => 0))), ((p3 50), .inl (cI, 22, .inl (fun _ => 0))), ((p3 72), .inl (cI, 9216, .inl (upd (fun _ => (-1)) 0 0))), ((p3 18), .inl (cI, 2, .inl (fun _ => 0)))]) (fun hPc hDc hFc => va_runV (As := []) (rest := []) ⟨hx, hb, hml, hown, hts⟩ (c_X7_briefOnes_v2 l dC dI cI cJ cZ cM p0 p3 H.size) (cwV 0 hts gX7_most_X7_briefOnes rfl rfl rfl (by decide +kernel) ⟨(Nat.le_of_ble_eq_true rfl), (Nat.le_of_ble_eq_true rfl)⟩) (k_pV hPc hDc hK hN hC hS hFc hP (q0 := 0) (ci := 7) rfl rfl) rfl rfl hl.1 rfl (lv_room (Nat.le_of_ble_eq_true rfl)) dX7_most_26 ⟨(Nat.le_of_ble_eq_true rfl), (Nat.le_of_ble_eq_true rfl)⟩) hP hD hS hA [0, 4] [1, 2, 3, 5] rfl rfl rfl rfl (by decide) (fun _ => rfl) 0 0 rfl rfl (fun r_96 u_97 H locs hw hP hD hS => ?_)
    obtain rfl : r_96 = 0 := hw
    have hP : va_P (dC, dI) vwCl [((p3 49), .inl (cI, 22, .inl (fun _ => 0))), ((p3 50), .inl (cI, 22, .inl (fun _ => 0))), ((p3 72), .inl (cI, 9216, .inl (upd (fun _ => (-1)) 0 0))), ((p3 18), .inl (cI, 2, .inl (fun _ => 0))), (p0, .inr (7, oM p3 i7 j7)), ((p3 14), .inl (cI, 2, .inl (fun _ => 0)))] H := hP
    have hD : va_D A [((p3 49), .inl (cI, 22, .inl (fun _ => 0))), ((p3 50), .inl (cI, 22, .inl (fun _ => 0))), ((p3 72), .inl (cI, 9216, .inl (upd (fun _ => (-1)) 0 0))), ((p3 18), .inl (cI, 2, .inl (fun _ => 0))), (p0, .inr (7, oM p3 i7 j7)), ((p3 14), .inl (cI, 2, .inl (fun _ => 0)))] := hD
    refine lv_iconst (v := (-1)) hx hb dX7_most_29 (by decide +kernel) ?_
    refine lv_ixor hx hb dX7_most_30 ?_
    refine k_int (v := (-1)) (by decide +kernel) ?_
    refine lv_istore_n (lv' := [(3, .int (-1)), (0, .ref p0), (1, .int 8), (2, .int p2)]) hx hb dX7_most_31 rfl hl (by decide) rfl (fun ls hl => ?_)
    refine lv_aload_n hx hb dX7_most_32 rfl (lv_at hl 1 rfl) ?_
    refine lv_iconst (v := (-1)) hx hb dX7_most_33 (by decide +kernel) ?_
    refine k_put (D := (dC, dI)) (ci := 7) (v := .int (-1)) (C := RX7) (T := TX7) (N := 92) (ws' := [((p3 49), .inl (cI, 22, .inl (fun _ => 0))), ((p3 50), .inl (cI, 22, .inl (fun _ => 0))), ((p3 72), .inl (cI, 9216, .inl (upd (fun _ => (-1)) 0 0))), ((p3 18), .inl (cI, 2, .inl (fun _ => 0))), (p0, .inr (7, oM p3 (upd i7 75 (-1)) j7)), ((p3 14), .inl (cI, 2, .inl (fun _ => 0)))]) hx hb hts hinX7 tyX7 tyX7_ok nmX7 hown hK hP hD hS 4 rfl rfl 75 (by decide) w_0 rfl rfl rfl rfl (Nat.le_of_ble_eq_true rfl) rfl dX7_most_34 (fun H locs hP hD hS => ?_)
    refine lv_iconst (v := (-1)) hx hb dX7_most_37 (by decide +kernel) ?_
    refine lv_istore (lv' := [(4, .int (-1)), (3, .int (-1)), (0, .ref p0), (1, .int 8), (2, .int p2)]) hx hb dX7_most_38 hl (by decide) rfl (fun ls hl => ?_)
    refine lv_iconst (v := 0) hx hb dX7_most_40 (by decide +kernel) ?_
    refine lv_istore (lv' := [(5, .int 0), (4, .int (-1)), (3, .int (-1)), (0, .ref p0), (1, .int 8), (2, .int p2)]) hx hb dX7_most_41 hl (by decide) rfl (fun ls hl => ?_)
    refine lv_iload hx hb dX7_most_43 (lv_at hl 0 rfl) ?_
    refine lv_iload_n hx hb dX7_most_45 rfl (lv_at hl 4 rfl) ?_
    refine lv_icmp_gt (tgt := 166) hx hb dX7_most_46 (by decide) (fun q9 => absurd q9 (by decide +kernel)) (fun _ => ?_)
    refine lv_iconst (v := 0) hx hb dX7_most_49 (by decide +kernel) ?_
    refine lv_istore (lv' := [(6, .int 0), (5, .int 0), (4, .int (-1)), (3, .int (-1)), (0, .ref p0), (1, .int 8), (2, .int p2)]) hx hb dX7_most_50 hl (by decide) rfl (fun ls hl => ?_)
    refine lv_iload hx hb dX7_most_52 (lv_at hl 0 rfl) ?_
    refine lv_iconst (v := 1) hx hb dX7_most_54 (by decide +kernel) ?_
    refine lv_aload_n hx hb dX7_most_55 rfl (lv_at hl 4 rfl) ?_
    refine k_get (D := (dC, dI)) (ci := 7) (v := .ref (p3 14)) (C := RX7) (T := TX7) (N := 92) hx hb hts hinX7 hown hK hP 4 rfl rfl 14 (by decide) w_1 rfl rfl dX7_most_56 ?_
    refine lv_aload_n hx hb dX7_most_59 rfl (lv_at hl 4 rfl) ?_
    refine k_get (D := (dC, dI)) (ci := 7) (v := .int 0) (C := RX7) (T := TX7) (N := 92) hx hb hts hinX7 hown hK hP 4 rfl rfl 13 (by decide) w_2 rfl rfl dX7_most_60 ?_
    refine k_iald (v := 0) hx hb hK hP 5 0 0 rfl rfl rfl (Nat.le_of_ble_eq_true rfl) (Nat.le_of_ble_eq_true rfl) rfl dX7_most_63 ?_
    refine lv_ishl hx hb dX7_most_64 ?_
    refine k_int (v := 1) (by decide +kernel) ?_
    refine lv_icmp_ge (tgt := 160) hx hb dX7_most_65 (by decide) (fun q9 => absurd q9 (by decide +kernel)) (fun _ => ?_)
    refine lv_aload_n hx hb dX7_most_68 rfl (lv_at hl 4 rfl) ?_
    refine k_get (D := (dC, dI)) (ci := 7) (v := .ref (p3 72)) (C := RX7) (T := TX7) (N := 92) hx hb hts hinX7 hown hK hP 4 rfl rfl 72 (by decide) w_3 rfl rfl dX7_most_69 ?_
    refine lv_sipush (v := 1024) hx hb dX7_most_72 (by decide +kernel) ?_
    refine lv_iload hx hb dX7_most_75 (lv_at hl 1 rfl) ?_
    refine lv_imul hx hb dX7_most_77 ?_
    refine k_int (v := 0) (by decide +kernel) ?_
    refine lv_iload hx hb dX7_most_78 (lv_at hl 0 rfl) ?_
    refine lv_iadd hx hb dX7_most_80 ?_
    refine k_int (v := 0) (by decide +kernel) ?_
    refine k_iald (v := 0) hx hb hK hP 2 0 0 rfl rfl rfl (Nat.le_of_ble_eq_true rfl) (Nat.le_of_ble_eq_true rfl) rfl dX7_most_81 ?_
    refine lv_istore (lv' := [(7, .int 0), (6, .int 0), (5, .int 0), (4, .int (-1)), (3, .int (-1)), (0, .ref p0), (1, .int 8), (2, .int p2)]) hx hb dX7_most_82 hl (by decide) rfl (fun ls hl => ?_)
    refine lv_iload hx hb dX7_most_84 (lv_at hl 0 rfl) ?_
    refine lv_iconst (v := (-1)) hx hb dX7_most_86 (by decide +kernel) ?_
    refine lv_icmp_ne (tgt := 93) hx hb dX7_most_87 (by decide) (fun _ => ?_) (fun q9 => absurd q9 (by decide +kernel))
    refine lv_aload_n hx hb dX7_most_93 rfl (lv_at hl 5 rfl) ?_
    refine lv_iload hx hb dX7_most_94 (lv_at hl 1 rfl) ?_
    refine lv_iload_n hx hb dX7_most_96 rfl (lv_at hl 4 rfl) ?_
    refine lv_iand hx hb dX7_most_97 ?_
    refine k_int (v := 0) (by decide +kernel) ?_
    refine k_ci (wc := [(p0, .inr (7, oM p3 (upd i7 75 (-1)) j7)), ((p3 14), .inl (cI, 2, .inl (fun _ => 0)))]) (wr := [((p3 49), .inl (cI, 22, .inl (fun _ => 0))), ((p3 50), .inl (cI, 22, .inl (fun _ => 0))), ((p3 72), .inl (cI, 9216, .inl (upd (fun _ => (-1)) 0 0))), ((p3 18), .inl (cI, 2, .inl (fun _ => 0)))]) (fun hPc hDc hFc => va_runV (As := [.int 0]) (rest := []) ⟨hx, hb, hml, hown, hts⟩ (c_X7_worthOf_v1 l dC dI cI cJ cZ cM p0 p3 H.size) (cwV 1 hts gX7_most_X7_worthOf rfl rfl rfl (by decide +kernel) ⟨(Nat.le_of_ble_eq_true rfl), (Nat.le_of_ble_eq_true rfl)⟩) (k_pV hPc hDc hK hN hC hS hFc hP (q0 := 4) (ci := 7) rfl rfl) rfl rfl hl.1 rfl (lv_room (Nat.le_of_ble_eq_true rfl)) dX7_most_98 ⟨(Nat.le_of_ble_eq_true rfl), (Nat.le_of_ble_eq_true rfl)⟩) hP hD hS hA [4, 5] [0, 1, 2, 3] rfl rfl rfl rfl (by decide) (fun _ => rfl) 0 0 rfl rfl (fun r_98 u_99 H locs hw hP hD hS => ?_)
    obtain rfl : r_98 = 0 := hw
    have hP : va_P (dC, dI) vwCl [((p3 49), .inl (cI, 22, .inl (fun _ => 0))), ((p3 50), .inl (cI, 22, .inl (fun _ => 0))), ((p3 72), .inl (cI, 9216, .inl (upd (fun _ => (-1)) 0 0))), ((p3 18), .inl (cI, 2, .inl (fun _ => 0))), (p0, .inr (7, oM p3 (upd i7 75 (-1)) j7)), ((p3 14), .inl (cI, 2, .inl (fun _ => 0)))] H := hP
    have hD : va_D A [((p3 49), .inl (cI, 22, .inl (fun _ => 0))), ((p3 50), .inl (cI, 22, .inl (fun _ => 0))), ((p3 72), .inl (cI, 9216, .inl (upd (fun _ => (-1)) 0 0))), ((p3 18), .inl (cI, 2, .inl (fun _ => 0))), (p0, .inr (7, oM p3 (upd i7 75 (-1)) j7)), ((p3 14), .inl (cI, 2, .inl (fun _ => 0)))] := hD
    refine lv_istore (lv' := [(8, .int 0), (7, .int 0), (6, .int 0), (5, .int 0), (4, .int (-1)), (3, .int (-1)), (0, .ref p0), (1, .int 8), (2, .int p2)]) hx hb dX7_most_101 hl (by decide) rfl (fun ls hl => ?_)
    refine lv_iload hx hb dX7_most_103 (lv_at hl 0 rfl) ?_
    refine lv_iload hx hb dX7_most_105 (lv_at hl 4 rfl) ?_
    refine lv_icmp_lt (tgt := 154) hx hb dX7_most_107 (by decide) (fun q9 => absurd q9 (by decide +kernel)) (fun _ => ?_)
    refine lv_iload hx hb dX7_most_110 (lv_at hl 0 rfl) ?_
    refine lv_iload hx hb dX7_most_112 (lv_at hl 4 rfl) ?_
    refine lv_icmp_ne (tgt := 138) hx hb dX7_most_114 (by decide) (fun _ => ?_) (fun q9 => absurd q9 (by decide +kernel))
    refine lv_iload hx hb dX7_most_138 (lv_at hl 0 rfl) ?_
    refine lv_istore (lv' := [(4, .int 0), (8, .int 0), (7, .int 0), (6, .int 0), (5, .int 0), (3, .int (-1)), (0, .ref p0), (1, .int 8), (2, .int p2)]) hx hb dX7_most_140 hl (by decide) rfl (fun ls hl => ?_)
    refine lv_aload_n hx hb dX7_most_142 rfl (lv_at hl 6 rfl) ?_
    refine lv_iload hx hb dX7_most_143 (lv_at hl 4 rfl) ?_
    refine k_put (D := (dC, dI)) (ci := 7) (v := .int 0) (C := RX7) (T := TX7) (N := 92) (ws' := [((p3 49), .inl (cI, 22, .inl (fun _ => 0))), ((p3 50), .inl (cI, 22, .inl (fun _ => 0))), ((p3 72), .inl (cI, 9216, .inl (upd (fun _ => (-1)) 0 0))), ((p3 18), .inl (cI, 2, .inl (fun _ => 0))), (p0, .inr (7, oM p3 (upd i7 75 0) j7)), ((p3 14), .inl (cI, 2, .inl (fun _ => 0)))]) hx hb hts hinX7 tyX7 tyX7_ok nmX7 hown hK hP hD hS 4 rfl rfl 75 (by decide) w_0 rfl rfl rfl rfl (Nat.le_of_ble_eq_true rfl) rfl dX7_most_145 (fun H locs hP hD hS => ?_)
    refine lv_aload_n hx hb dX7_most_148 rfl (lv_at hl 6 rfl) ?_
    refine lv_iload hx hb dX7_most_149 (lv_at hl 3 rfl) ?_
    refine k_put (D := (dC, dI)) (ci := 7) (v := .int 0) (C := RX7) (T := TX7) (N := 92) (ws' := [((p3 49), .inl (cI, 22, .inl (fun _ => 0))), ((p3 50), .inl (cI, 22, .inl (fun _ => 0))), ((p3 72), .inl (cI, 9216, .inl (upd (fun _ => (-1)) 0 0))), ((p3 18), .inl (cI, 2, .inl (fun _ => 0))), (p0, .inr (7, oM p3 (upd (upd i7 75 0) 76 0) j7)), ((p3 14), .inl (cI, 2, .inl (fun _ => 0)))]) hx hb hts hinX7 tyX7 tyX7_ok nmX7 hown hK hP hD hS 4 rfl rfl 76 (by decide) w_4 rfl rfl rfl rfl (Nat.le_of_ble_eq_true rfl) rfl dX7_most_151 (fun H locs hP hD hS => ?_)
    refine lv_iinc (v := 1) (lv' := [(6, .int 1), (4, .int 0), (8, .int 0), (7, .int 0), (5, .int 0), (3, .int (-1)), (0, .ref p0), (1, .int 8), (2, .int p2)]) hx hb dX7_most_154 hl (k := 3) rfl (by decide +kernel) (by decide) rfl (fun ls hl => ?_)
    refine lv_goto (tgt := 52) hx hb dX7_most_157 (by decide) ?_
    refine lv_iload hx hb dX7_most_52 (lv_at hl 0 rfl) ?_
    refine lv_iconst (v := 1) hx hb dX7_most_54 (by decide +kernel) ?_
    refine lv_aload_n hx hb dX7_most_55 rfl (lv_at hl 6 rfl) ?_
    refine k_get (D := (dC, dI)) (ci := 7) (v := .ref (p3 14)) (C := RX7) (T := TX7) (N := 92) hx hb hts hinX7 hown hK hP 4 rfl rfl 14 (by decide) w_1 rfl rfl dX7_most_56 ?_
    refine lv_aload_n hx hb dX7_most_59 rfl (lv_at hl 6 rfl) ?_
    refine k_get (D := (dC, dI)) (ci := 7) (v := .int 0) (C := RX7) (T := TX7) (N := 92) hx hb hts hinX7 hown hK hP 4 rfl rfl 13 (by decide) w_2 rfl rfl dX7_most_60 ?_
    refine k_iald (v := 0) hx hb hK hP 5 0 0 rfl rfl rfl (Nat.le_of_ble_eq_true rfl) (Nat.le_of_ble_eq_true rfl) rfl dX7_most_63 ?_
    refine lv_ishl hx hb dX7_most_64 ?_
    refine k_int (v := 1) (by decide +kernel) ?_
    refine lv_icmp_ge (tgt := 160) hx hb dX7_most_65 (by decide) (fun _ => ?_) (fun q9 => absurd q9 (by decide +kernel))
    refine lv_iinc (v := 1) (lv' := [(5, .int 1), (6, .int 1), (4, .int 0), (8, .int 0), (7, .int 0), (3, .int (-1)), (0, .ref p0), (1, .int 8), (2, .int p2)]) hx hb dX7_most_160 hl (k := 4) rfl (by decide +kernel) (by decide) rfl (fun ls hl => ?_)
    refine lv_goto (tgt := 43) hx hb dX7_most_163 (by decide) ?_
    refine lv_iload hx hb dX7_most_43 (lv_at hl 0 rfl) ?_
    refine lv_iload_n hx hb dX7_most_45 rfl (lv_at hl 7 rfl) ?_
    refine lv_icmp_gt (tgt := 166) hx hb dX7_most_46 (by decide) (fun q9 => absurd q9 (by decide +kernel)) (fun _ => ?_)
    refine lv_iconst (v := 0) hx hb dX7_most_49 (by decide +kernel) ?_
    refine lv_istore (lv' := [(6, .int 0), (5, .int 1), (4, .int 0), (8, .int 0), (7, .int 0), (3, .int (-1)), (0, .ref p0), (1, .int 8), (2, .int p2)]) hx hb dX7_most_50 hl (by decide) rfl (fun ls hl => ?_)
    refine lv_iload hx hb dX7_most_52 (lv_at hl 0 rfl) ?_
    refine lv_iconst (v := 1) hx hb dX7_most_54 (by decide +kernel) ?_
    refine lv_aload_n hx hb dX7_most_55 rfl (lv_at hl 6 rfl) ?_
    refine k_get (D := (dC, dI)) (ci := 7) (v := .ref (p3 14)) (C := RX7) (T := TX7) (N := 92) hx hb hts hinX7 hown hK hP 4 rfl rfl 14 (by decide) w_1 rfl rfl dX7_most_56 ?_
    refine lv_aload_n hx hb dX7_most_59 rfl (lv_at hl 6 rfl) ?_
    refine k_get (D := (dC, dI)) (ci := 7) (v := .int 0) (C := RX7) (T := TX7) (N := 92) hx hb hts hinX7 hown hK hP 4 rfl rfl 13 (by decide) w_2 rfl rfl dX7_most_60 ?_
    refine k_iald (v := 0) hx hb hK hP 5 0 0 rfl rfl rfl (Nat.le_of_ble_eq_true rfl) (Nat.le_of_ble_eq_true rfl) rfl dX7_most_63 ?_
    refine lv_ishl hx hb dX7_most_64 ?_
    refine k_int (v := 1) (by decide +kernel) ?_
    refine lv_icmp_ge (tgt := 160) hx hb dX7_most_65 (by decide) (fun q9 => absurd q9 (by decide +kernel)) (fun _ => ?_)
    refine lv_aload_n hx hb dX7_most_68 rfl (lv_at hl 6 rfl) ?_
    refine k_get (D := (dC, dI)) (ci := 7) (v := .ref (p3 72)) (C := RX7) (T := TX7) (N := 92) hx hb hts hinX7 hown hK hP 4 rfl rfl 72 (by decide) w_3 rfl rfl dX7_most_69 ?_
    refine lv_sipush (v := 1024) hx hb dX7_most_72 (by decide +kernel) ?_
    refine lv_iload hx hb dX7_most_75 (lv_at hl 1 rfl) ?_
    refine lv_imul hx hb dX7_most_77 ?_
    refine k_int (v := 1024) (by decide +kernel) ?_
    refine lv_iload hx hb dX7_most_78 (lv_at hl 0 rfl) ?_
    refine lv_iadd hx hb dX7_most_80 ?_
    refine k_int (v := 1024) (by decide +kernel) ?_
    refine k_iald (v := (-1)) hx hb hK hP 2 0 1024 rfl rfl rfl (Nat.le_of_ble_eq_true rfl) (Nat.le_of_ble_eq_true rfl) rfl dX7_most_81 ?_
    refine lv_istore (lv' := [(7, .int (-1)), (6, .int 0), (5, .int 1), (4, .int 0), (8, .int 0), (3, .int (-1)), (0, .ref p0), (1, .int 8), (2, .int p2)]) hx hb dX7_most_82 hl (by decide) rfl (fun ls hl => ?_)
    refine lv_iload hx hb dX7_most_84 (lv_at hl 0 rfl) ?_
    refine lv_iconst (v := (-1)) hx hb dX7_most_86 (by decide +kernel) ?_
    refine lv_icmp_ne (tgt := 93) hx hb dX7_most_87 (by decide) (fun q9 => absurd q9 (by decide +kernel)) (fun _ => ?_)
    refine lv_goto (tgt := 154) hx hb dX7_most_90 (by decide) ?_
    refine lv_iinc (v := 1) (lv' := [(6, .int 1), (7, .int (-1)), (5, .int 1), (4, .int 0), (8, .int 0), (3, .int (-1)), (0, .ref p0), (1, .int 8), (2, .int p2)]) hx hb dX7_most_154 hl (k := 1) rfl (by decide +kernel) (by decide) rfl (fun ls hl => ?_)
    refine lv_goto (tgt := 52) hx hb dX7_most_157 (by decide) ?_
    refine lv_iload hx hb dX7_most_52 (lv_at hl 0 rfl) ?_
    refine lv_iconst (v := 1) hx hb dX7_most_54 (by decide +kernel) ?_
    refine lv_aload_n hx hb dX7_most_55 rfl (lv_at hl 6 rfl) ?_
    refine k_get (D := (dC, dI)) (ci := 7) (v := .ref (p3 14)) (C := RX7) (T := TX7) (N := 92) hx hb hts hinX7 hown hK hP 4 rfl rfl 14 (by decide) w_1 rfl rfl dX7_most_56 ?_
    refine lv_aload_n hx hb dX7_most_59 rfl (lv_at hl 6 rfl) ?_
    refine k_get (D := (dC, dI)) (ci := 7) (v := .int 0) (C := RX7) (T := TX7) (N := 92) hx hb hts hinX7 hown hK hP 4 rfl rfl 13 (by decide) w_2 rfl rfl dX7_most_60 ?_
    refine k_iald (v := 0) hx hb hK hP 5 0 0 rfl rfl rfl (Nat.le_of_ble_eq_true rfl) (Nat.le_of_ble_eq_true rfl) rfl dX7_most_63 ?_
    refine lv_ishl hx hb dX7_most_64 ?_
    refine k_int (v := 1) (by decide +kernel) ?_
    refine lv_icmp_ge (tgt := 160) hx hb dX7_most_65 (by decide) (fun _ => ?_) (fun q9 => absurd q9 (by decide +kernel))
    refine lv_iinc (v := 2) (lv' := [(5, .int 2), (6, .int 1), (7, .int (-1)), (4, .int 0), (8, .int 0), (3, .int (-1)), (0, .ref p0), (1, .int 8), (2, .int p2)]) hx hb dX7_most_160 hl (k := 2) rfl (by decide +kernel) (by decide) rfl (fun ls hl => ?_)
    refine lv_goto (tgt := 43) hx hb dX7_most_163 (by decide) ?_
    refine lv_iload hx hb dX7_most_43 (lv_at hl 0 rfl) ?_
    refine lv_iload_n hx hb dX7_most_45 rfl (lv_at hl 7 rfl) ?_
    refine lv_icmp_gt (tgt := 166) hx hb dX7_most_46 (by decide) (fun q9 => absurd q9 (by decide +kernel)) (fun _ => ?_)
    refine lv_iconst (v := 0) hx hb dX7_most_49 (by decide +kernel) ?_
    refine lv_istore (lv' := [(6, .int 0), (5, .int 2), (7, .int (-1)), (4, .int 0), (8, .int 0), (3, .int (-1)), (0, .ref p0), (1, .int 8), (2, .int p2)]) hx hb dX7_most_50 hl (by decide) rfl (fun ls hl => ?_)
    refine lv_iload hx hb dX7_most_52 (lv_at hl 0 rfl) ?_
    refine lv_iconst (v := 1) hx hb dX7_most_54 (by decide +kernel) ?_
    refine lv_aload_n hx hb dX7_most_55 rfl (lv_at hl 6 rfl) ?_
    refine k_get (D := (dC, dI)) (ci := 7) (v := .ref (p3 14)) (C := RX7) (T := TX7) (N := 92) hx hb hts hinX7 hown hK hP 4 rfl rfl 14 (by decide) w_1 rfl rfl dX7_most_56 ?_
    refine lv_aload_n hx hb dX7_most_59 rfl (lv_at hl 6 rfl) ?_
    refine k_get (D := (dC, dI)) (ci := 7) (v := .int 0) (C := RX7) (T := TX7) (N := 92) hx hb hts hinX7 hown hK hP 4 rfl rfl 13 (by decide) w_2 rfl rfl dX7_most_60 ?_
    refine k_iald (v := 0) hx hb hK hP 5 0 0 rfl rfl rfl (Nat.le_of_ble_eq_true rfl) (Nat.le_of_ble_eq_true rfl) rfl dX7_most_63 ?_
    refine lv_ishl hx hb dX7_most_64 ?_
    refine k_int (v := 1) (by decide +kernel) ?_
    refine lv_icmp_ge (tgt := 160) hx hb dX7_most_65 (by decide) (fun q9 => absurd q9 (by decide +kernel)) (fun _ => ?_)
    refine lv_aload_n hx hb dX7_most_68 rfl (lv_at hl 6 rfl) ?_
    refine k_get (D := (dC, dI)) (ci := 7) (v := .ref (p3 72)) (C := RX7) (T := TX7) (N := 92) hx hb hts hinX7 hown hK hP 4 rfl rfl 72 (by decide) w_3 rfl rfl dX7_most_69 ?_
    refine lv_sipush (v := 1024) hx hb dX7_most_72 (by decide +kernel) ?_
    refine lv_iload hx hb dX7_most_75 (lv_at hl 1 rfl) ?_
    refine lv_imul hx hb dX7_most_77 ?_
    refine k_int (v := 2048) (by decide +kernel) ?_
    refine lv_iload hx hb dX7_most_78 (lv_at hl 0 rfl) ?_
    refine lv_iadd hx hb dX7_most_80 ?_
    refine k_int (v := 2048) (by decide +kernel) ?_
    refine k_iald (v := (-1)) hx hb hK hP 2 0 2048 rfl rfl rfl (Nat.le_of_ble_eq_true rfl) (Nat.le_of_ble_eq_true rfl) rfl dX7_most_81 ?_
    refine lv_istore (lv' := [(7, .int (-1)), (6, .int 0), (5, .int 2), (4, .int 0), (8, .int 0), (3, .int (-1)), (0, .ref p0), (1, .int 8), (2, .int p2)]) hx hb dX7_most_82 hl (by decide) rfl (fun ls hl => ?_)
    refine lv_iload hx hb dX7_most_84 (lv_at hl 0 rfl) ?_
    refine lv_iconst (v := (-1)) hx hb dX7_most_86 (by decide +kernel) ?_
    refine lv_icmp_ne (tgt := 93) hx hb dX7_most_87 (by decide) (fun q9 => absurd q9 (by decide +kernel)) (fun _ => ?_)
    refine lv_goto (tgt := 154) hx hb dX7_most_90 (by decide) ?_
    refine lv_iinc (v := 1) (lv' := [(6, .int 1), (7, .int (-1)), (5, .int 2), (4, .int 0), (8, .int 0), (3, .int (-1)), (0, .ref p0), (1, .int 8), (2, .int p2)]) hx hb dX7_most_154 hl (k := 1) rfl (by decide +kernel) (by decide) rfl (fun ls hl => ?_)
    refine lv_goto (tgt := 52) hx hb dX7_most_157 (by decide) ?_
    refine lv_iload hx hb dX7_most_52 (lv_at hl 0 rfl) ?_
    refine lv_iconst (v := 1) hx hb dX7_most_54 (by decide +kernel) ?_
    refine lv_aload_n hx hb dX7_most_55 rfl (lv_at hl 6 rfl) ?_
    refine k_get (D := (dC, dI)) (ci := 7) (v := .ref (p3 14)) (C := RX7) (T := TX7) (N := 92) hx hb hts hinX7 hown hK hP 4 rfl rfl 14 (by decide) w_1 rfl rfl dX7_most_56 ?_
    refine lv_aload_n hx hb dX7_most_59 rfl (lv_at hl 6 rfl) ?_
    refine k_get (D := (dC, dI)) (ci := 7) (v := .int 0) (C := RX7) (T := TX7) (N := 92) hx hb hts hinX7 hown hK hP 4 rfl rfl 13 (by decide) w_2 rfl rfl dX7_most_60 ?_
    refine k_iald (v := 0) hx hb hK hP 5 0 0 rfl rfl rfl (Nat.le_of_ble_eq_true rfl) (Nat.le_of_ble_eq_true rfl) rfl dX7_most_63 ?_
    refine lv_ishl hx hb dX7_most_64 ?_
    refine k_int (v := 1) (by decide +kernel) ?_
    refine lv_icmp_ge (tgt := 160) hx hb dX7_most_65 (by decide) (fun _ => ?_) (fun q9 => absurd q9 (by decide +kernel))
    refine lv_iinc (v := 3) (lv' := [(5, .int 3), (6, .int 1), (7, .int (-1)), (4, .int 0), (8, .int 0), (3, .int (-1)), (0, .ref p0), (1, .int 8), (2, .int p2)]) hx hb dX7_most_160 hl (k := 2) rfl (by decide +kernel) (by decide) rfl (fun ls hl => ?_)
    refine lv_goto (tgt := 43) hx hb dX7_most_163 (by decide) ?_
    refine lv_iload hx hb dX7_most_43 (lv_at hl 0 rfl) ?_
    refine lv_iload_n hx hb dX7_most_45 rfl (lv_at hl 7 rfl) ?_
    refine lv_icmp_gt (tgt := 166) hx hb dX7_most_46 (by decide) (fun q9 => absurd q9 (by decide +kernel)) (fun _ => ?_)
    refine lv_iconst (v := 0) hx hb dX7_most_49 (by decide +kernel) ?_
    refine lv_istore (lv' := [(6, .int 0), (5, .int 3), (7, .int (-1)), (4, .int 0), (8, .int 0), (3, .int (-1)), (0, .ref p0), (1, .int 8), (2, .int p2)]) hx hb dX7_most_50 hl (by decide) rfl (fun ls hl => ?_)
    refine lv_iload hx hb dX7_most_52 (lv_at hl 0 rfl) ?_
    refine lv_iconst (v := 1) hx hb dX7_most_54 (by decide +kernel) ?_
    refine lv_aload_n hx hb dX7_most_55 rfl (lv_at hl 6 rfl) ?_
    refine k_get (D := (dC, dI)) (ci := 7) (v := .ref (p3 14)) (C := RX7) (T := TX7) (N := 92) hx hb hts hinX7 hown hK hP 4 rfl rfl 14 (by decide) w_1 rfl rfl dX7_most_56 ?_
    refine lv_aload_n hx hb dX7_most_59 rfl (lv_at hl 6 rfl) ?_
    refine k_get (D := (dC, dI)) (ci := 7) (v := .int 0) (C := RX7) (T := TX7) (N := 92) hx hb hts hinX7 hown hK hP 4 rfl rfl 13 (by decide) w_2 rfl rfl dX7_most_60 ?_
    refine k_iald (v := 0) hx hb hK hP 5 0 0 rfl rfl rfl (Nat.le_of_ble_eq_true rfl) (Nat.le_of_ble_eq_true rfl) rfl dX7_most_63 ?_
    refine lv_ishl hx hb dX7_most_64 ?_
    refine k_int (v := 1) (by decide +kernel) ?_
    refine lv_icmp_ge (tgt := 160) hx hb dX7_most_65 (by decide) (fun q9 => absurd q9 (by decide +kernel)) (fun _ => ?_)
    refine lv_aload_n hx hb dX7_most_68 rfl (lv_at hl 6 rfl) ?_
    refine k_get (D := (dC, dI)) (ci := 7) (v := .ref (p3 72)) (C := RX7) (T := TX7) (N := 92) hx hb hts hinX7 hown hK hP 4 rfl rfl 72 (by decide) w_3 rfl rfl dX7_most_69 ?_
    refine lv_sipush (v := 1024) hx hb dX7_most_72 (by decide +kernel) ?_
    refine lv_iload hx hb dX7_most_75 (lv_at hl 1 rfl) ?_
    refine lv_imul hx hb dX7_most_77 ?_
    refine k_int (v := 3072) (by decide +kernel) ?_
    refine lv_iload hx hb dX7_most_78 (lv_at hl 0 rfl) ?_
    refine lv_iadd hx hb dX7_most_80 ?_
    refine k_int (v := 3072) (by decide +kernel) ?_
    refine k_iald (v := (-1)) hx hb hK hP 2 0 3072 rfl rfl rfl (Nat.le_of_ble_eq_true rfl) (Nat.le_of_ble_eq_true rfl) rfl dX7_most_81 ?_
    refine lv_istore (lv' := [(7, .int (-1)), (6, .int 0), (5, .int 3), (4, .int 0), (8, .int 0), (3, .int (-1)), (0, .ref p0), (1, .int 8), (2, .int p2)]) hx hb dX7_most_82 hl (by decide) rfl (fun ls hl => ?_)
    refine lv_iload hx hb dX7_most_84 (lv_at hl 0 rfl) ?_
    refine lv_iconst (v := (-1)) hx hb dX7_most_86 (by decide +kernel) ?_
    refine lv_icmp_ne (tgt := 93) hx hb dX7_most_87 (by decide) (fun q9 => absurd q9 (by decide +kernel)) (fun _ => ?_)
    refine lv_goto (tgt := 154) hx hb dX7_most_90 (by decide) ?_
    refine lv_iinc (v := 1) (lv' := [(6, .int 1), (7, .int (-1)), (5, .int 3), (4, .int 0), (8, .int 0), (3, .int (-1)), (0, .ref p0), (1, .int 8), (2, .int p2)]) hx hb dX7_most_154 hl (k := 1) rfl (by decide +kernel) (by decide) rfl (fun ls hl => ?_)
    refine lv_goto (tgt := 52) hx hb dX7_most_157 (by decide) ?_
    refine lv_iload hx hb dX7_most_52 (lv_at hl 0 rfl) ?_
    refine lv_iconst (v := 1) hx hb dX7_most_54 (by decide +kernel) ?_
    refine lv_aload_n hx hb dX7_most_55 rfl (lv_at hl 6 rfl) ?_
    refine k_get (D := (dC, dI)) (ci := 7) (v := .ref (p3 14)) (C := RX7) (T := TX7) (N := 92) hx hb hts hinX7 hown hK hP 4 rfl rfl 14 (by decide) w_1 rfl rfl dX7_most_56 ?_
    refine lv_aload_n hx hb dX7_most_59 rfl (lv_at hl 6 rfl) ?_
    refine k_get (D := (dC, dI)) (ci := 7) (v := .int 0) (C := RX7) (T := TX7) (N := 92) hx hb hts hinX7 hown hK hP 4 rfl rfl 13 (by decide) w_2 rfl rfl dX7_most_60 ?_
    refine k_iald (v := 0) hx hb hK hP 5 0 0 rfl rfl rfl (Nat.le_of_ble_eq_true rfl) (Nat.le_of_ble_eq_true rfl) rfl dX7_most_63 ?_
    refine lv_ishl hx hb dX7_most_64 ?_
    refine k_int (v := 1) (by decide +kernel) ?_
    refine lv_icmp_ge (tgt := 160) hx hb dX7_most_65 (by decide) (fun _ => ?_) (fun q9 => absurd q9 (by decide +kernel))
    refine lv_iinc (v := 4) (lv' := [(5, .int 4), (6, .int 1), (7, .int (-1)), (4, .int 0), (8, .int 0), (3, .int (-1)), (0, .ref p0), (1, .int 8), (2, .int p2)]) hx hb dX7_most_160 hl (k := 2) rfl (by decide +kernel) (by decide) rfl (fun ls hl => ?_)
    refine lv_goto (tgt := 43) hx hb dX7_most_163 (by decide) ?_
    refine lv_iload hx hb dX7_most_43 (lv_at hl 0 rfl) ?_
    refine lv_iload_n hx hb dX7_most_45 rfl (lv_at hl 7 rfl) ?_
    refine lv_icmp_gt (tgt := 166) hx hb dX7_most_46 (by decide) (fun q9 => absurd q9 (by decide +kernel)) (fun _ => ?_)
    refine lv_iconst (v := 0) hx hb dX7_most_49 (by decide +kernel) ?_
    refine lv_istore (lv' := [(6, .int 0), (5, .int 4), (7, .int (-1)), (4, .int 0), (8, .int 0), (3, .int (-1)), (0, .ref p0), (1, .int 8), (2, .int p2)]) hx hb dX7_most_50 hl (by decide) rfl (fun ls hl => ?_)
    refine lv_iload hx hb dX7_most_52 (lv_at hl 0 rfl) ?_
    refine lv_iconst (v := 1) hx hb dX7_most_54 (by decide +kernel) ?_
    refine lv_aload_n hx hb dX7_most_55 rfl (lv_at hl 6 rfl) ?_
    refine k_get (D := (dC, dI)) (ci := 7) (v := .ref (p3 14)) (C := RX7) (T := TX7) (N := 92) hx hb hts hinX7 hown hK hP 4 rfl rfl 14 (by decide) w_1 rfl rfl dX7_most_56 ?_
    refine lv_aload_n hx hb dX7_most_59 rfl (lv_at hl 6 rfl) ?_
    refine k_get (D := (dC, dI)) (ci := 7) (v := .int 0) (C := RX7) (T := TX7) (N := 92) hx hb hts hinX7 hown hK hP 4 rfl rfl 13 (by decide) w_2 rfl rfl dX7_most_60 ?_
    refine k_iald (v := 0) hx hb hK hP 5 0 0 rfl rfl rfl (Nat.le_of_ble_eq_true rfl) (Nat.le_of_ble_eq_true rfl) rfl dX7_most_63 ?_
    refine lv_ishl hx hb dX7_most_64 ?_
    refine k_int (v := 1) (by decide +kernel) ?_
    refine lv_icmp_ge (tgt := 160) hx hb dX7_most_65 (by decide) (fun q9 => absurd q9 (by decide +kernel)) (fun _ => ?_)
    refine lv_aload_n hx hb dX7_most_68 rfl (lv_at hl 6 rfl) ?_
    refine k_get (D := (dC, dI)) (ci := 7) (v := .ref (p3 72)) (C := RX7) (T := TX7) (N := 92) hx hb hts hinX7 hown hK hP 4 rfl rfl 72 (by decide) w_3 rfl rfl dX7_most_69 ?_
    refine lv_sipush (v := 1024) hx hb dX7_most_72 (by decide +kernel) ?_
    refine lv_iload hx hb dX7_most_75 (lv_at hl 1 rfl) ?_
    refine lv_imul hx hb dX7_most_77 ?_
    refine k_int (v := 4096) (by decide +kernel) ?_
    refine lv_iload hx hb dX7_most_78 (lv_at hl 0 rfl) ?_
    refine lv_iadd hx hb dX7_most_80 ?_
    refine k_int (v := 4096) (by decide +kernel) ?_
    refine k_iald (v := (-1)) hx hb hK hP 2 0 4096 rfl rfl rfl (Nat.le_of_ble_eq_true rfl) (Nat.le_of_ble_eq_true rfl) rfl dX7_most_81 ?_
    refine lv_istore (lv' := [(7, .int (-1)), (6, .int 0), (5, .int 4), (4, .int 0), (8, .int 0), (3, .int (-1)), (0, .ref p0), (1, .int 8), (2, .int p2)]) hx hb dX7_most_82 hl (by decide) rfl (fun ls hl => ?_)
    refine lv_iload hx hb dX7_most_84 (lv_at hl 0 rfl) ?_
    refine lv_iconst (v := (-1)) hx hb dX7_most_86 (by decide +kernel) ?_
    refine lv_icmp_ne (tgt := 93) hx hb dX7_most_87 (by decide) (fun q9 => absurd q9 (by decide +kernel)) (fun _ => ?_)
    refine lv_goto (tgt := 154) hx hb dX7_most_90 (by decide) ?_
    refine lv_iinc (v := 1) (lv' := [(6, .int 1), (7, .int (-1)), (5, .int 4), (4, .int 0), (8, .int 0), (3, .int (-1)), (0, .ref p0), (1, .int 8), (2, .int p2)]) hx hb dX7_most_154 hl (k := 1) rfl (by decide +kernel) (by decide) rfl (fun ls hl => ?_)
    refine lv_goto (tgt := 52) hx hb dX7_most_157 (by decide) ?_
    refine lv_iload hx hb dX7_most_52 (lv_at hl 0 rfl) ?_
    refine lv_iconst (v := 1) hx hb dX7_most_54 (by decide +kernel) ?_
    refine lv_aload_n hx hb dX7_most_55 rfl (lv_at hl 6 rfl) ?_
    refine k_get (D := (dC, dI)) (ci := 7) (v := .ref (p3 14)) (C := RX7) (T := TX7) (N := 92) hx hb hts hinX7 hown hK hP 4 rfl rfl 14 (by decide) w_1 rfl rfl dX7_most_56 ?_
    refine lv_aload_n hx hb dX7_most_59 rfl (lv_at hl 6 rfl) ?_
    refine k_get (D := (dC, dI)) (ci := 7) (v := .int 0) (C := RX7) (T := TX7) (N := 92) hx hb hts hinX7 hown hK hP 4 rfl rfl 13 (by decide) w_2 rfl rfl dX7_most_60 ?_
    refine k_iald (v := 0) hx hb hK hP 5 0 0 rfl rfl rfl (Nat.le_of_ble_eq_true rfl) (Nat.le_of_ble_eq_true rfl) rfl dX7_most_63 ?_
    refine lv_ishl hx hb dX7_most_64 ?_
    refine k_int (v := 1) (by decide +kernel) ?_
    refine lv_icmp_ge (tgt := 160) hx hb dX7_most_65 (by decide) (fun _ => ?_) (fun q9 => absurd q9 (by decide +kernel))
    refine lv_iinc (v := 5) (lv' := [(5, .int 5), (6, .int 1), (7, .int (-1)), (4, .int 0), (8, .int 0), (3, .int (-1)), (0, .ref p0), (1, .int 8), (2, .int p2)]) hx hb dX7_most_160 hl (k := 2) rfl (by decide +kernel) (by decide) rfl (fun ls hl => ?_)
    refine lv_goto (tgt := 43) hx hb dX7_most_163 (by decide) ?_
    refine lv_iload hx hb dX7_most_43 (lv_at hl 0 rfl) ?_
    refine lv_iload_n hx hb dX7_most_45 rfl (lv_at hl 7 rfl) ?_
    refine lv_icmp_gt (tgt := 166) hx hb dX7_most_46 (by decide) (fun q9 => absurd q9 (by decide +kernel)) (fun _ => ?_)
    refine lv_iconst (v := 0) hx hb dX7_most_49 (by decide +kernel) ?_
    refine lv_istore (lv' := [(6, .int 0), (5, .int 5), (7, .int (-1)), (4, .int 0), (8, .int 0), (3, .int (-1)), (0, .ref p0), (1, .int 8), (2, .int p2)]) hx hb dX7_most_50 hl (by decide) rfl (fun ls hl => ?_)
    refine lv_iload hx hb dX7_most_52 (lv_at hl 0 rfl) ?_
    refine lv_iconst (v := 1) hx hb dX7_most_54 (by decide +kernel) ?_
    refine lv_aload_n hx hb dX7_most_55 rfl (lv_at hl 6 rfl) ?_
    refine k_get (D := (dC, dI)) (ci := 7) (v := .ref (p3 14)) (C := RX7) (T := TX7) (N := 92) hx hb hts hinX7 hown hK hP 4 rfl rfl 14 (by decide) w_1 rfl rfl dX7_most_56 ?_
    refine lv_aload_n hx hb dX7_most_59 rfl (lv_at hl 6 rfl) ?_
    refine k_get (D := (dC, dI)) (ci := 7) (v := .int 0) (C := RX7) (T := TX7) (N := 92) hx hb hts hinX7 hown hK hP 4 rfl rfl 13 (by decide) w_2 rfl rfl dX7_most_60 ?_
    refine k_iald (v := 0) hx hb hK hP 5 0 0 rfl rfl rfl (Nat.le_of_ble_eq_true rfl) (Nat.le_of_ble_eq_true rfl) rfl dX7_most_63 ?_
    refine lv_ishl hx hb dX7_most_64 ?_
    refine k_int (v := 1) (by decide +kernel) ?_
    refine lv_icmp_ge (tgt := 160) hx hb dX7_most_65 (by decide) (fun q9 => absurd q9 (by decide +kernel)) (fun _ => ?_)
    refine lv_aload_n hx hb dX7_most_68 rfl (lv_at hl 6 rfl) ?_
    refine k_get (D := (dC, dI)) (ci := 7) (v := .ref (p3 72)) (C := RX7) (T := TX7) (N := 92) hx hb hts hinX7 hown hK hP 4 rfl rfl 72 (by decide) w_3 rfl rfl dX7_most_69 ?_
    refine lv_sipush (v := 1024) hx hb dX7_most_72 (by decide +kernel) ?_
    refine lv_iload hx hb dX7_most_75 (lv_at hl 1 rfl) ?_
    refine lv_imul hx hb dX7_most_77 ?_
    refine k_int (v := 5120) (by decide +kernel) ?_
    refine lv_iload hx hb dX7_most_78 (lv_at hl 0 rfl) ?_
    refine lv_iadd hx hb dX7_most_80 ?_
    refine k_int (v := 5120) (by decide +kernel) ?_
    refine k_iald (v := (-1)) hx hb hK hP 2 0 5120 rfl rfl rfl (Nat.le_of_ble_eq_true rfl) (Nat.le_of_ble_eq_true rfl) rfl dX7_most_81 ?_
    refine lv_istore (lv' := [(7, .int (-1)), (6, .int 0), (5, .int 5), (4, .int 0), (8, .int 0), (3, .int (-1)), (0, .ref p0), (1, .int 8), (2, .int p2)]) hx hb dX7_most_82 hl (by decide) rfl (fun ls hl => ?_)
    refine lv_iload hx hb dX7_most_84 (lv_at hl 0 rfl) ?_
    refine lv_iconst (v := (-1)) hx hb dX7_most_86 (by decide +kernel) ?_
    refine lv_icmp_ne (tgt := 93) hx hb dX7_most_87 (by decide) (fun q9 => absurd q9 (by decide +kernel)) (fun _ => ?_)
    refine lv_goto (tgt := 154) hx hb dX7_most_90 (by decide) ?_
    refine lv_iinc (v := 1) (lv' := [(6, .int 1), (7, .int (-1)), (5, .int 5), (4, .int 0), (8, .int 0), (3, .int (-1)), (0, .ref p0), (1, .int 8), (2, .int p2)]) hx hb dX7_most_154 hl (k := 1) rfl (by decide +kernel) (by decide) rfl (fun ls hl => ?_)
    refine lv_goto (tgt := 52) hx hb dX7_most_157 (by decide) ?_
    refine lv_iload hx hb dX7_most_52 (lv_at hl 0 rfl) ?_
    refine lv_iconst (v := 1) hx hb dX7_most_54 (by decide +kernel) ?_
    refine lv_aload_n hx hb dX7_most_55 rfl (lv_at hl 6 rfl) ?_
    refine k_get (D := (dC, dI)) (ci := 7) (v := .ref (p3 14)) (C := RX7) (T := TX7) (N := 92) hx hb hts hinX7 hown hK hP 4 rfl rfl 14 (by decide) w_1 rfl rfl dX7_most_56 ?_
    refine lv_aload_n hx hb dX7_most_59 rfl (lv_at hl 6 rfl) ?_
    refine k_get (D := (dC, dI)) (ci := 7) (v := .int 0) (C := RX7) (T := TX7) (N := 92) hx hb hts hinX7 hown hK hP 4 rfl rfl 13 (by decide) w_2 rfl rfl dX7_most_60 ?_
    refine k_iald (v := 0) hx hb hK hP 5 0 0 rfl rfl rfl (Nat.le_of_ble_eq_true rfl) (Nat.le_of_ble_eq_true rfl) rfl dX7_most_63 ?_
    refine lv_ishl hx hb dX7_most_64 ?_
    refine k_int (v := 1) (by decide +kernel) ?_
    refine lv_icmp_ge (tgt := 160) hx hb dX7_most_65 (by decide) (fun _ => ?_) (fun q9 => absurd q9 (by decide +kernel))
    refine lv_iinc (v := 6) (lv' := [(5, .int 6), (6, .int 1), (7, .int (-1)), (4, .int 0), (8, .int 0), (3, .int (-1)), (0, .ref p0), (1, .int 8), (2, .int p2)]) hx hb dX7_most_160 hl (k := 2) rfl (by decide +kernel) (by decide) rfl (fun ls hl => ?_)
    refine lv_goto (tgt := 43) hx hb dX7_most_163 (by decide) ?_
    refine lv_iload hx hb dX7_most_43 (lv_at hl 0 rfl) ?_
    refine lv_iload_n hx hb dX7_most_45 rfl (lv_at hl 7 rfl) ?_
    refine lv_icmp_gt (tgt := 166) hx hb dX7_most_46 (by decide) (fun q9 => absurd q9 (by decide +kernel)) (fun _ => ?_)
    refine lv_iconst (v := 0) hx hb dX7_most_49 (by decide +kernel) ?_
    refine lv_istore (lv' := [(6, .int 0), (5, .int 6), (7, .int (-1)), (4, .int 0), (8, .int 0), (3, .int (-1)), (0, .ref p0), (1, .int 8), (2, .int p2)]) hx hb dX7_most_50 hl (by decide) rfl (fun ls hl => ?_)
    refine lv_iload hx hb dX7_most_52 (lv_at hl 0 rfl) ?_
    refine lv_iconst (v := 1) hx hb dX7_most_54 (by decide +kernel) ?_
    refine lv_aload_n hx hb dX7_most_55 rfl (lv_at hl 6 rfl) ?_
    refine k_get (D := (dC, dI)) (ci := 7) (v := .ref (p3 14)) (C := RX7) (T := TX7) (N := 92) hx hb hts hinX7 hown hK hP 4 rfl rfl 14 (by decide) w_1 rfl rfl dX7_most_56 ?_
    refine lv_aload_n hx hb dX7_most_59 rfl (lv_at hl 6 rfl) ?_
    refine k_get (D := (dC, dI)) (ci := 7) (v := .int 0) (C := RX7) (T := TX7) (N := 92) hx hb hts hinX7 hown hK hP 4 rfl rfl 13 (by decide) w_2 rfl rfl dX7_most_60 ?_
    refine k_iald (v := 0) hx hb hK hP 5 0 0 rfl rfl rfl (Nat.le_of_ble_eq_true rfl) (Nat.le_of_ble_eq_true rfl) rfl dX7_most_63 ?_
    refine lv_ishl hx hb dX7_most_64 ?_
    refine k_int (v := 1) (by decide +kernel) ?_
    refine lv_icmp_ge (tgt := 160) hx hb dX7_most_65 (by decide) (fun q9 => absurd q9 (by decide +kernel)) (fun _ => ?_)
    refine lv_aload_n hx hb dX7_most_68 rfl (lv_at hl 6 rfl) ?_
    refine k_get (D := (dC, dI)) (ci := 7) (v := .ref (p3 72)) (C := RX7) (T := TX7) (N := 92) hx hb hts hinX7 hown hK hP 4 rfl rfl 72 (by decide) w_3 rfl rfl dX7_most_69 ?_
    refine lv_sipush (v := 1024) hx hb dX7_most_72 (by decide +kernel) ?_
    refine lv_iload hx hb dX7_most_75 (lv_at hl 1 rfl) ?_
    refine lv_imul hx hb dX7_most_77 ?_
    refine k_int (v := 6144) (by decide +kernel) ?_
    refine lv_iload hx hb dX7_most_78 (lv_at hl 0 rfl) ?_
    refine lv_iadd hx hb dX7_most_80 ?_
    refine k_int (v := 6144) (by decide +kernel) ?_
    refine k_iald (v := (-1)) hx hb hK hP 2 0 6144 rfl rfl rfl (Nat.le_of_ble_eq_true rfl) (Nat.le_of_ble_eq_true rfl) rfl dX7_most_81 ?_
    refine lv_istore (lv' := [(7, .int (-1)), (6, .int 0), (5, .int 6), (4, .int 0), (8, .int 0), (3, .int (-1)), (0, .ref p0), (1, .int 8), (2, .int p2)]) hx hb dX7_most_82 hl (by decide) rfl (fun ls hl => ?_)
    refine lv_iload hx hb dX7_most_84 (lv_at hl 0 rfl) ?_
    refine lv_iconst (v := (-1)) hx hb dX7_most_86 (by decide +kernel) ?_
    refine lv_icmp_ne (tgt := 93) hx hb dX7_most_87 (by decide) (fun q9 => absurd q9 (by decide +kernel)) (fun _ => ?_)
    refine lv_goto (tgt := 154) hx hb dX7_most_90 (by decide) ?_
    refine lv_iinc (v := 1) (lv' := [(6, .int 1), (7, .int (-1)), (5, .int 6), (4, .int 0), (8, .int 0), (3, .int (-1)), (0, .ref p0), (1, .int 8), (2, .int p2)]) hx hb dX7_most_154 hl (k := 1) rfl (by decide +kernel) (by decide) rfl (fun ls hl => ?_)
    refine lv_goto (tgt := 52) hx hb dX7_most_157 (by decide) ?_
    refine lv_iload hx hb dX7_most_52 (lv_at hl 0 rfl) ?_
    refine lv_iconst (v := 1) hx hb dX7_most_54 (by decide +kernel) ?_
    refine lv_aload_n hx hb dX7_most_55 rfl (lv_at hl 6 rfl) ?_
    refine k_get (D := (dC, dI)) (ci := 7) (v := .ref (p3 14)) (C := RX7) (T := TX7) (N := 92) hx hb hts hinX7 hown hK hP 4 rfl rfl 14 (by decide) w_1 rfl rfl dX7_most_56 ?_
    refine lv_aload_n hx hb dX7_most_59 rfl (lv_at hl 6 rfl) ?_
    refine k_get (D := (dC, dI)) (ci := 7) (v := .int 0) (C := RX7) (T := TX7) (N := 92) hx hb hts hinX7 hown hK hP 4 rfl rfl 13 (by decide) w_2 rfl rfl dX7_most_60 ?_
    refine k_iald (v := 0) hx hb hK hP 5 0 0 rfl rfl rfl (Nat.le_of_ble_eq_true rfl) (Nat.le_of_ble_eq_true rfl) rfl dX7_most_63 ?_
    refine lv_ishl hx hb dX7_most_64 ?_
    refine k_int (v := 1) (by decide +kernel) ?_
    refine lv_icmp_ge (tgt := 160) hx hb dX7_most_65 (by decide) (fun _ => ?_) (fun q9 => absurd q9 (by decide +kernel))
    refine lv_iinc (v := 7) (lv' := [(5, .int 7), (6, .int 1), (7, .int (-1)), (4, .int 0), (8, .int 0), (3, .int (-1)), (0, .ref p0), (1, .int 8), (2, .int p2)]) hx hb dX7_most_160 hl (k := 2) rfl (by decide +kernel) (by decide) rfl (fun ls hl => ?_)
    refine lv_goto (tgt := 43) hx hb dX7_most_163 (by decide) ?_
    refine lv_iload hx hb dX7_most_43 (lv_at hl 0 rfl) ?_
    refine lv_iload_n hx hb dX7_most_45 rfl (lv_at hl 7 rfl) ?_
    refine lv_icmp_gt (tgt := 166) hx hb dX7_most_46 (by decide) (fun q9 => absurd q9 (by decide +kernel)) (fun _ => ?_)
    refine lv_iconst (v := 0) hx hb dX7_most_49 (by decide +kernel) ?_
    refine lv_istore (lv' := [(6, .int 0), (5, .int 7), (7, .int (-1)), (4, .int 0), (8, .int 0), (3, .int (-1)), (0, .ref p0), (1, .int 8), (2, .int p2)]) hx hb dX7_most_50 hl (by decide) rfl (fun ls hl => ?_)
    refine lv_iload hx hb dX7_most_52 (lv_at hl 0 rfl) ?_
    refine lv_iconst (v := 1) hx hb dX7_most_54 (by decide +kernel) ?_
    refine lv_aload_n hx hb dX7_most_55 rfl (lv_at hl 6 rfl) ?_
    refine k_get (D := (dC, dI)) (ci := 7) (v := .ref (p3 14)) (C := RX7) (T := TX7) (N := 92) hx hb hts hinX7 hown hK hP 4 rfl rfl 14 (by decide) w_1 rfl rfl dX7_most_56 ?_
    refine lv_aload_n hx hb dX7_most_59 rfl (lv_at hl 6 rfl) ?_
    refine k_get (D := (dC, dI)) (ci := 7) (v := .int 0) (C := RX7) (T := TX7) (N := 92) hx hb hts hinX7 hown hK hP 4 rfl rfl 13 (by decide) w_2 rfl rfl dX7_most_60 ?_
    refine k_iald (v := 0) hx hb hK hP 5 0 0 rfl rfl rfl (Nat.le_of_ble_eq_true rfl) (Nat.le_of_ble_eq_true rfl) rfl dX7_most_63 ?_
    refine lv_ishl hx hb dX7_most_64 ?_
    refine k_int (v := 1) (by decide +kernel) ?_
    refine lv_icmp_ge (tgt := 160) hx hb dX7_most_65 (by decide) (fun q9 => absurd q9 (by decide +kernel)) (fun _ => ?_)
    refine lv_aload_n hx hb dX7_most_68 rfl (lv_at hl 6 rfl) ?_
    refine k_get (D := (dC, dI)) (ci := 7) (v := .ref (p3 72)) (C := RX7) (T := TX7) (N := 92) hx hb hts hinX7 hown hK hP 4 rfl rfl 72 (by decide) w_3 rfl rfl dX7_most_69 ?_
    refine lv_sipush (v := 1024) hx hb dX7_most_72 (by decide +kernel) ?_
    refine lv_iload hx hb dX7_most_75 (lv_at hl 1 rfl) ?_
    refine lv_imul hx hb dX7_most_77 ?_
    refine k_int (v := 7168) (by decide +kernel) ?_
    refine lv_iload hx hb dX7_most_78 (lv_at hl 0 rfl) ?_
    refine lv_iadd hx hb dX7_most_80 ?_
    refine k_int (v := 7168) (by decide +kernel) ?_
    refine k_iald (v := (-1)) hx hb hK hP 2 0 7168 rfl rfl rfl (Nat.le_of_ble_eq_true rfl) (Nat.le_of_ble_eq_true rfl) rfl dX7_most_81 ?_
    refine lv_istore (lv' := [(7, .int (-1)), (6, .int 0), (5, .int 7), (4, .int 0), (8, .int 0), (3, .int (-1)), (0, .ref p0), (1, .int 8), (2, .int p2)]) hx hb dX7_most_82 hl (by decide) rfl (fun ls hl => ?_)
    refine lv_iload hx hb dX7_most_84 (lv_at hl 0 rfl) ?_
    refine lv_iconst (v := (-1)) hx hb dX7_most_86 (by decide +kernel) ?_
    refine lv_icmp_ne (tgt := 93) hx hb dX7_most_87 (by decide) (fun q9 => absurd q9 (by decide +kernel)) (fun _ => ?_)
    refine lv_goto (tgt := 154) hx hb dX7_most_90 (by decide) ?_
    refine lv_iinc (v := 1) (lv' := [(6, .int 1), (7, .int (-1)), (5, .int 7), (4, .int 0), (8, .int 0), (3, .int (-1)), (0, .ref p0), (1, .int 8), (2, .int p2)]) hx hb dX7_most_154 hl (k := 1) rfl (by decide +kernel) (by decide) rfl (fun ls hl => ?_)
    refine lv_goto (tgt := 52) hx hb dX7_most_157 (by decide) ?_
    refine lv_iload hx hb dX7_most_52 (lv_at hl 0 rfl) ?_
    refine lv_iconst (v := 1) hx hb dX7_most_54 (by decide +kernel) ?_
    refine lv_aload_n hx hb dX7_most_55 rfl (lv_at hl 6 rfl) ?_
    refine k_get (D := (dC, dI)) (ci := 7) (v := .ref (p3 14)) (C := RX7) (T := TX7) (N := 92) hx hb hts hinX7 hown hK hP 4 rfl rfl 14 (by decide) w_1 rfl rfl dX7_most_56 ?_
    refine lv_aload_n hx hb dX7_most_59 rfl (lv_at hl 6 rfl) ?_
    refine k_get (D := (dC, dI)) (ci := 7) (v := .int 0) (C := RX7) (T := TX7) (N := 92) hx hb hts hinX7 hown hK hP 4 rfl rfl 13 (by decide) w_2 rfl rfl dX7_most_60 ?_
    refine k_iald (v := 0) hx hb hK hP 5 0 0 rfl rfl rfl (Nat.le_of_ble_eq_true rfl) (Nat.le_of_ble_eq_true rfl) rfl dX7_most_63 ?_
    refine lv_ishl hx hb dX7_most_64 ?_
    refine k_int (v := 1) (by decide +kernel) ?_
    refine lv_icmp_ge (tgt := 160) hx hb dX7_most_65 (by decide) (fun _ => ?_) (fun q9 => absurd q9 (by decide +kernel))
    refine lv_iinc (v := 8) (lv' := [(5, .int 8), (6, .int 1), (7, .int (-1)), (4, .int 0), (8, .int 0), (3, .int (-1)), (0, .ref p0), (1, .int 8), (2, .int p2)]) hx hb dX7_most_160 hl (k := 2) rfl (by decide +kernel) (by decide) rfl (fun ls hl => ?_)
    refine lv_goto (tgt := 43) hx hb dX7_most_163 (by decide) ?_
    refine lv_iload hx hb dX7_most_43 (lv_at hl 0 rfl) ?_
    refine lv_iload_n hx hb dX7_most_45 rfl (lv_at hl 7 rfl) ?_
    refine lv_icmp_gt (tgt := 166) hx hb dX7_most_46 (by decide) (fun q9 => absurd q9 (by decide +kernel)) (fun _ => ?_)
    refine lv_iconst (v := 0) hx hb dX7_most_49 (by decide +kernel) ?_
    refine lv_istore (lv' := [(6, .int 0), (5, .int 8), (7, .int (-1)), (4, .int 0), (8, .int 0), (3, .int (-1)), (0, .ref p0), (1, .int 8), (2, .int p2)]) hx hb dX7_most_50 hl (by decide) rfl (fun ls hl => ?_)
    refine lv_iload hx hb dX7_most_52 (lv_at hl 0 rfl) ?_
    refine lv_iconst (v := 1) hx hb dX7_most_54 (by decide +kernel) ?_
    refine lv_aload_n hx hb dX7_most_55 rfl (lv_at hl 6 rfl) ?_
    refine k_get (D := (dC, dI)) (ci := 7) (v := .ref (p3 14)) (C := RX7) (T := TX7) (N := 92) hx hb hts hinX7 hown hK hP 4 rfl rfl 14 (by decide) w_1 rfl rfl dX7_most_56 ?_
    refine lv_aload_n hx hb dX7_most_59 rfl (lv_at hl 6 rfl) ?_
    refine k_get (D := (dC, dI)) (ci := 7) (v := .int 0) (C := RX7) (T := TX7) (N := 92) hx hb hts hinX7 hown hK hP 4 rfl rfl 13 (by decide) w_2 rfl rfl dX7_most_60 ?_
    refine k_iald (v := 0) hx hb hK hP 5 0 0 rfl rfl rfl (Nat.le_of_ble_eq_true rfl) (Nat.le_of_ble_eq_true rfl) rfl dX7_most_63 ?_
    refine lv_ishl hx hb dX7_most_64 ?_
    refine k_int (v := 1) (by decide +kernel) ?_
    refine lv_icmp_ge (tgt := 160) hx hb dX7_most_65 (by decide) (fun q9 => absurd q9 (by decide +kernel)) (fun _ => ?_)
    refine lv_aload_n hx hb dX7_most_68 rfl (lv_at hl 6 rfl) ?_
    refine k_get (D := (dC, dI)) (ci := 7) (v := .ref (p3 72)) (C := RX7) (T := TX7) (N := 92) hx hb hts hinX7 hown hK hP 4 rfl rfl 72 (by decide) w_3 rfl rfl dX7_most_69 ?_
    refine lv_sipush (v := 1024) hx hb dX7_most_72 (by decide +kernel) ?_
    refine lv_iload hx hb dX7_most_75 (lv_at hl 1 rfl) ?_
    refine lv_imul hx hb dX7_most_77 ?_
    refine k_int (v := 8192) (by decide +kernel) ?_
    refine lv_iload hx hb dX7_most_78 (lv_at hl 0 rfl) ?_
    refine lv_iadd hx hb dX7_most_80 ?_
    refine k_int (v := 8192) (by decide +kernel) ?_
    refine k_iald (v := (-1)) hx hb hK hP 2 0 8192 rfl rfl rfl (Nat.le_of_ble_eq_true rfl) (Nat.le_of_ble_eq_true rfl) rfl dX7_most_81 ?_
    refine lv_istore (lv' := [(7, .int (-1)), (6, .int 0), (5, .int 8), (4, .int 0), (8, .int 0), (3, .int (-1)), (0, .ref p0), (1, .int 8), (2, .int p2)]) hx hb dX7_most_82 hl (by decide) rfl (fun ls hl => ?_)
    refine lv_iload hx hb dX7_most_84 (lv_at hl 0 rfl) ?_
    refine lv_iconst (v := (-1)) hx hb dX7_most_86 (by decide +kernel) ?_
    refine lv_icmp_ne (tgt := 93) hx hb dX7_most_87 (by decide) (fun q9 => absurd q9 (by decide +kernel)) (fun _ => ?_)
    refine lv_goto (tgt := 154) hx hb dX7_most_90 (by decide) ?_
    refine lv_iinc (v := 1) (lv' := [(6, .int 1), (7, .int (-1)), (5, .int 8), (4, .int 0), (8, .int 0), (3, .int (-1)), (0, .ref p0), (1, .int 8), (2, .int p2)]) hx hb dX7_most_154 hl (k := 1) rfl (by decide +kernel) (by decide) rfl (fun ls hl => ?_)
    refine lv_goto (tgt := 52) hx hb dX7_most_157 (by decide) ?_
    refine lv_iload hx hb dX7_most_52 (lv_at hl 0 rfl) ?_
    refine lv_iconst (v := 1) hx hb dX7_most_54 (by decide +kernel) ?_
    refine lv_aload_n hx hb dX7_most_55 rfl (lv_at hl 6 rfl) ?_
    refine k_get (D := (dC, dI)) (ci := 7) (v := .ref (p3 14)) (C := RX7) (T := TX7) (N := 92) hx hb hts hinX7 hown hK hP 4 rfl rfl 14 (by decide) w_1 rfl rfl dX7_most_56 ?_
    refine lv_aload_n hx hb dX7_most_59 rfl (lv_at hl 6 rfl) ?_
    refine k_get (D := (dC, dI)) (ci := 7) (v := .int 0) (C := RX7) (T := TX7) (N := 92) hx hb hts hinX7 hown hK hP 4 rfl rfl 13 (by decide) w_2 rfl rfl dX7_most_60 ?_
    refine k_iald (v := 0) hx hb hK hP 5 0 0 rfl rfl rfl (Nat.le_of_ble_eq_true rfl) (Nat.le_of_ble_eq_true rfl) rfl dX7_most_63 ?_
    refine lv_ishl hx hb dX7_most_64 ?_
    refine k_int (v := 1) (by decide +kernel) ?_
    refine lv_icmp_ge (tgt := 160) hx hb dX7_most_65 (by decide) (fun _ => ?_) (fun q9 => absurd q9 (by decide +kernel))
    refine lv_iinc (v := 9) (lv' := [(5, .int 9), (6, .int 1), (7, .int (-1)), (4, .int 0), (8, .int 0), (3, .int (-1)), (0, .ref p0), (1, .int 8), (2, .int p2)]) hx hb dX7_most_160 hl (k := 2) rfl (by decide +kernel) (by decide) rfl (fun ls hl => ?_)
    refine lv_goto (tgt := 43) hx hb dX7_most_163 (by decide) ?_
    refine lv_iload hx hb dX7_most_43 (lv_at hl 0 rfl) ?_
    refine lv_iload_n hx hb dX7_most_45 rfl (lv_at hl 7 rfl) ?_
    refine lv_icmp_gt (tgt := 166) hx hb dX7_most_46 (by decide) (fun _ => ?_) (fun q9 => absurd q9 (by decide +kernel))
    refine lv_iload_n hx hb dX7_most_166 rfl (lv_at hl 8 rfl) ?_
    refine lv_if_ne (tgt := 175) hx hb dX7_most_167 (by decide) (fun c_100 => ?_) (fun c_100 => ?_)
    · have c_100 : ¬ p2.toInt = 0 := k_eqF rfl (by decide +kernel) c_100
      exfalso; omega
    · have c_100 : p2.toInt = 0 := k_eqT rfl (by decide +kernel) c_100
      refine lv_iload hx hb dX7_most_170 (lv_at hl 3 rfl) ?_
      refine lv_goto (tgt := 203) hx hb dX7_most_172 (by decide) ?_
      exact k_ri B hP hD hS dX7_most_203 () [4, 0, 1, 2, 5, 3] rfl rfl rfl (Nat.le_of_ble_eq_true rfl) (Nat.le_of_ble_eq_true rfl) rfl
