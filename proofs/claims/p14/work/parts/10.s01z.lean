theorem RKq_part {C V e : Nat → Int32} {b : Nat} {x y c : Int32} {S : Nat → Int64} {s : Int32} (h : RK C V e b x y c S s) (hb : b ≤ 1) (hx : 0 ≤ x.toInt ∧ x.toInt ≤ 1600) (hy : x.toInt ≤ y.toInt ∧ y.toInt ≤ 1600) (hc : c.toInt < 1600 * (b : Int) + y.toInt) (hs : (C c.toInt.toNat).toInt ≤ 9) : (0 ≤ s.toInt ∧ s.toInt < 400) ∧ ∀ (c' s' : Int32) (w : Int64), c' = c + 1 → s' = s + 1 → w = prt (C c.toInt.toNat) (V c.toInt.toNat) e → RK C V e b x y c' (vp_updL S s.toInt.toNat w) s' := by
  obtain ⟨k1, k2⟩ := RK_s h hb hx hy.1 hc
  obtain ⟨h1, h2, h3⟩ := h
  have r := RI_part h3 k1 (by rw [k2]; exact hs)
  rw [k2] at r
  refine ⟨⟨r.1, r.2.1⟩, fun c' s' w ec es ew => ?_⟩
  have hcr : iR c 0 3200 := by unfold iR; omega
  have hsr : iR s 0 399 := by unfold iR; omega
  have c1 := i_add ec hcr (iR_c (x := 1) (n := 1) (a := 1) (b := 1) (by decide) (by decide)) (by decide)
  have s1 := i_add es hsr (iR_c (x := 1) (n := 1) (a := 1) (b := 1) (by decide) (by decide)) (by decide)
  have q1 : (1 : Int32).toInt = 1 := by decide
  rw [q1] at c1 s1
  refine ⟨by omega, by omega, ?_⟩
  have e2 : c'.toInt.toNat - (1600 * b + x.toInt.toNat) = c.toInt.toNat - (1600 * b + x.toInt.toNat) + 1 := by omega
  rw [e2, ew, s1]
  exact r.2.2
theorem RKq_not {C V e : Nat → Int32} {b : Nat} {x y c : Int32} {S : Nat → Int64} {s : Int32} (h : RK C V e b x y c S s) (hb : b ≤ 1) (hx : 0 ≤ x.toInt ∧ x.toInt ≤ 1600) (hy : x.toInt ≤ y.toInt ∧ y.toInt ≤ 1600) (hc : c.toInt < 1600 * (b : Int) + y.toInt) (hs : (C c.toInt.toNat).toInt = 22) : (1 ≤ s.toInt ∧ s.toInt ≤ 400) ∧ ∀ (c' : Int32) (w : Int64), c' = c + 1 → w = 1 - S (s.toInt - 1).toNat → RK C V e b x y c' (vp_updL S (s.toInt - 1).toNat w) s := by
  obtain ⟨k1, k2⟩ := RK_s h hb hx hy.1 hc
  obtain ⟨h1, h2, h3⟩ := h
  have r := RI_not h3 k1 (by rw [k2]; exact hs)
  refine ⟨⟨r.1, r.2.1⟩, fun c' w ec ew => ?_⟩
  have hcr : iR c 0 3200 := by unfold iR; omega
  have c1 := i_add ec hcr (iR_c (x := 1) (n := 1) (a := 1) (b := 1) (by decide) (by decide)) (by decide)
  have q1 : (1 : Int32).toInt = 1 := by decide
  rw [q1] at c1
  refine ⟨by omega, by omega, ?_⟩
  have e2 : c'.toInt.toNat - (1600 * b + x.toInt.toNat) = c.toInt.toNat - (1600 * b + x.toInt.toNat) + 1 := by omega
  rw [e2, ew]
  exact r.2.2
theorem RKq_two {C V e : Nat → Int32} {b : Nat} {x y c : Int32} {S : Nat → Int64} {s : Int32} (h : RK C V e b x y c S s) (hb : b ≤ 1) (hx : 0 ≤ x.toInt ∧ x.toInt ≤ 1600) (hy : x.toInt ≤ y.toInt ∧ y.toInt ≤ 1600) (hc : c.toInt < 1600 * (b : Int) + y.toInt) (hs : 9 < (C c.toInt.toNat).toInt) (hs2 : ¬ (C c.toInt.toNat).toInt = 22) : (2 ≤ s.toInt ∧ s.toInt ≤ 400) ∧ ∀ (c' s' : Int32) (w : Int64), c' = c + 1 → s'.toInt = s.toInt - 1 → w = twf (C c.toInt.toNat) (S (s.toInt - 2).toNat) (S (s.toInt - 1).toNat) → RK C V e b x y c' (vp_updL S (s.toInt - 2).toNat w) s' := by
  obtain ⟨k1, k2⟩ := RK_s h hb hx hy.1 hc
  obtain ⟨h1, h2, h3⟩ := h
  have r := RI_two h3 k1 (by rw [k2]; exact hs) (by rw [k2]; exact hs2)
  rw [k2] at r
  refine ⟨⟨r.1, r.2.1⟩, fun c' s' w ec es ew => ?_⟩
  have hcr : iR c 0 3200 := by unfold iR; omega
  have c1 := i_add ec hcr (iR_c (x := 1) (n := 1) (a := 1) (b := 1) (by decide) (by decide)) (by decide)
  have q1 : (1 : Int32).toInt = 1 := by decide
  rw [q1] at c1
  refine ⟨by omega, by omega, ?_⟩
  have e2 : c'.toInt.toNat - (1600 * b + x.toInt.toNat) = c.toInt.toNat - (1600 * b + x.toInt.toNat) + 1 := by omega
  rw [e2, ew, es]
  exact r.2.2
theorem svm_pos {f g : Nat → Int32} {N a t : Int} (h : SVI f g N a t) (hN : N ≤ 12) (c : a ≤ t) (ht : t ≤ 3) : 1 ≤ svm f a t := by
  obtain ⟨h1, -, -, -, -, -, h7⟩ := h
  have e0 := h1 0
  have e1 := h1 1
  have e2 := h1 2
  have e3 := h1 3
  have k : t = 0 ∨ t = 1 ∨ t = 2 ∨ t = 3 := by omega
  rcases k with rfl | rfl | rfl | rfl <;> (unfold svm sv1; (repeat' split) <;> omega)
