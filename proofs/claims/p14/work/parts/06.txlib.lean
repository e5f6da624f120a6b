/-! xlib: what the class' past keeps, and other rows that its walks want -/
def LB (lt : Nat → Int32) (lg : Int32) (B : Int) : Prop := lg.toInt ≤ B ∧ ∀ j, (lt j).toInt ≤ B
theorem LB_rem {lt : Nat → Int32} {lg : Int32} {B : Int} {k : Nat} (h : LB lt lg B) : LB (upd lt k lg) lg B := by
  refine ⟨h.1, fun j => ?_⟩
  unfold upd
  split
  · exact h.1
  · exact h.2 j
theorem LB_bb {lt : Nat → Int32} {lg : Int32} {B : Int} {k : Nat} (h : LB lt lg B) : LB lt (lt k) B := ⟨h.2 k, h.2⟩
theorem LB_w {lt : Nat → Int32} {lg : Int32} {B B' : Int} (h : LB lt lg B) (k : B ≤ B') : LB lt lg B' := ⟨by have := h.1; omega, fun j => by have := h.2 j; omega⟩
theorem LB_inc {lt : Nat → Int32} {lg lg' : Int32} {a b B : Int} (h : LB lt lg B) (e : lg' = lg + 1) (f : iR lg a b) (k : b < 2147483647 := by decide) : LB lt lg' (B + 1) := by
  have q1 : (1 : Int32).toInt = 1 := by decide
  have f2 := k_rlo9 lg
  have r := i_add (al := lg.toInt) (ah := lg.toInt) e ⟨Int.le_refl _, Int.le_refl _⟩ (iR_c (x := 1) (n := 1) (a := 1) (b := 1) (by decide) (by decide)) (by unfold iR at f; omega)
  exact ⟨by have := h.1; omega, fun j => by have := h.2 j; omega⟩
theorem LB_0 {lt : Nat → Int32} {lg z : Int32} {B : Int} (h : LB lt lg B) (hz : z.toInt = 0) (hl : 0 ≤ lg.toInt) : LB lt z B := ⟨by have := h.1; omega, h.2⟩
