def i7 : Nat → Int32 := fun k => match k with | 9 => (-1) | 11 => (-1) | 12 => (-1) | 37 => 1 | 66 => (-1) | 67 => (-1) | 75 => (-1) | 80 => (-1) | _ => 0
def j7 : Nat → Int64 := fun k => match k with | 60 => 1 | _ => 0
set_option maxRecDepth 100000 in
theorem mR_i7 : mR i7 := by
  intro k
  by_cases hk : k < 92
  · have h : ∀ k, k < 92 → loI k ≤ (i7 k).toInt ∧ (i7 k).toInt ≤ hiI k := by decide +kernel
    exact h k hk
  · obtain ⟨q, rfl⟩ : ∃ q, k = q + 92 := ⟨k - 92, by omega⟩
    have e1 : loI (q + 92) = -2147483648 := rfl
    have e2 : hiI (q + 92) = 2147483647 := rfl
    have e3 : i7 (q + 92) = 0 := rfl
    unfold iR
    rw [e1, e2, e3]
    decide
