/-! the class' shore: its begin, its loop -/
theorem fill_s {g : Nat → Int32} {m : Nat} {c : Int32} (h : ∀ j, j < m → g j = c) : ∀ j, j < m + 1 → upd g m c j = c := by
  intro j hj
  by_cases e : j = m
  · rw [e, i_upeq]
  · rw [i_upne e]; exact h j (by omega)
theorem min_id {x y : Int32} (h : iR x 0 1600) (e : y = if 1600 < x then 1600 else x) : y = x := by
  rw [e]
  by_cases c : 1600 < x
  · exfalso
    have q : (1600 : Int32).toInt < x.toInt := Int32.lt_iff_toInt_lt.mp c
    have z : (1600 : Int32).toInt = 1600 := by decide
    have h2 := h.2
    omega
  · rw [if_neg c]
def RBEG (t : Nat → Int32) (g : Nat → Int64) (n : Nat) (p s tok v flt : Int32) : Prop := KY g → aR t 0 255 → n ≤ 1600 → ((0 < flt ∧ kB t n (rn cB t n 0) = true) ∨ (flt = 0 ∧ TK t n p s tok v ∧ s.toNatClampNeg = rn cB t n 0))
theorem l_beg {t : Nat → Int32} {g : Nat → Int64} {n : Nat} {v plc p' s' tok' v' flt' plc' : Int32} (h : XTS t g n 0 256 v 0 plc p' s' tok' v' flt' plc') (rs : iR s' 0 1600) (rf : iR flt' 0 6) : RBEG t g n p' s' tok' v' flt' := by
  intro hk ht hn
  have z : (0 : Int32).toNatClampNeg = 0 := by decide
  rcases h with h | h
  · exact absurd rfl h.1
  · have hw : WH t n 0 256 := by
      refine ⟨by rw [z]; exact Nat.zero_le _, fun _ => ?_⟩
      rw [z]
      refine ⟨fun q => absurd q (by decide), fun q => absurd q.1 (Nat.lt_irrefl _)⟩
    obtain ⟨q1, q2⟩ := XT_TK h.2 hk ht hw (iR_c (x := 0) (n := 0) (a := 0) (b := 1600) (by decide) (by decide)) rs
    rw [z] at q1
    rcases q2 with q2 | q2
    · exact Or.inl ⟨i_pos rf q2.1, by rw [← q1]; exact q2.2⟩
    · exact Or.inr ⟨q2.1, q2.2, q1⟩
def GO (flt tok r : Int32) : Prop := (¬ r = 0 ∧ flt = 0 ∧ ¬ tok = 256) ∨ (r = 0 ∧ (¬ flt = 0 ∨ tok = 256))
theorem GO_y {flt tok r : Int32} (h : GO flt tok r) (n : ¬ r = 0) : flt = 0 ∧ ¬ tok = 256 := by
  rcases h with h | h
  · exact h.2
  · exact absurd h.1 n
theorem GO_n {flt tok r : Int32} (h : GO flt tok r) (n : r = 0) : ¬ flt = 0 ∨ tok = 256 := by
  rcases h with h | h
  · exact absurd n h.1
  · exact h.2
theorem l_h0 {t : Nat → Int32} {g : Nat → Int64} {n : Nat} {rT rW cf ct : Nat → Int32} {p s tok v flt : Int32} (h : RBEG t g n p s tok v flt) (hk : KY g) (ht : aR t 0 255) (hn : n ≤ 1600) (hf : ∀ j, j < 3 → cf j = 0) (hc : ∀ j, j < 3 → ct j = 0) : SHo t g n (sText t n) 0 0 0 100 0 0 0 rT rW cf ct p s tok v flt := by
  have z : (0 : Int32).toNatClampNeg = 0 := by decide
  rcases h hk ht hn with h | h
  · exact Or.inl ⟨h.1, sh_bad (by decide) h.2⟩
  · refine Or.inr ⟨⟨hk, ht, hn, h.1, h.2.1⟩, by rw [z]; exact Nat.zero_le _, by decide, by decide, en0, ?_, ⟨⟨z.symm, z.symm, fun j hj => absurd hj (Nat.not_lt_zero _), fun j hj => absurd hj (Nat.not_lt_zero _)⟩, BS_0, ?_, ?_, ?_, rfl⟩⟩
    · rw [z, h.2.2]; rfl
    · show false = decide (cf 0 < ct 0)
      rw [hf 0 (by decide), hc 0 (by decide)]; decide
    · show false = decide (cf 1 < ct 1)
      rw [hf 1 (by decide), hc 1 (by decide)]; decide
    · show false = decide (cf 2 < ct 2)
      rw [hf 2 (by decide), hc 2 (by decide)]; decide
