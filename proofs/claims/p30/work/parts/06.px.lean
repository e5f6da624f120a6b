/-! px: all that the reader of sums and tests keeps. F kinds, P phases, G begins, Q pairs, B bases, O operators, C codes; d frames, m operators, o open, c codes, n the bank, a the sign's place, v whether an operand stands there, z where the code began -/
def PX (F P G Q B O C : Nat → Int32) (d m : Nat) (o : Int) (c n : Nat) (a v : Int) (z : Nat) (Z : Nat → Int32) : Prop :=
  ∃ D : Nat, PI P G B O d m o ∧
  (∀ k, k < m → 10 ≤ (O k).toInt) ∧
  (∀ j, j < d → isP (F j).toInt = true → 10 ≤ (Q j).toInt ∧ (Q j).toInt ≠ 22) ∧
  ((F 0).toInt < 2 ∧ ∀ j, 1 ≤ j → j < d → 2 ≤ (F j).toInt) ∧
  (v = 0 ∨ (v = 1 ∧ (G (d - 1)).toInt = 0)) ∧
  z ≤ c ∧ dpz C (1600 * n + z) (c - z) = some D ∧ (D : Int) = bn O m + fk F isF d + v ∧
  (c : Int) + (m : Int) + fk F isP d ≤ a ∧ a ≤ 1600 ∧ ∀ k, k < 1600 * n + z → C k = Z k
/-- the code is whole -/
def PF (C : Nat → Int32) (c n z : Nat) (a : Int) (Z : Nat → Int32) : Prop := z ≤ c ∧ dpz C (1600 * n + z) (c - z) = some 1 ∧ (c : Int) ≤ a ∧ ∀ k, k < 1600 * n + z → C k = Z k
theorem PX_room {F P G Q B O C : Nat → Int32} {d m c n z : Nat} {Z : Nat → Int32} {o a v : Int} (h : PX F P G Q B O C d m o c n a v z Z) : 1 ≤ d ∧ d ≤ 8 ∧ m ≤ 47 ∧ (d : Int) - 1 ≤ o ∧ o ≤ 7 ∧ (c : Int) ≤ 1600 ∧ (c : Int) + (m : Int) ≤ a ∧ a ≤ 1600 ∧ 0 ≤ (B (d - 1)).toInt ∧ (B (d - 1)).toInt ≤ (m : Int) := by
  obtain ⟨D, h1, h2, h3, h4, h5, h6, h7, h8, h9, h10, h11⟩ := h
  have r := PI_room h1
  have f := (fk_in F isP d).1
  have b := PI_b0 h1 (d - 1) (by have := h1.1; omega)
  obtain ⟨p1, p2, p3, p4, p5, p6, -⟩ := h1
  omega
theorem PX_sa {F P G Q B O C : Nat → Int32} {d m c n z : Nat} {Z : Nat → Int32} {o a a' v : Int} (h : PX F P G Q B O C d m o c n a v z Z) (h1 : a ≤ a') (h2 : a' ≤ 1600) : PX F P G Q B O C d m o c n a' v z Z := by
  obtain ⟨D, q1, q2, q3, q4, q5, q6, q7, q8, q9, q10, q11⟩ := h
  exact ⟨D, q1, q2, q3, q4, q5, q6, q7, q8, by omega, h2, q11⟩
theorem PX_g0 {F P G Q B O C : Nat → Int32} {d m c n z : Nat} {Z : Nat → Int32} {o a : Int} (h : PX F P G Q B O C d m o c n a 1 z Z) : ∀ j, j < d → (G j).toInt = 0 := by
  obtain ⟨D, q1, q2, q3, q4, q5, -⟩ := h
  obtain ⟨p1, p2, p3, p4, p5, p6, p7, p8, p9⟩ := q1
  intro j hj
  by_cases c : (G j).toInt = 0
  · exact c
  · have e := (p9 j hj c).1
    rcases q5 with q5 | ⟨-, q5⟩
    · omega
    · rw [show d - 1 = j by omega] at q5; exact q5
/-- an operator goes into the code -/
theorem PX_pop {F P G Q B O C C' : Nat → Int32} {d m c n z : Nat} {Z : Nat → Int32} {o a : Int} (h : PX F P G Q B O C d (m + 1) o c n a 1 z Z) (hb : (B (d - 1)).toInt < ((m + 1 : Nat) : Int)) (hC : C' = upd C (1600 * n + c) (O m)) : PX F P G Q B O C' d m (o - (if (O m).toInt = 22 then 1 else 0)) (c + 1) n a 1 z Z := by
  have hg := PX_g0 h
  obtain ⟨D, q1, q2, q3, q4, q5, q6, q7, q8, q9, q10, q11⟩ := h
  have fi := (fk_in F isF d).1
  have bi := bn_in O m
  have e1 : bn O (m + 1) = bn O m + (if (O m).toInt = 22 then 0 else 1) := rfl
  have ge := q2 m (by omega)
  have d1 : 1 ≤ d := q1.1
  have cc : ∀ k, k < c - z → C' (1600 * n + z + k) = C (1600 * n + z + k) := fun k hk => by
    rw [hC]; unfold upd; rw [if_neg (by omega)]
  have cn : C' (1600 * n + z + (c - z)) = O m := by
    rw [hC]; unfold upd; rw [if_pos (by omega)]
  have ec : c + 1 - z = c - z + 1 := by omega
  have hp := PI_pop q1 hb (hg (d - 1) (by omega))
  have fz : ∀ k, k < 1600 * n + z → C' k = Z k := fun k hk => by rw [← q11 k hk, hC]; unfold upd; rw [if_neg (by omega)]
  by_cases x : (O m).toInt = 22
  · refine ⟨D, hp, fun k hk => q2 k (by omega), q3, q4, q5, by omega, ?_, ?_, by push_cast at q9 ⊢; omega, q10, fz⟩
    · rw [ec]
      rw [if_pos x] at e1
      exact dpz_not q7 cc (by rw [cn]; exact x) (by omega)
    · rw [if_pos x] at e1
      omega
  · rw [if_neg x] at e1
    obtain ⟨E, rfl⟩ : ∃ E, D = E + 1 := ⟨D - 1, by omega⟩
    refine ⟨E, hp, fun k hk => q2 k (by omega), q3, q4, q5, by omega, ?_, by push_cast at q8; omega, by push_cast at q9 ⊢; omega, q10, fz⟩
    rw [ec]
    exact dpz_two q7 cc (by rw [cn]; omega) (by rw [cn]; exact x) (by push_cast at q8; omega)
/-- an operator waits: the sum's, the comparison's, 'and' and 'or' -/
theorem PX_wait {F P P' G G' Q B O C : Nat → Int32} {d m c n z : Nat} {Z : Nat → Int32} {o a a' : Int} {x : Int32} (h : PX F P G Q B O C d m o c n a 1 z Z) (hx : 10 ≤ x.toInt ∧ x.toInt ≠ 22) (ht : (B (d - 1)).toInt = (m : Int) ∨ (1 ≤ m ∧ rkz (O (m - 1)).toInt < rkz x.toInt))
    (hP : ∀ j, j + 1 < d → P' j = P j) (hP0 : (P' (d - 1)).toInt = 0 → rkz x.toInt ≠ 4 ∧ ((P (d - 1)).toInt = 0 ∨ rkz x.toInt ≤ 3)) (hG : ∀ j, j + 1 < d → G' j = G j) (hG0 : ¬ (G' (d - 1)).toInt = 0 → rkz x.toInt ≤ 3) (ha : a + 1 ≤ a') (ha2 : a' ≤ 1600) : PX F P' G' Q B (upd O m x) C d (m + 1) o c n a' 0 z Z := by
  have hg := PX_g0 h
  obtain ⟨D, q1, q2, q3, q4, q5, q6, q7, q8, q9, q10, q11⟩ := h
  have o1 : ∀ k, k < m → upd O m x k = O k := fun k hk => by unfold upd; rw [if_neg (by omega)]
  have o2 : upd O m x m = x := by unfold upd; rw [if_pos rfl]
  have e1 : bn (upd O m x) (m + 1) = bn O m + 1 := by
    show bn (upd O m x) m + _ = _
    rw [bn_cong o1, o2, if_neg hx.2]
  have p := PI_push (P' := P') (G' := G') q1 o1 (by rw [o2, if_neg hx.2]; have := q1.2.2.2.2.2.1; omega)
    (by rw [o2]; rcases ht with t | ⟨t1, t2⟩
        · exact Or.inl t
        · exact Or.inr ⟨t1, Or.inl t2⟩)
    (fun j hj e => by rw [hP j hj] at e; exact e) (by rw [o2]; exact hP0)
    (fun j hj e => by
      rw [o2]
      by_cases c1 : j + 1 < d
      · rw [hG j c1, hg j hj] at e; exact absurd rfl e
      · have ej : j = d - 1 := by omega
        subst ej
        exact ⟨by omega, hG0 e⟩)
  rw [o2, if_neg hx.2, Int.add_zero] at p
  refine ⟨D, p, fun k hk => ?_, q3, q4, Or.inl rfl, q6, q7, by omega, by push_cast; omega, ha2, q11⟩
  by_cases c1 : k = m
  · rw [c1, o2]; exact hx.1
  · rw [o1 k (by omega)]; exact q2 k (by omega)
/-- 'not' waits -/
theorem PX_not {F P G Q B O C : Nat → Int32} {d m c n z : Nat} {Z : Nat → Int32} {o a a' : Int} {x : Int32} (h : PX F P G Q B O C d m o c n a 0 z Z) (hx : x.toInt = 22) (hg : ¬ (G (d - 1)).toInt = 0) (ho : o + 1 ≤ 7) (ha : a + 1 ≤ a') (ha2 : a' ≤ 1600) : PX F P G Q B (upd O m x) C d (m + 1) (o + 1) c n a' 0 z Z := by
  obtain ⟨D, q1, q2, q3, q4, q5, q6, q7, q8, q9, q10, q11⟩ := h
  have o1 : ∀ k, k < m → upd O m x k = O k := fun k hk => by unfold upd; rw [if_neg (by omega)]
  have o2 : upd O m x m = x := by unfold upd; rw [if_pos rfl]
  have e1 : bn (upd O m x) (m + 1) = bn O m := by
    show bn (upd O m x) m + _ = _
    rw [bn_cong o1, o2, if_pos hx]; omega
  have d1 : 1 ≤ d := q1.1
  have g9 := (q1.2.2.2.2.2.2.2.2 (d - 1) (by omega) hg).2
  have r3 : rkz x.toInt = 3 := rkz_3.mpr hx
  have p := PI_push (P' := P) (G' := G) q1 o1 (by rw [o2, if_pos hx]; exact ho)
    (by rw [o2]; rcases g9 with t | ⟨t1, t2⟩
        · exact Or.inl t
        · exact Or.inr ⟨t1, Or.inr ⟨hx, t2⟩⟩)
    (fun j hj e => e) (by rw [o2, r3]; exact fun e => ⟨by omega, Or.inr (by omega)⟩)
    (fun j hj e => by rw [o2, r3]; exact ⟨(q1.2.2.2.2.2.2.2.2 j hj e).1, by omega⟩)
  rw [o2, if_pos hx] at p
  refine ⟨D, p, fun k hk => ?_, q3, q4, Or.inl rfl, q6, q7, by omega, by push_cast; omega, ha2, q11⟩
  by_cases c1 : k = m
  · rw [c1, o2]; omega
  · rw [o1 k (by omega)]; exact q2 k (by omega)
/-- a fact has begun -/
theorem PX_begun {F P G Q B O C : Nat → Int32} {d m c n z : Nat} {Z : Nat → Int32} {o a : Int} {x : Int32} (h : PX F P G Q B O C d m o c n a 0 z Z) (hx : x.toInt = 0) : PX F P (upd G (d - 1) x) Q B O C d m o c n a 0 z Z := by
  obtain ⟨D, q1, q2, q3, q4, q5, q6, q7, q8, q9, q10, q11⟩ := h
  refine ⟨D, PI_phase q1 (fun j hj e => e) (fun j hj e => ?_), q2, q3, q4, Or.inl rfl, q6, q7, q8, q9, q10, q11⟩
  unfold upd at e
  split at e
  · exact absurd hx e
  · exact e
/-- a frame more: ( and [ and what min and max open; their operator is told behind it -/
theorem PX_open {F P G Q Q' B O C : Nat → Int32} {d m c n z : Nat} {Z : Nat → Int32} {o a a' : Int} {k mm x0 x1 : Int32} (h : PX F P G Q B O C d m o c n a 0 z Z) (hg : (G (d - 1)).toInt = 0) (ho : o + 1 ≤ 7) (hk : 2 ≤ k.toInt ∧ k.toInt ≠ 4) (hmm : mm.toInt = (m : Int)) (hx0 : x0.toInt = 0) (hQ : ∀ j, j < d → Q' j = Q j) (hQd : k.toInt = 3 → 10 ≤ (Q' d).toInt ∧ (Q' d).toInt ≠ 22) (ha : a + 1 ≤ a') (ha2 : a' ≤ 1600) : PX (upd F d k) (upd P d x0) (upd G d x1) Q' (upd B d mm) O C (d + 1) m (o + 1) c n a' 0 z Z := by
  obtain ⟨D, q1, q2, q3, q4, q5, q6, q7, q8, q9, q10, q11⟩ := h
  have up : ∀ (f : Nat → Int32) (x : Int32) (j : Nat), j < d → upd f d x j = f j := fun f x j hj => by unfold upd; rw [if_neg (by omega)]
  have ud : ∀ (f : Nat → Int32) (x : Int32), upd f d x d = x := fun f x => by unfold upd; rw [if_pos rfl]
  have p := PI_frame (P' := upd P d x0) (G' := upd G d x1) (B' := upd B d mm) q1 ho (up B mm) (by rw [ud]; exact hmm) (up P x0) (fun j hj => by
    rw [up G x1 j hj]
    by_cases c1 : (G j).toInt = 0
    · exact c1
    · have e := (q1.2.2.2.2.2.2.2.2 j hj c1).1
      rw [show d - 1 = j by omega] at hg; exact hg)
  have f1 : fk (upd F d k) isF (d + 1) = fk F isF d := by
    show fk (upd F d k) isF d + _ = _
    rw [fk_cong (up F k), ud]
    have : isF k.toInt = false := by unfold isF; simp; exact hk.2
    rw [this]; simp
  have f2 : fk (upd F d k) isP (d + 1) ≤ fk F isP d + 1 := by
    show fk (upd F d k) isP d + _ ≤ _
    rw [fk_cong (up F k)]
    split <;> omega
  refine ⟨D, p, q2, fun j hj e => ?_, ⟨?_, fun j h1 hj => ?_⟩, Or.inl rfl, q6, q7, by rw [f1]; exact q8, by omega, ha2, q11⟩
  · by_cases c1 : j < d
    · rw [up F k j c1] at e
      rw [hQ j c1]; exact q3 j c1 e
    · have ej : j = d := by omega
      subst ej
      rw [ud] at e
      refine hQd ?_
      unfold isP at e
      simp at e
      rcases e with e | e
      · exact e
      · exact absurd e hk.2
  · by_cases c1 : 0 < d
    · rw [up F k 0 c1]; exact q4.1
    · have := q1.1; omega
  · by_cases c1 : j < d
    · rw [up F k j c1]; exact q4.2 j h1 c1
    · have ej : j = d := by omega
      subst ej
      rw [ud]; exact hk.1
/-- a part: a number, a name; 'all' -/
theorem PX_part {F P P' G Q B O C C' : Nat → Int32} {d m c n z : Nat} {Z : Nat → Int32} {o a a' : Int} {x : Int32} (h : PX F P G Q B O C d m o c n a 0 z Z) (hg : (G (d - 1)).toInt = 0) (hx : x.toInt ≤ 9) (hC : C' = upd C (1600 * n + c) x) (hP : ∀ j, j < d → (P' j).toInt = 0 → (P j).toInt = 0) (ha : a + 1 ≤ a') (ha2 : a' ≤ 1600) : PX F P' G Q B O C' d m o (c + 1) n a' 1 z Z := by
  have r := PX_room h
  obtain ⟨D, q1, q2, q3, q4, q5, q6, q7, q8, q9, q10, q11⟩ := h
  have cc : ∀ k, k < c - z → C' (1600 * n + z + k) = C (1600 * n + z + k) := fun k hk => by
    rw [hC]; unfold upd; rw [if_neg (by omega)]
  have cn : C' (1600 * n + z + (c - z)) = x := by
    rw [hC]; unfold upd; rw [if_pos (by omega)]
  have b := PI_bn q1
  have fi := (fk_in F isF d).2
  refine ⟨D + 1, PI_phase q1 hP (fun j hj e => e), q2, q3, q4, Or.inr ⟨rfl, hg⟩, by omega, ?_, by push_cast; omega, by push_cast; omega, ha2, fun k hk => by rw [← q11 k hk, hC]; unfold upd; rw [if_neg (by omega)]⟩
  rw [show c + 1 - z = c - z + 1 by omega]
  exact dpz_part q7 cc (by rw [cn]; exact hx) (by omega)
/-- a comma -/
theorem PX_comma {F P G Q B O C : Nat → Int32} {d m c n z : Nat} {Z : Nat → Int32} {o a a' : Int} {x : Int32} (h : PX F P G Q B O C d m o c n a 1 z Z) (hf : (F (d - 1)).toInt = 3) (hx : x.toInt = 4) (ha : a ≤ a') (ha2 : a' ≤ 1600) : PX (upd F (d - 1) x) P G Q B O C d m o c n a' 0 z Z := by
  obtain ⟨D, q1, q2, q3, q4, q5, q6, q7, q8, q9, q10, q11⟩ := h
  have d1 : 1 ≤ d := q1.1
  obtain ⟨e, rfl⟩ : ∃ e, d = e + 1 := ⟨d - 1, by omega⟩
  rw [show e + 1 - 1 = e by omega] at *
  have up : ∀ j, j < e → upd F e x j = F j := fun j hj => by unfold upd; rw [if_neg (by omega)]
  have ud : upd F e x e = x := by unfold upd; rw [if_pos rfl]
  have f1 : fk (upd F e x) isF (e + 1) = fk F isF (e + 1) + 1 := by
    show fk (upd F e x) isF e + _ = fk F isF e + _ + 1
    rw [fk_cong up, ud, hx, hf]; simp [isF]
  have f2 : fk (upd F e x) isP (e + 1) = fk F isP (e + 1) := by
    show fk (upd F e x) isP e + _ = fk F isP e + _
    rw [fk_cong up, ud, hx, hf]; simp [isP]
  refine ⟨D, q1, q2, fun j hj p => ?_, ⟨?_, fun j h1 hj => ?_⟩, Or.inl rfl, q6, q7, by rw [f1]; omega, by rw [f2]; omega, ha2, q11⟩
  · by_cases c1 : j < e
    · rw [up j c1] at p; exact q3 j hj p
    · have ej : j = e := by omega
      subst ej
      exact q3 j hj (by rw [hf]; rfl)
  · by_cases c1 : 0 < e
    · rw [up 0 c1]; exact q4.1
    · have e0 : e = 0 := by omega
      subst e0
      have := q4.1
      omega
  · by_cases c1 : j < e
    · rw [up j c1]; exact q4.2 j h1 hj
    · have ej : j = e := by omega
      subst ej
      rw [ud, hx]; decide
/-- ) of a sum, ] -/
theorem PX_close {F P P' G Q B O C : Nat → Int32} {d m c n z : Nat} {Z : Nat → Int32} {o a a' : Int} (h : PX F P G Q B O C (d + 1) m o c n a 1 z Z) (hf : 2 ≤ (F d).toInt ∧ (F d).toInt ≠ 4) (hm : (B d).toInt = (m : Int)) (hP : ∀ j, j < d → (P' j).toInt = 0 → (P j).toInt = 0) (ha : a ≤ a') (ha2 : a' ≤ 1600) : PX F P' G Q B O C d m (o - 1) c n a' 1 z Z := by
  have hg := PX_g0 h
  obtain ⟨D, q1, q2, q3, q4, q5, q6, q7, q8, q9, q10, q11⟩ := h
  have d1 : 1 ≤ d := by
    by_cases c1 : d = 0
    · subst c1; have := q4.1; omega
    · omega
  have f1 : fk F isF (d + 1) = fk F isF d := by
    show fk F isF d + _ = _
    have : isF (F d).toInt = false := by unfold isF; simp; exact hf.2
    rw [this]; simp
  have f2 : fk F isP d ≤ fk F isP (d + 1) := by
    show _ ≤ fk F isP d + _
    split <;> omega
  exact ⟨D, PI_close q1 d1 hm hP, q2, fun j hj e => q3 j (by omega) e, ⟨q4.1, fun j h1 hj => q4.2 j h1 (by omega)⟩, Or.inr ⟨rfl, hg (d - 1) (by omega)⟩, q6, q7, by rw [← f1]; exact q8, by omega, ha2, q11⟩
/-- ) of min and max: their operator goes into the code -/
theorem PX_close4 {F P G Q B O C C' : Nat → Int32} {d m c n z : Nat} {Z : Nat → Int32} {o a a' : Int} (h : PX F P G Q B O C (d + 1) m o c n a 1 z Z) (hf : (F d).toInt = 4) (hm : (B d).toInt = (m : Int)) (hC : C' = upd C (1600 * n + c) (Q d)) (ha : a ≤ a') (ha2 : a' ≤ 1600) : PX F P G Q B O C' d m (o - 1) (c + 1) n a' 1 z Z := by
  have hg := PX_g0 h
  obtain ⟨D, q1, q2, q3, q4, q5, q6, q7, q8, q9, q10, q11⟩ := h
  have d1 : 1 ≤ d := by
    by_cases c1 : d = 0
    · subst c1; have := q4.1; omega
    · omega
  have f1 : fk F isF (d + 1) = fk F isF d + 1 := by
    show fk F isF d + _ = _
    rw [hf]; simp [isF]
  have f2 : fk F isP (d + 1) = fk F isP d + 1 := by
    show fk F isP d + _ = _
    rw [hf]; simp [isP]
  have fi := (fk_in F isF d).1
  have bi := bn_in O m
  have qq := q3 d (by omega) (by rw [hf]; rfl)
  have cc : ∀ k, k < c - z → C' (1600 * n + z + k) = C (1600 * n + z + k) := fun k hk => by
    rw [hC]; unfold upd; rw [if_neg (by omega)]
  have cn : C' (1600 * n + z + (c - z)) = Q d := by
    rw [hC]; unfold upd; rw [if_pos (by omega)]
  obtain ⟨E, rfl⟩ : ∃ E, D = E + 1 := ⟨D - 1, by omega⟩
  refine ⟨E, PI_close q1 d1 hm (fun j hj e => e), q2, fun j hj e => q3 j (by omega) e, ⟨q4.1, fun j h1 hj => q4.2 j h1 (by omega)⟩, Or.inr ⟨rfl, hg (d - 1) (by omega)⟩, by omega, ?_, by push_cast at q8; omega, by push_cast; omega, ha2, fun k hk => by rw [← q11 k hk, hC]; unfold upd; rw [if_neg (by omega)]⟩
  rw [show c + 1 - z = c - z + 1 by omega]
  exact dpz_two q7 cc (by rw [cn]; omega) (by rw [cn]; exact qq.2) (by push_cast at q8; omega)
/-- the end of a sum or test that stands in no other -/
theorem PX_fin {F P G Q B O C : Nat → Int32} {d m c n z : Nat} {Z : Nat → Int32} {o a : Int} (h : PX F P G Q B O C d m o c n a 1 z Z) (hf : (F (d - 1)).toInt < 2) (hm : (B (d - 1)).toInt = (m : Int)) : PF C c n z a Z := by
  obtain ⟨D, q1, q2, q3, q4, q5, q6, q7, q8, q9, q10, q11⟩ := h
  have d1 : 1 ≤ d := q1.1
  have e1 : d = 1 := by
    by_cases c1 : d = 1
    · exact c1
    · have := q4.2 (d - 1) (by omega) (by omega); omega
  subst e1
  have b0 := q1.2.1
  have m0 : m = 0 := by
    rw [show 1 - 1 = 0 by omega] at hm; omega
  subst m0
  have f0 : fk F isF 1 = 0 := by
    show (0 : Int) + _ = 0
    have : isF (F 0).toInt = false := by
      have := q4.1
      unfold isF; simp; omega
    rw [this]; simp
  have : (D : Int) = 1 := by
    rw [q8, f0]; rfl
  have fp := (fk_in F isP 1).1
  exact ⟨q6, by rw [q7]; congr 1; omega, by omega, q11⟩
theorem PX_init {F P G Q B O C : Nat → Int32} {c n : Nat} {a : Int} (hB : (B 0).toInt = 0) (hF : (F 0).toInt < 2) (hF0 : 0 ≤ (F 0).toInt) (ha : (c : Int) ≤ a) (ha2 : a ≤ 1600) : PX F P G Q B O C 1 0 0 c n a 0 c C := by
  have f0 : ∀ p : Int → Bool, p 0 = false → p 1 = false → fk F p 1 = 0 := fun p p0 p1 => by
    show (0 : Int) + _ = 0
    have : p (F 0).toInt = false := by
      have : (F 0).toInt = 0 ∨ (F 0).toInt = 1 := by omega
      rcases this with e | e <;> rw [e] <;> assumption
    rw [this]; simp
  refine ⟨0, PI_first hB, fun k hk => by omega, fun j hj e => ?_, ⟨hF, fun j h1 hj => by omega⟩, Or.inl rfl, Nat.le_refl _, by rw [Nat.sub_self]; rfl, by rw [f0 isF rfl rfl]; rfl, by rw [f0 isP rfl rfl]; omega, ha2, fun k hk => rfl⟩
  obtain rfl : j = 0 := by omega
  have : (F 0).toInt = 0 ∨ (F 0).toInt = 1 := by omega
  rcases this with q | q <;> rw [q] at e <;> exact absurd e (by decide)
theorem PX_ph {F P G Q B O C : Nat → Int32} {d m c n z : Nat} {Z : Nat → Int32} {o a v : Int} (h : PX F P G Q B O C d m o c n a v z Z) (hm : 1 ≤ m) (hb : (B (d - 1)).toInt < (m : Int)) (hp : (P (d - 1)).toInt = 0) : rkz (O (m - 1)).toInt ≠ 4 := by
  obtain ⟨D, q1, -⟩ := h
  obtain ⟨h1, h2, h3, h4, h5, h6, h7, h8, h9⟩ := q1
  exact (h8 (d - 1) (m - 1) (by omega) (by omega) (by omega) (fun q => by omega)).2.1 hp
theorem PX_d2 {F P G Q B O C : Nat → Int32} {d m c n z : Nat} {Z : Nat → Int32} {o a v : Int} (h : PX F P G Q B O C d m o c n a v z Z) (hf : 2 ≤ (F (d - 1)).toInt) : 2 ≤ d := by
  obtain ⟨D, q1, q2, q3, q4, -⟩ := h
  have d1 : 1 ≤ d := q1.1
  by_cases c1 : d = 1
  · subst c1; have := q4.1; rw [show 1 - 1 = 0 by omega] at hf; omega
  · omega
/-- the operators wait no more: the last frame's are gone -/
theorem PX_gone {O : Nat → Int32} {b m x : Int} {n : Nat} (h : b = m ∨ (1 ≤ n ∧ rkz (O (n - 1)).toInt < x)) (hx : x ≤ 1) : b = m := by
  rcases h with h | ⟨-, h⟩
  · exact h
  · have := rkz_in (O (n - 1)).toInt
    omega
theorem i_upne {f : Nat → Int32} {x : Int32} {k j : Nat} (h : j ≠ k) : upd f k x j = f j := by unfold upd; rw [if_neg h]
theorem i_upeq {f : Nat → Int32} {x : Int32} {k : Nat} : upd f k x k = x := by unfold upd; rw [if_pos rfl]
theorem PX_pend4 {F P G Q B O C : Nat → Int32} {d m c n z : Nat} {Z : Nat → Int32} {o a v : Int} (h : PX F P G Q B O C d m o c n a v z Z) (hf : (F (d - 1)).toInt = 4) : (c : Int) + 1 ≤ a := by
  obtain ⟨D, q1, q2, q3, q4, q5, q6, q7, q8, q9, q10, q11⟩ := h
  have d1 : 1 ≤ d := q1.1
  obtain ⟨e, rfl⟩ : ∃ e, d = e + 1 := ⟨d - 1, by omega⟩
  rw [show e + 1 - 1 = e by omega] at hf
  have f2 : fk F isP (e + 1) = fk F isP e + 1 := by
    show fk F isP e + _ = _
    rw [hf]; simp [isP]
  have := (fk_in F isP e).1
  omega

/-- one of the codes that a bank holds: none, or whole -/
def SEG (A B C : Nat → Int32) (n : Nat) (c : Int) : Prop := (A n).toInt = -1 ∨ (0 ≤ (A n).toInt ∧ (A n).toInt ≤ (B n).toInt ∧ (B n).toInt ≤ c ∧ c ≤ 1600 ∧ dpz C (1600 * n + (A n).toInt.toNat) ((B n).toInt - (A n).toInt).toNat = some 1)
theorem SEG_keep {A A' B B' C C' : Nat → Int32} {n : Nat} {c c' : Int} (h : SEG A B C n c) (hA : A' n = A n) (hB : B' n = B n) (hC : ∀ k, 1600 * n ≤ k → (k : Int) < 1600 * n + c → C' k = C k) (hc : c ≤ c') (hc2 : c' ≤ 1600) : SEG A' B' C' n c' := by
  unfold SEG
  rw [hA, hB]
  rcases h with h | ⟨h1, h2, h3, h4, h5⟩
  · exact Or.inl h
  · refine Or.inr ⟨h1, h2, by omega, hc2, ?_⟩
    rw [← h5]
    exact dpz_cong fun k hk => hC _ (by omega) (by omega)
theorem SEG_new {A B C Z : Nat → Int32} {n c z : Nat} {a : Int} (h : PF C c n z a Z) (hA : (A n).toInt = (z : Int)) (hB : (B n).toInt = (c : Int)) (ha : a ≤ 1600) : SEG A B C n c := by
  obtain ⟨h1, h2, h3, h4⟩ := h
  refine Or.inr ⟨by omega, by omega, by omega, by omega, ?_⟩
  rw [hA, hB, show ((z : Int)).toNat = z by omega, show ((c : Int) - (z : Int)).toNat = c - z by omega]
  exact h2
