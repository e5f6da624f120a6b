/-! the own words' keys: what the constructor of the class' reader makes of its string -/
def chS (k : Nat) : Int32 := ((((bytS.getD 0 []).getD k 0) &&& 255).toUInt32 % 65536).toInt32
def wiL : List Nat := [0, 0, 0, 0, 0, 0, 1, 1, 1, 1, 1, 1, 2, 2, 2, 2, 2, 2, 2, 3, 3, 3, 3, 3, 3, 4, 4, 4, 4, 4, 5, 5, 5, 5, 5, 5, 6, 6, 6, 6, 6, 6, 7, 7, 7, 7, 7, 7, 8, 8, 8, 8, 8, 9, 9, 9, 9, 9, 9, 10, 10, 10, 10, 10, 11, 11, 11, 11, 11, 12, 12, 12, 12, 12, 12, 12, 12, 13, 13, 13, 13, 13, 13, 14, 14, 14, 14, 14, 15, 15, 15, 15, 16, 16, 16, 16, 17, 17, 17, 17, 17, 18, 18, 18, 18, 19, 19, 19, 20, 20, 20, 20, 21, 21, 21, 21, 22, 22, 22, 22, 23, 23, 23, 23, 24, 24, 24, 24, 25]
def liL : List Nat := [0, 1, 2, 3, 4, 5, 0, 1, 2, 3, 4, 5, 0, 1, 2, 3, 4, 5, 6, 0, 1, 2, 3, 4, 5, 0, 1, 2, 3, 4, 0, 1, 2, 3, 4, 5, 0, 1, 2, 3, 4, 5, 0, 1, 2, 3, 4, 5, 0, 1, 2, 3, 4, 0, 1, 2, 3, 4, 5, 0, 1, 2, 3, 4, 0, 1, 2, 3, 4, 0, 1, 2, 3, 4, 5, 6, 7, 0, 1, 2, 3, 4, 5, 0, 1, 2, 3, 4, 0, 1, 2, 3, 0, 1, 2, 3, 0, 1, 2, 3, 4, 0, 1, 2, 3, 0, 1, 2, 0, 1, 2, 3, 0, 1, 2, 3, 0, 1, 2, 3, 0, 1, 2, 3, 0, 1, 2, 3, 0]
def wi9 (k : Nat) : Nat := wiL.getD k 0
def li9 (k : Nat) : Nat := liL.getD k 0
theorem own_st : ∀ k, k < 128 → (chS k = 32 ∧ li9 k = (owL (wi9 k)).length ∧ wi9 (k + 1) = wi9 k + 1 ∧ li9 (k + 1) = 0) ∨ (¬ chS k = 32 ∧ chS k = nI ((owL (wi9 k)).getD (li9 k) 0 + 96) ∧ li9 k < (owL (wi9 k)).length ∧ (owL (wi9 k)).getD (li9 k) 0 < 27 ∧ wi9 (k + 1) = wi9 k ∧ li9 (k + 1) = li9 k + 1) := by decide +kernel
def FKK (k : Nat) : Nat → Int64 := fun j => if j < wi9 k then owK j else if j = wi9 k then lN (kN ((owL (wi9 k)).take (li9 k))) else 0
def KST (k w : Nat) (u : Int64) (f : Nat → Int64) : Prop := w = wi9 k ∧ u = lN (27 ^ li9 k) ∧ f = FKK k
theorem tk_s : ∀ (l : List Nat) (n : Nat), n < l.length → l.take (n + 1) = l.take n ++ [l.getD n 0]
  | [], n, h => absurd h (Nat.not_lt_zero _)
  | x :: l, 0, _ => rfl
  | x :: l, n + 1, h => by
    show x :: l.take (n + 1) = x :: (l.take n ++ [l.getD n 0])
    rw [tk_s l n (Nat.lt_of_succ_lt_succ h)]
theorem KST_0 : KST 0 0 1 (fun _ => 0) := by
  refine ⟨rfl, rfl, ?_⟩
  funext j
  show (0 : Int64) = if j < 0 then owK j else if j = 0 then lN (kN ((owL 0).take 0)) else 0
  rw [if_neg (Nat.not_lt_zero _)]
  by_cases c : j = 0
  · rw [if_pos c]; rfl
  · rw [if_neg c]
theorem KST_b {k w : Nat} {u : Int64} {f : Nat → Int64} {r : Int32} (h : KST k w u f) (hk : k < 128) (e : r = chS k) (c : r.toInt = 32) : KST (k + 1) (w + 1) 1 f := by
  obtain ⟨h1, h2, h3⟩ := h
  rcases own_st k hk with ⟨q1, q2, q3, q4⟩ | q
  · refine ⟨by rw [h1, q3], by rw [q4]; rfl, ?_⟩
    rw [h3]
    funext j
    unfold FKK
    rw [q3, q4]
    by_cases a : j < wi9 k
    · rw [if_pos a, if_pos (by omega)]
    · rw [if_neg a]
      by_cases b : j = wi9 k
      · rw [if_pos b, if_pos (by omega), q2, List.take_length, b]; rfl
      · rw [if_neg b, if_neg (by omega)]
        by_cases d : j = wi9 k + 1
        · rw [if_pos d]; rfl
        · rw [if_neg d]
  · exfalso
    apply q.1
    rw [← e]
    exact Int32.toInt_inj.mp (c.trans (by decide))
theorem KST_l {k w : Nat} {u y : Int64} {f : Nat → Int64} {r r2 : Int32} (h : KST k w u f) (hk : k < 128) (e : r = chS k) (c : ¬ r.toInt = 32) (e2 : r2 = chS k) (ey : y = f w + (r2 - 97 + 1).toInt64 * u) : KST (k + 1) w (u * 27) (vp_updL f w y) := by
  obtain ⟨h1, h2, h3⟩ := h
  rcases own_st k hk with q | ⟨q1, q2, q3, q4, q5, q6⟩
  · exfalso; apply c; rw [e, q.1]; decide
  · refine ⟨by rw [h1, q5], ?_, ?_⟩
    · have z : (27 : Int64) = lN 27 := rfl
      rw [h2, q6, Nat.pow_succ, z, lN_mul]
    · have ev : y = lN (kN ((owL (wi9 k)).take (li9 k + 1))) := by
        have fw : f w = lN (kN ((owL (wi9 k)).take (li9 k))) := by
          rw [h3, h1]
          show (if wi9 k < wi9 k then owK (wi9 k) else if wi9 k = wi9 k then lN (kN ((owL (wi9 k)).take (li9 k))) else 0) = _
          rw [if_neg (Nat.lt_irrefl _), if_pos rfl]
        rw [ey, fw, e2, q2, l_c1 _ q4, h2, lN_mul, lN_add, tk_s _ _ q3, kN_app, List.length_take, Nat.min_eq_left (by omega)]
      funext j
      show (if j = w then y else f j) = FKK (k + 1) j
      unfold FKK
      rw [q5, q6, h3, ← h1]
      by_cases a : j = w
      · rw [if_pos a, if_neg (by omega), if_pos a, ev, h1]
      · rw [if_neg a]
        show (if j < wi9 k then owK j else if j = wi9 k then lN (kN ((owL (wi9 k)).take (li9 k))) else 0) = _
        rw [← h1, if_neg a, if_neg a]
theorem KST_end {k w : Nat} {u : Int64} {f : Nat → Int64} (h : KST k w u f) (c : 25 ≤ w) : KY f := by
  intro i hi
  obtain ⟨h1, h2, h3⟩ := h
  rw [h3]
  show (if i < wi9 k then owK i else if i = wi9 k then lN (kN ((owL (wi9 k)).take (li9 k))) else 0) = owK i
  rw [if_pos (by omega)]
theorem KST_128 {k w : Nat} {u : Int64} {f : Nat → Int64} (h : KST k w u f) (c : k = 128) : 25 ≤ w := by
  rw [h.1, c]; decide +kernel
