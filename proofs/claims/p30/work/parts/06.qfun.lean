/-! fun: what the model's asking methods answer, as functions -/
def hof (set k : Int32) : Int32 := if (set >>> (k &&& 31)) &&& 1 = 1 then 1 else 0
/-- the worth of the first n things of a set -/
def wof (T : Nat → Int32) (b : Nat) (set : Int32) : Nat → Int32
  | 0 => 0
  | n + 1 => wof T b set n + (if hof set (nI n) = 0 then 0 else T (10 * b + n))
def bcn : Nat → Int32 → Int32
  | 0, _ => 0
  | k + 1, x => if x = 0 then 0 else 1 + bcn k (x &&& (x - 1))
def bcf (x : Int32) : Int32 := bcn (x.toBitVec.toNat + 1) x
theorem bcn_less {x : Int32} (h : ¬ x = 0) : (x &&& (x - 1)).toBitVec.toNat < x.toBitVec.toNat :=
  m_bits (n := x.toBitVec.toNat) (Nat.lt_succ_self _) rfl rfl h
theorem bcn_fuel : ∀ (k m : Nat) (x : Int32), x.toBitVec.toNat < k → x.toBitVec.toNat < m → bcn k x = bcn m x
  | 0, _, _, h, _ => absurd h (Nat.not_lt_zero _)
  | _ + 1, 0, _, _, h => absurd h (Nat.not_lt_zero _)
  | k + 1, m + 1, x, h1, h2 => by
    by_cases c : x = 0
    · subst c; rfl
    · have l := bcn_less c
      show (if x = 0 then 0 else 1 + bcn k (x &&& (x - 1))) = (if x = 0 then 0 else 1 + bcn m (x &&& (x - 1)))
      rw [if_neg c, if_neg c, bcn_fuel k m _ (by omega) (by omega)]
theorem bcf_0 : bcf 0 = 0 := rfl
theorem bcf_s {x : Int32} (h : ¬ x = 0) : bcf x = 1 + bcf (x &&& (x - 1)) := by
  have l := bcn_less h
  show (if x = 0 then 0 else 1 + bcn x.toBitVec.toNat (x &&& (x - 1))) = _
  rw [if_neg h]
  unfold bcf
  rw [bcn_fuel x.toBitVec.toNat ((x &&& (x - 1)).toBitVec.toNat + 1) _ l (Nat.lt_succ_self _)]
/-- what a part is: e 0 .. 6 are worth, had, sea, said, day, words, rhymes -/
def prt (s v : Int32) (e : Nat → Int32) : Int64 := if s = 0 then v.toInt64 else if s = 1 then (e 0).toInt64 else if s = 2 then (e 1).toInt64 else if s = 3 then (e 2).toInt64 else if s = 4 then (e 3).toInt64 else if s = 5 then (e 4).toInt64 else if s = 6 then (e 5).toInt64 else if s = 7 then (e 6).toInt64 else 1
def hld (v : Int64) : Int64 := if 1000000 < v then 1000000 else if v < -1000000 then -1000000 else v
def flr (a b : Int64) : Int64 := if b = 0 then 0 else if ¬ (a - a / b * b) = 0 ∧ ¬ ((if a < 0 then (1 : Int32) else 0) = (if b < 0 then (1 : Int32) else 0)) then a / b - 1 else a / b
def twf (s : Int32) (a b : Int64) : Int64 := if s = 10 then hld (a + b) else if s = 11 then hld (a - b) else if s = 12 then hld (a * b) else if s = 13 then hld (flr a b) else if s = 14 then (if b = 0 then 0 else hld (a - b * flr a b)) else if s = 15 then (if a < b then a else b) else if s = 16 then (if b < a then a else b) else if s = 17 then (if a < b then 1 else 0) else if s = 18 then (if b < a then 1 else 0) else if s = 19 then (if a = b then 1 else 0) else if s = 20 then a &&& b else a ||| b
/-- the stack behind the first n of a code -/
def rkS (C V : Nat → Int32) (e : Nat → Int32) (a : Nat) : Nat → Nat × (Nat → Int64)
  | 0 => (0, fun _ => 0)
  | n + 1 => if (C (a + n)).toInt ≤ 9 then ((rkS C V e a n).1 + 1, vp_updL (rkS C V e a n).2 (rkS C V e a n).1 (prt (C (a + n)) (V (a + n)) e))
    else if (C (a + n)).toInt = 22 then ((rkS C V e a n).1, vp_updL (rkS C V e a n).2 ((rkS C V e a n).1 - 1) (1 - (rkS C V e a n).2 ((rkS C V e a n).1 - 1)))
    else ((rkS C V e a n).1 - 1, vp_updL (rkS C V e a n).2 ((rkS C V e a n).1 - 2) (twf (C (a + n)) ((rkS C V e a n).2 ((rkS C V e a n).1 - 2)) ((rkS C V e a n).2 ((rkS C V e a n).1 - 1))))
def rkf (C V e : Nat → Int32) (a n : Nat) : Int64 := (rkS C V e a n).2 0
theorem rkS_len {C V e : Nat → Int32} {a : Nat} : ∀ {n q : Nat}, dpz C a n = some q → (rkS C V e a n).1 = q
  | 0, q, h => by
    have : some 0 = some q := h
    cases this; rfl
  | n + 1, q, h => by
    have h' : (match dpz C a n with | none => none | some q => if (C (a + n)).toInt ≤ 9 then (if q < 400 then some (q + 1) else none) else if (C (a + n)).toInt = 22 then (if 1 ≤ q then some q else none) else (if 2 ≤ q then some (q - 1) else none)) = some q := h
    cases hd : dpz C a n with
    | none => rw [hd] at h'; cases h'
    | some d =>
      have ih := rkS_len (V := V) (e := e) hd
      rw [hd] at h'
      simp only at h'
      unfold rkS
      split
      · next c =>
        rw [if_pos c] at h'
        split at h'
        · cases h'; show _ + 1 = _; rw [ih]
        · cases h'
      · next c =>
        rw [if_neg c] at h'
        split
        · next c2 =>
          rw [if_pos c2] at h'
          split at h'
          · cases h'; exact ih
          · cases h'
        · next c2 =>
          rw [if_neg c2] at h'
          split at h'
          · cases h'; show _ - 1 = _; rw [ih]
          · cases h'
/-- what a code that is whole is, up to any place -/
theorem dpz_pre {C : Nat → Int32} {a : Nat} : ∀ {n q : Nat}, dpz C a n = some q → ∀ k, k ≤ n → ∃ d, dpz C a k = some d ∧ d ≤ 400
  | 0, q, h, k, hk => by
    obtain rfl : k = 0 := by omega
    exact ⟨0, rfl, by omega⟩
  | n + 1, q, h, k, hk => by
    have h' : (match dpz C a n with | none => none | some q => if (C (a + n)).toInt ≤ 9 then (if q < 400 then some (q + 1) else none) else if (C (a + n)).toInt = 22 then (if 1 ≤ q then some q else none) else (if 2 ≤ q then some (q - 1) else none)) = some q := h
    cases hd : dpz C a n with
    | none => rw [hd] at h'; cases h'
    | some d =>
      have ih := dpz_pre hd
      by_cases c : k = n + 1
      · subst c
        obtain ⟨d9, e9, l9⟩ := ih n (Nat.le_refl _)
        rw [hd] at e9; cases e9
        refine ⟨q, h, ?_⟩
        rw [hd] at h'
        simp only at h'
        split at h'
        · split at h'
          · cases h'; omega
          · cases h'
        · split at h'
          · split at h'
            · cases h'; omega
            · cases h'
          · split at h'
            · cases h'; omega
            · cases h'
      · exact ih k (by omega)
/-- one step -/
theorem dpz_step {C : Nat → Int32} {a n q d : Nat} (h : dpz C a n = some q) (h1 : dpz C a (n + 1) = some d) : ((C (a + n)).toInt ≤ 9 ∧ q < 400 ∧ d = q + 1) ∨ ((C (a + n)).toInt = 22 ∧ 1 ≤ q ∧ d = q) ∨ (9 < (C (a + n)).toInt ∧ (C (a + n)).toInt ≠ 22 ∧ 2 ≤ q ∧ d + 1 = q) := by
  have h' : (match dpz C a n with | none => none | some q => if (C (a + n)).toInt ≤ 9 then (if q < 400 then some (q + 1) else none) else if (C (a + n)).toInt = 22 then (if 1 ≤ q then some q else none) else (if 2 ≤ q then some (q - 1) else none)) = some d := h1
  rw [h] at h'
  simp only at h'
  split at h'
  · next c =>
    split at h'
    · next c2 => cases h'; exact Or.inl ⟨c, c2, rfl⟩
    · cases h'
  · next c =>
    split at h'
    · next c2 =>
      split at h'
      · next c3 => cases h'; exact Or.inr (Or.inl ⟨c2, c3, rfl⟩)
      · cases h'
    · next c2 =>
      split at h'
      · next c3 => cases h'; exact Or.inr (Or.inr ⟨by omega, c2, c3, by omega⟩)
      · cases h'
/-- the machine's stack holds what the code's stack does -/
def RI (C V e : Nat → Int32) (a n m : Nat) (S : Nat → Int64) (s : Int) : Prop := n ≤ m ∧ (∃ q, dpz C a m = some q) ∧ s = ((rkS C V e a n).1 : Int) ∧ ∀ k, k < (rkS C V e a n).1 → S k = (rkS C V e a n).2 k
theorem RI_0 {C V e : Nat → Int32} {a m q : Nat} {S : Nat → Int64} (h : dpz C a m = some q) : RI C V e a 0 m S 0 := ⟨Nat.zero_le _, ⟨q, h⟩, rfl, fun k hk => absurd hk (Nat.not_lt_zero _)⟩
theorem RI_part {C V e : Nat → Int32} {a n m : Nat} {S : Nat → Int64} {s : Int} (h : RI C V e a n m S s) (hn : n < m) (hs : (C (a + n)).toInt ≤ 9) : 0 ≤ s ∧ s < 400 ∧ RI C V e a (n + 1) m (vp_updL S s.toNat (prt (C (a + n)) (V (a + n)) e)) (s + 1) := by
  obtain ⟨h1, ⟨q, h2⟩, h3, h4⟩ := h
  obtain ⟨d, d1, d2⟩ := dpz_pre h2 n h1
  obtain ⟨d', d1', -⟩ := dpz_pre h2 (n + 1) hn
  have l := rkS_len (V := V) (e := e) d1
  have st := dpz_step d1 d1'
  have es : (rkS C V e a n).1 = s.toNat := by omega
  refine ⟨by omega, by omega, hn, ⟨q, h2⟩, ?_, ?_⟩
  · unfold rkS; rw [if_pos hs]; push_cast; omega
  · unfold rkS; rw [if_pos hs]
    intro k hk
    simp only at hk ⊢
    unfold vp_updL
    rw [es]
    split
    · rfl
    · exact h4 k (by omega)
theorem RI_not {C V e : Nat → Int32} {a n m : Nat} {S : Nat → Int64} {s : Int} (h : RI C V e a n m S s) (hn : n < m) (hs : (C (a + n)).toInt = 22) : 1 ≤ s ∧ s ≤ 400 ∧ RI C V e a (n + 1) m (vp_updL S (s - 1).toNat (1 - S (s - 1).toNat)) s := by
  obtain ⟨h1, ⟨q, h2⟩, h3, h4⟩ := h
  obtain ⟨d, d1, d2⟩ := dpz_pre h2 n h1
  obtain ⟨d', d1', -⟩ := dpz_pre h2 (n + 1) hn
  have l := rkS_len (V := V) (e := e) d1
  have st := dpz_step d1 d1'
  have es : (rkS C V e a n).1 - 1 = (s - 1).toNat := by omega
  have c1 : ¬ (C (a + n)).toInt ≤ 9 := by omega
  refine ⟨by omega, by omega, hn, ⟨q, h2⟩, ?_, ?_⟩
  · unfold rkS; rw [if_neg c1, if_pos hs]; exact h3
  · unfold rkS; rw [if_neg c1, if_pos hs]
    intro k hk
    simp only at hk ⊢
    unfold vp_updL
    rw [es]
    split
    · rw [h4 _ (by omega)]
    · exact h4 k hk
theorem RI_two {C V e : Nat → Int32} {a n m : Nat} {S : Nat → Int64} {s : Int} (h : RI C V e a n m S s) (hn : n < m) (hs : 9 < (C (a + n)).toInt) (hs2 : (C (a + n)).toInt ≠ 22) : 2 ≤ s ∧ s ≤ 400 ∧ RI C V e a (n + 1) m (vp_updL S (s - 2).toNat (twf (C (a + n)) (S (s - 2).toNat) (S (s - 1).toNat))) (s - 1) := by
  obtain ⟨h1, ⟨q, h2⟩, h3, h4⟩ := h
  obtain ⟨d, d1, d2⟩ := dpz_pre h2 n h1
  obtain ⟨d', d1', -⟩ := dpz_pre h2 (n + 1) hn
  have l := rkS_len (V := V) (e := e) d1
  have st := dpz_step d1 d1'
  have es : (rkS C V e a n).1 - 1 = (s - 1).toNat := by omega
  have es2 : (rkS C V e a n).1 - 2 = (s - 2).toNat := by omega
  have c1 : ¬ (C (a + n)).toInt ≤ 9 := by omega
  refine ⟨by omega, by omega, hn, ⟨q, h2⟩, ?_, ?_⟩
  · unfold rkS; rw [if_neg c1, if_neg hs2]; push_cast; omega
  · unfold rkS; rw [if_neg c1, if_neg hs2]
    intro k hk
    simp only at hk ⊢
    unfold vp_updL
    rw [es, es2]
    split
    · rw [h4 _ (by omega), h4 _ (by omega)]
    · exact h4 k (by omega)
theorem RI_end {C V e : Nat → Int32} {a m : Nat} {S : Nat → Int64} {s : Int} (h : RI C V e a m m S s) (hq : dpz C a m = some 1) : S 0 = rkf C V e a m := by
  obtain ⟨h1, h2, h3, h4⟩ := h
  have l := rkS_len (V := V) (e := e) hq
  exact h4 0 (by omega)
def envf (T14 T15 T16 T19 T20 : Nat → Int32) (b had sea said day wish : Int32) : Nat → Int32 := fun k => match k with
  | 0 => wof T15 b.toNatClampNeg had (T14 b.toNatClampNeg).toNatClampNeg
  | 1 => bcf had
  | 2 => sea
  | 3 => said
  | 4 => day
  | 5 => if wish = -1 then 0 else T19 (12 * b.toNatClampNeg + wish.toNatClampNeg)
  | _ => if wish = -1 then 0 else T16 (10 * b.toNatClampNeg + (T20 (12 * b.toNatClampNeg + wish.toNatClampNeg)).toNatClampNeg)
def btw (v : Int64) (l h : Int32) : Int32 := if v < l.toInt64 then l else if h.toInt64 < v then h else v.toInt32
theorem SEG_some {A B C : Nat → Int32} {n : Nat} (h : SEG A B C n 1600) (c : ¬ A n = -1) : 0 ≤ (A n).toInt ∧ (A n).toInt ≤ (B n).toInt ∧ (B n).toInt ≤ 1600 ∧ dpz C (1600 * n + (A n).toInt.toNat) ((B n).toInt - (A n).toInt).toNat = some 1 := by
  rcases h with h | ⟨h1, h2, h3, h4, h5⟩
  · exact absurd (Int32.toInt_inj.mp (h.trans (by decide))) c
  · exact ⟨h1, h2, h3, h5⟩
