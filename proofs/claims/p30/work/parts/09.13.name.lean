/-! words and their keys by one list of letters (1 to 26) -/
def kN : List Nat → Nat
  | [] => 0
  | x :: l => x + 27 * kN l
def wR : List Nat → Nat
  | [] => 0
  | x :: l => (x + 96) + 256 * wR l
def wN (l : List Nat) : Nat := wR l.reverse
def LTR (l : List Nat) : Prop := ∀ x, x ∈ l → 1 ≤ x ∧ x ≤ 26
theorem LTR_nil : LTR [] := fun x h => absurd h (by simp)
theorem LTR_tl {x : Nat} {l : List Nat} (h : LTR (x :: l)) : LTR l := fun z q => h z (List.mem_cons_of_mem _ q)
theorem LTR_hd {x : Nat} {l : List Nat} (h : LTR (x :: l)) : 1 ≤ x ∧ x ≤ 26 := h x (by simp)
theorem LTR_app {x : Nat} {l : List Nat} (h : LTR l) (hx : 1 ≤ x ∧ x ≤ 26) : LTR (l ++ [x]) := by
  intro z q
  rcases List.mem_append.mp q with q | q
  · exact h z q
  · have e : z = x := by simpa using q
    rw [e]; exact hx
theorem LTR_rev {l : List Nat} (h : LTR l) : LTR l.reverse := fun z q => h z (List.mem_reverse.mp q)
theorem kN_inj : ∀ {l m : List Nat}, LTR l → LTR m → kN l = kN m → l = m
  | [], [], _, _, _ => rfl
  | [], y :: m, _, hm, h => by
    have q := LTR_hd hm
    have h : 0 = y + 27 * kN m := h
    omega
  | x :: l, [], hl, _, h => by
    have q := LTR_hd hl
    have h : x + 27 * kN l = 0 := h
    omega
  | x :: l, y :: m, hl, hm, h => by
    have q1 := LTR_hd hl
    have q2 := LTR_hd hm
    have h : x + 27 * kN l = y + 27 * kN m := h
    have e : x = y := by omega
    have e2 : kN l = kN m := by omega
    rw [e, kN_inj (LTR_tl hl) (LTR_tl hm) e2]
theorem wR_inj : ∀ {l m : List Nat}, LTR l → LTR m → wR l = wR m → l = m
  | [], [], _, _, _ => rfl
  | [], y :: m, _, hm, h => by
    have q := LTR_hd hm
    have h : 0 = (y + 96) + 256 * wR m := h
    omega
  | x :: l, [], hl, _, h => by
    have q := LTR_hd hl
    have h : (x + 96) + 256 * wR l = 0 := h
    omega
  | x :: l, y :: m, hl, hm, h => by
    have q1 := LTR_hd hl
    have q2 := LTR_hd hm
    have h : (x + 96) + 256 * wR l = (y + 96) + 256 * wR m := h
    have e : x = y := by omega
    have e2 : wR l = wR m := by omega
    rw [e, wR_inj (LTR_tl hl) (LTR_tl hm) e2]
theorem wN_inj {l m : List Nat} (hl : LTR l) (hm : LTR m) (h : wN l = wN m) : l = m := by
  have q := wR_inj (LTR_rev hl) (LTR_rev hm) h
  have q2 := congrArg List.reverse q
  simpa using q2
theorem kN_app : ∀ (l : List Nat) (x : Nat), kN (l ++ [x]) = kN l + x * 27 ^ l.length
  | [], x => by show x + 27 * 0 = 0 + x * 1; omega
  | y :: l, x => by
    show y + 27 * kN (l ++ [x]) = y + 27 * kN l + x * 27 ^ (l.length + 1)
    rw [kN_app l x, Nat.pow_succ]
    have e : x * (27 ^ l.length * 27) = 27 * (x * 27 ^ l.length) := by rw [← Nat.mul_assoc, Nat.mul_comm]
    rw [e]
    omega
theorem wN_app (l : List Nat) (x : Nat) : wN (l ++ [x]) = (x + 96) + 256 * wN l := by
  unfold wN
  rw [List.reverse_append]
  rfl
theorem kN_lt : ∀ {l : List Nat}, LTR l → kN l < 27 ^ l.length
  | [], _ => by decide
  | x :: l, h => by
    have q := LTR_hd h
    have r := kN_lt (LTR_tl h)
    show x + 27 * kN l < 27 ^ (l.length + 1)
    rw [Nat.pow_succ]
    omega
theorem wR_lt : ∀ {l : List Nat}, LTR l → 2 * wR l < 256 ^ l.length
  | [], _ => by decide
  | x :: l, h => by
    have q := LTR_hd h
    have r := wR_lt (LTR_tl h)
    show 2 * ((x + 96) + 256 * wR l) < 256 ^ (l.length + 1)
    rw [Nat.pow_succ]
    omega
theorem wN_lt {l : List Nat} (h : LTR l) : 2 * wN l < 256 ^ l.length := by
  have q := wR_lt (LTR_rev h)
  rw [List.length_reverse] at q
  exact q
theorem pw27 {k : Nat} (h : k ≤ 7) : 27 ^ k ≤ 10460353203 := by
  have q := Nat.pow_le_pow_right (show 0 < 27 by decide) h
  have e : 27 ^ 7 = 10460353203 := by decide
  omega
theorem pw256 {k : Nat} (h : k ≤ 8) : 256 ^ k ≤ 18446744073709551616 := by
  have q := Nat.pow_le_pow_right (show 0 < 256 by decide) h
  have e : 256 ^ 8 = 18446744073709551616 := by decide
  omega
theorem kN_b {l : List Nat} (h : LTR l) (k : l.length ≤ 7) : kN l < 10460353203 := Nat.lt_of_lt_of_le (kN_lt h) (pw27 k)
theorem wN_b {l : List Nat} (h : LTR l) (k : l.length ≤ 8) : wN l < 9223372036854775808 := by
  have q := wN_lt h
  have r := pw256 k
  omega
theorem lN_ij {a b : Nat} (ha : a < 9223372036854775808) (hb : b < 9223372036854775808) (h : lN a = lN b) : a = b := by
  have q := congrArg (fun x : Int64 => x.toBitVec.toNat) h
  have ea : (lN a).toBitVec.toNat = a := Nat.mod_eq_of_lt (by omega)
  have eb : (lN b).toBitVec.toNat = b := Nat.mod_eq_of_lt (by omega)
  have q : (lN a).toBitVec.toNat = (lN b).toBitVec.toNat := q
  omega
theorem u_tn9 {a : Nat} (h : a < 18446744073709551616) : (UInt64.ofNat a).toNat = a := by
  show (BitVec.ofNat 64 a).toNat = a
  rw [BitVec.toNat_ofNat]; exact Nat.mod_eq_of_lt h
theorem l_or8 {a b : Nat} (ha : a < 256) (h : b * 256 + a < 18446744073709551616) : lN (b * 256) ||| lN a = lN (b * 256 + a) := by
  have t1 : (UInt64.ofNat (b * 256)).toNat = b * 256 := u_tn9 (Nat.lt_of_le_of_lt (Nat.le_add_right _ _) h)
  have t2 : (UInt64.ofNat a).toNat = a := u_tn9 (Nat.lt_trans ha (by decide))
  have t3 : (UInt64.ofNat (b * 256 + a)).toNat = b * 256 + a := u_tn9 h
  have h1 : b * 256 ||| a = b * 256 + a := by
    have e : b * 256 = b <<< 8 := by rw [Nat.shiftLeft_eq]
    rw [e, ← Nat.shiftLeft_add_eq_or_of_lt (show a < 2 ^ 8 by omega)]
  have h3 : UInt64.ofNat (b * 256) ||| UInt64.ofNat a = UInt64.ofNat (b * 256 + a) := by
    apply UInt64.toNat_inj.mp
    rw [UInt64.toNat_or, t1, t2, t3, h1]
  have h2 := congrArg UInt64.toInt64 h3
  exact h2
theorem l_shl8 {a : Nat} (ha : a < 18446744073709551616) : lN a <<< ((8 : Int32).toInt64 &&& 63) = lN (a * 256) := by
  apply Int64.toBitVec_inj.mp
  rw [Int64.toBitVec_shiftLeft, show ((8 : Int32).toInt64 &&& 63).toBitVec.smod 64 = BitVec.ofNat 64 8 by decide]
  apply BitVec.eq_of_toNat_eq
  have hb : (lN a).toBitVec.toNat = a := Nat.mod_eq_of_lt ha
  have hk' : (BitVec.ofNat 64 8).toNat = 8 := by decide
  have h : ((lN a).toBitVec <<< BitVec.ofNat 64 8).toNat = (a * 2 ^ 8) % 2 ^ 64 := by simp only [BitVec.shiftLeft_eq', BitVec.toNat_shiftLeft, hb, hk', Nat.shiftLeft_eq]
  exact h
/-- a letter -/
theorem cL_x {c : Int32} (h : cL c = true) : ∃ x : Nat, (1 ≤ x ∧ x ≤ 26) ∧ c = nI (x + 96) := by
  have q := of_decide_eq_true h
  refine ⟨c.toInt.toNat - 96, by omega, ?_⟩
  have e : c.toInt.toNat - 96 + 96 = c.toInt.toNat := by omega
  rw [e]
  exact iR_nI (a := 0) (b := 200) ⟨by omega, by omega⟩ (by decide)
theorem l_c1 : ∀ x, x < 27 → (nI (x + 96) - 97 + 1).toInt64 = lN x := by decide +kernel
theorem l_c2 : ∀ x, x < 27 → (nI (x + 96)).toInt64 = lN (x + 96) := by decide +kernel
theorem gK_l {k x a u : Nat} (hk : k < 7) (hx : x ≤ 26) : gK k (nI (x + 96)) (lN a, lN u) = (lN (a + x * u), lN (u * 27)) := by
  rw [gK_y hk, l_c1 x (by omega), lN_mul, lN_add]
  have e : (27 : Int64) = lN 27 := rfl
  rw [e, lN_mul]
theorem gw_l {k x w : Nat} (hk : k < 8) (hx : x ≤ 26) (hw : w * 256 + 255 < 18446744073709551616) : gw true k (nI (x + 96)) (lN w) = lN (w * 256 + (x + 96)) := by
  rw [gw_y hk, l_c2 x (by omega), l_shl8 (by omega), l_or8 (by omega) (by omega)]
/-- what was read of a word: k letters; the key and the unit, the word as a number -/
def WI (k : Nat) (q : Int64 × Int64) (w : Int64) (l : List Nat) : Prop := LTR l ∧ (k ≤ 8 → l.length = k) ∧ (8 ≤ k → l.length = 8) ∧ (k ≤ 7 → q = (lN (kN l), lN (27 ^ k))) ∧ w = lN (wN l)
theorem WI_s {k : Nat} {q : Int64 × Int64} {w : Int64} {l : List Nat} {c : Int32} (h : WI k q w l) (hc : cL c = true) : ∃ l', WI (k + 1) (gK k c q) (gw true k c w) l' := by
  obtain ⟨h1, h2, h3, h4, h5⟩ := h
  obtain ⟨x, hx, rfl⟩ := cL_x hc
  by_cases k8 : k < 8
  · have e := h2 (by omega)
    refine ⟨l ++ [x], LTR_app h1 hx, fun _ => by simp [e], fun q => ?_, fun q7 => ?_, ?_⟩
    · have z : k = 7 := by omega
      simp [e, z]
    · rw [h4 (by omega), gK_l (by omega) hx.2, kN_app, e, Nat.pow_succ]
    · have b := wN_lt h1
      have p := pw256 (k := k) (by omega)
      rw [e] at b
      have p7 : 256 ^ k ≤ 256 ^ 7 := Nat.pow_le_pow_right (by decide) (by omega)
      have z7 : 256 ^ 7 = 72057594037927936 := by decide
      rw [h5, gw_l k8 hx.2 (by omega), wN_app]
      congr 1
      omega
  · refine ⟨l, h1, fun q => by omega, fun _ => h3 (by omega), fun q => by omega, ?_⟩
    rw [gw_n (by omega)]; exact h5
theorem WI_f (t : Nat → Int32) (n : Nat) : ∀ f k p (q : Int64 × Int64) (w : Int64) l, WI k q w l → ∃ l', WI (k + (rnF cL t n f p - p)) (fdF cL gK t n f k p q) (fdF cL (gw true) t n f k p w) l' := by
  intro f
  induction f with
  | zero =>
    intro k p q w l h
    refine ⟨l, ?_⟩
    have e : k + (rnF cL t n 0 p - p) = k := by
      show k + (p - p) = k
      omega
    rw [e]; exact h
  | succ f ih =>
    intro k p q w l h
    by_cases c : p < n ∧ cL (t p) = true
    · obtain ⟨l1, h1⟩ := WI_s h c.2
      obtain ⟨l2, h2⟩ := ih (k + 1) (p + 1) _ _ l1 h1
      refine ⟨l2, ?_⟩
      have r := rnF_le cL t n f (p + 1)
      have e1 : rnF cL t n (f + 1) p = rnF cL t n f (p + 1) := by
        show (if p < n ∧ cL (t p) = true then rnF cL t n f (p + 1) else p) = _
        rw [if_pos c]
      have e2 : fdF cL gK t n (f + 1) k p q = fdF cL gK t n f (k + 1) (p + 1) (gK k (t p) q) := by
        show (if p < n ∧ cL (t p) = true then fdF cL gK t n f (k + 1) (p + 1) (gK k (t p) q) else q) = _
        rw [if_pos c]
      have e3 : fdF cL (gw true) t n (f + 1) k p w = fdF cL (gw true) t n f (k + 1) (p + 1) (gw true k (t p) w) := by
        show (if p < n ∧ cL (t p) = true then fdF cL (gw true) t n f (k + 1) (p + 1) (gw true k (t p) w) else w) = _
        rw [if_pos c]
      have e4 : k + (rnF cL t n (f + 1) p - p) = k + 1 + (rnF cL t n f (p + 1) - (p + 1)) := by rw [e1]; omega
      rw [e4, e2, e3]; exact h2
    · refine ⟨l, ?_⟩
      have e1 : rnF cL t n (f + 1) p = p := by
        show (if p < n ∧ cL (t p) = true then rnF cL t n f (p + 1) else p) = _
        rw [if_neg c]
      have e2 : fdF cL gK t n (f + 1) k p q = q := by
        show (if p < n ∧ cL (t p) = true then fdF cL gK t n f (k + 1) (p + 1) (gK k (t p) q) else q) = _
        rw [if_neg c]
      have e3 : fdF cL (gw true) t n (f + 1) k p w = w := by
        show (if p < n ∧ cL (t p) = true then fdF cL (gw true) t n f (k + 1) (p + 1) (gw true k (t p) w) else w) = _
        rw [if_neg c]
      have e4 : k + (rnF cL t n (f + 1) p - p) = k := by rw [e1]; omega
      rw [e4, e2, e3]; exact h
theorem WI_0 : WI 0 ((0 : Int64), (1 : Int64)) 0 [] := ⟨LTR_nil, fun _ => rfl, fun h => by omega, fun _ => rfl, rfl⟩
/-- the word at a place: its letters (8 at most), its key, its number -/
theorem WD (t : Nat → Int32) (n a : Nat) : ∃ l, WI (rn cL t n a - a) (fK t n 0 a 0 1) (kW t n a) l := by
  obtain ⟨l, h⟩ := WI_f t n (n - a) 0 a ((0 : Int64), (1 : Int64)) 0 [] WI_0
  refine ⟨l, ?_⟩
  have e : 0 + (rnF cL t n (n - a) a - a) = rn cL t n a - a := by show 0 + (rn cL t n a - a) = _; omega
  rw [e] at h
  exact h
/-! the own words, from the token 300 on -/
def owl : List (List Nat) := [[20, 8, 9, 14, 7], [23, 15, 18, 20, 8], [18, 8, 25, 13, 5, 19], [2, 18, 9, 5, 6], [23, 9, 19, 8], [23, 15, 18, 4, 19], [7, 9, 22, 5, 19], [14, 5, 5, 4, 19], [21, 19, 5, 19], [6, 9, 18, 19, 20], [4, 1, 18, 11], [18, 15, 15, 13], [3, 15, 14, 20, 5, 14, 20], [2, 5, 1, 18, 19], [3, 1, 12, 13], [8, 1, 4], [19, 5, 1], [19, 1, 9, 4], [4, 1, 25], [15, 18], [1, 14, 4], [14, 15, 20], [1, 12, 12], [13, 9, 14], [13, 1, 24]]
def owL (i : Nat) : List Nat := owl.getD i []
def owC (i : Nat) : Int64 := lN (wN (owL i))
def owK (i : Nat) : Int64 := lN (kN (owL i))
def KY (g : Nat → Int64) : Prop := ∀ i, i < 25 → g i = owK i
theorem owL_ok : ∀ i, i < 25 → (∀ x, x ∈ owL i → 1 ≤ x ∧ x ≤ 26) ∧ (owL i).length ≤ 7 := by decide +kernel
theorem owL_inj : ∀ i, i < 25 → ∀ j, j < 25 → owL i = owL j → i = j := by decide +kernel
theorem owC_c : owC 0 = 499967946343 ∧ owC 1 = 512970880104 ∧ owC 2 = 125793039377779 ∧ owC 3 = 422826304870 ∧ owC 4 = 2003399528 ∧ owC 5 = 512970876019 ∧ owC 6 = 444150998387 ∧ owC 7 = 474147546227 ∧ owC 8 = 1970496883 ∧ owC 9 = 439855772532 ∧ owC 10 = 1684107883 ∧ owC 11 = 1919905645 ∧ owC 12 = 27988542884245108 ∧ owC 13 = 422607680115 ∧ owC 14 = 1667329133 ∧ owC 15 = 6840676 ∧ owC 16 = 7562593 ∧ owC 17 = 1935763812 ∧ owC 18 = 6578553 ∧ owC 19 = 28530 ∧ owC 20 = 6385252 ∧ owC 21 = 7237492 ∧ owC 22 = 6384748 ∧ owC 23 = 7170414 ∧ owC 24 = 7168376 := by decide +kernel
theorem owC_inj {i j : Nat} (hi : i < 25) (hj : j < 25) (h : owC i = owC j) : i = j := by
  have a := owL_ok i hi
  have b := owL_ok j hj
  exact owL_inj i hi j hj (wN_inj a.1 b.1 (lN_ij (wN_b a.1 (by omega)) (wN_b b.1 (by omega)) h))
/-- the token of a word -/
def twF : Nat → Int64 → Int32
  | 0, _ => 258
  | k + 1, w => if w = owC k then nI (300 + k) else twF k w
def tw (w : Int64) : Int32 := twF 25 w
theorem twF_y : ∀ k, k ≤ 25 → ∀ i, i < k → twF k (owC i) = nI (300 + i)
  | 0, _, i, h => absurd h (Nat.not_lt_zero _)
  | k + 1, hk, i, h => by
    show (if owC i = owC k then nI (300 + k) else twF k (owC i)) = _
    by_cases e : owC i = owC k
    · rw [if_pos e, owC_inj (by omega) (by omega) e]
    · rw [if_neg e]
      refine twF_y k (by omega) i ?_
      by_cases z : i = k
      · subst z; exact absurd rfl e
      · omega
theorem twF_n : ∀ k w, (∀ i, i < k → ¬ w = owC i) → twF k w = 258
  | 0, _, _ => rfl
  | k + 1, w, h => by
    show (if w = owC k then nI (300 + k) else twF k w) = _
    rw [if_neg (h k (by omega))]
    exact twF_n k w (fun i hi => h i (by omega))
theorem tw_y {i : Nat} (h : i < 25) : tw (owC i) = nI (300 + i) := twF_y 25 (Nat.le_refl _) i h
theorem tw_n {w : Int64} (h : ∀ i, i < 25 → ¬ w = owC i) : tw w = 258 := twF_n 25 w h
theorem tw_c (w : Int64) : (∃ i, i < 25 ∧ w = owC i ∧ tw w = nI (300 + i)) ∨ ((∀ i, i < 25 → ¬ w = owC i) ∧ tw w = 258) := by
  by_cases h : ∃ i, i < 25 ∧ w = owC i
  · obtain ⟨i, hi, rfl⟩ := h
    exact Or.inl ⟨i, hi, rfl, tw_y hi⟩
  · have h2 : ∀ i, i < 25 → ¬ w = owC i := fun i hi q => h ⟨i, hi, q⟩
    exact Or.inr ⟨h2, tw_n h2⟩
theorem tw_i {w : Int64} {i : Nat} (hi : i < 25) : tw w = nI (300 + i) ↔ w = owC i := by
  constructor
  · intro h
    rcases tw_c w with ⟨j, hj, e, q⟩ | ⟨-, q⟩
    · have z : nI (300 + j) = nI (300 + i) := q.symm.trans h
      have z := (nI_eq (by omega) (by omega)).mp z
      have : j = i := by omega
      rw [e, this]
    · have z : nI 258 = nI (300 + i) := q.symm.trans h
      have z := (nI_eq (by omega) (by omega)).mp z
      omega
  · intro h; rw [h]; exact tw_y hi
theorem own_i (w : Int64) : own w = true ↔ ∃ i, i < 25 ∧ w = owC i := by
  have c := owC_c
  constructor
  · intro h
    have h := of_decide_eq_true h
    obtain ⟨c0, c1, c2, c3, c4, c5, c6, c7, c8, c9, c10, c11, c12, c13, c14, c15, c16, c17, c18, c19, c20, c21, c22, c23, c24⟩ := c
    rcases h with h | h | h | h | h | h | h | h | h | h | h | h | h | h | h | h | h | h | h | h | h | h | h | h | h
    · exact ⟨0, by decide, h.trans c0.symm⟩
    · exact ⟨1, by decide, h.trans c1.symm⟩
    · exact ⟨2, by decide, h.trans c2.symm⟩
    · exact ⟨3, by decide, h.trans c3.symm⟩
    · exact ⟨4, by decide, h.trans c4.symm⟩
    · exact ⟨5, by decide, h.trans c5.symm⟩
    · exact ⟨6, by decide, h.trans c6.symm⟩
    · exact ⟨7, by decide, h.trans c7.symm⟩
    · exact ⟨8, by decide, h.trans c8.symm⟩
    · exact ⟨9, by decide, h.trans c9.symm⟩
    · exact ⟨10, by decide, h.trans c10.symm⟩
    · exact ⟨11, by decide, h.trans c11.symm⟩
    · exact ⟨12, by decide, h.trans c12.symm⟩
    · exact ⟨13, by decide, h.trans c13.symm⟩
    · exact ⟨14, by decide, h.trans c14.symm⟩
    · exact ⟨15, by decide, h.trans c15.symm⟩
    · exact ⟨16, by decide, h.trans c16.symm⟩
    · exact ⟨17, by decide, h.trans c17.symm⟩
    · exact ⟨18, by decide, h.trans c18.symm⟩
    · exact ⟨19, by decide, h.trans c19.symm⟩
    · exact ⟨20, by decide, h.trans c20.symm⟩
    · exact ⟨21, by decide, h.trans c21.symm⟩
    · exact ⟨22, by decide, h.trans c22.symm⟩
    · exact ⟨23, by decide, h.trans c23.symm⟩
    · exact ⟨24, by decide, h.trans c24.symm⟩
  · rintro ⟨i, hi, rfl⟩
    have z : ∀ i, i < 25 → own (owC i) = true := by decide +kernel
    exact z i hi
theorem own_tw (w : Int64) : own w = false ↔ tw w = 258 := by
  rcases tw_c w with ⟨i, hi, e, q⟩ | ⟨h, q⟩
  · have o : own w = true := (own_i w).mpr ⟨i, hi, e⟩
    constructor
    · intro z; rw [o] at z; exact absurd z (by decide)
    · intro z
      have z : nI (300 + i) = nI 258 := q.symm.trans z
      have z := (nI_eq (by omega) (by omega)).mp z
      omega
  · constructor
    · intro _; exact q
    · intro _
      cases o : own w with
      | false => rfl
      | true =>
        obtain ⟨i, hi, e⟩ := (own_i w).mp o
        exact absurd e (h i hi)
/-- by the letters: an own word by its number, by its key -/
theorem WI_own {k i : Nat} {q : Int64 × Int64} {w : Int64} {l : List Nat} (h : WI k q w l) (hi : i < 25) : w = owC i ↔ (k ≤ 7 ∧ q.1 = owK i) := by
  obtain ⟨h1, h2, h3, h4, h5⟩ := h
  have o := owL_ok i hi
  have hl : l.length ≤ 8 := by
    by_cases c : k ≤ 8
    · rw [h2 c]; exact c
    · rw [h3 (by omega)]; exact Nat.le_refl _
  constructor
  · intro e
    have el : l = owL i := wN_inj h1 o.1 (lN_ij (wN_b h1 hl) (wN_b o.1 (by omega)) (h5.symm.trans e))
    have k7 : k ≤ 7 := by
      by_cases c : k ≤ 8
      · have := h2 c; rw [el] at this; omega
      · have := h3 (by omega); rw [el] at this; omega
    refine ⟨k7, ?_⟩
    rw [h4 k7, el]; rfl
  · rintro ⟨k7, e⟩
    rw [h4 k7] at e
    have e : lN (kN l) = lN (kN (owL i)) := e
    have b1 := kN_b h1 (by rw [h2 (by omega)]; exact k7)
    have b2 := kN_b o.1 o.2
    have el : l = owL i := kN_inj h1 o.1 (lN_ij (by omega) (by omega) e)
    rw [h5, el]; rfl
/-- a name: its key and its number by one list -/
def NK (v : Int32) (w : Int64) : Prop := ∃ l, LTR l ∧ 1 ≤ l.length ∧ l.length ≤ 6 ∧ v = nI (kN l) ∧ w = lN (wN l)
theorem kN_b6 {l : List Nat} (h : LTR l) (k : l.length ≤ 6) : kN l < 387420489 := by
  have a := kN_lt h
  have q := Nat.pow_le_pow_right (show 0 < 27 by decide) k
  have e : 27 ^ 6 = 387420489 := by decide
  omega
theorem NK_iff {v v' : Int32} {w w' : Int64} (h : NK v w) (h' : NK v' w') : v = v' ↔ w = w' := by
  obtain ⟨l, a1, a2, a3, rfl, rfl⟩ := h
  obtain ⟨m, b1, b2, b3, rfl, rfl⟩ := h'
  have k1 := kN_b6 a1 a3
  have k2 := kN_b6 b1 b3
  constructor
  · intro e
    have e := (nI_eq (by omega) (by omega)).mp e
    rw [kN_inj a1 b1 e]
  · intro e
    have e := lN_ij (wN_b a1 (by omega)) (wN_b b1 (by omega)) e
    rw [wN_inj a1 b1 e]
