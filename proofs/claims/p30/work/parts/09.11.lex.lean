/-! tokens of a text: t its bytes, n how many; what both readers look at. Positions are Nat. -/
def cL (c : Int32) : Bool := decide (97 ≤ c.toInt ∧ c.toInt ≤ 122)
def cD (c : Int32) : Bool := decide (48 ≤ c.toInt ∧ c.toInt ≤ 57)
def cB (c : Int32) : Bool := decide (c.toInt = 32 ∨ c.toInt = 10)
/-- the end of a run -/
def rnF (P : Int32 → Bool) (t : Nat → Int32) (n : Nat) : Nat → Nat → Nat
  | 0, p => p
  | k + 1, p => if p < n ∧ P (t p) = true then rnF P t n k (p + 1) else p
def rn (P : Int32 → Bool) (t : Nat → Int32) (n p : Nat) : Nat := rnF P t n (n - p) p
theorem rn_s {P : Int32 → Bool} {t : Nat → Int32} {n p : Nat} (h : p < n) (b : P (t p) = true) : rn P t n (p + 1) = rn P t n p := by
  unfold rn
  have e : n - p = (n - (p + 1)) + 1 := by omega
  rw [e]
  show rnF P t n (n - (p + 1)) (p + 1) = if p < n ∧ P (t p) = true then rnF P t n (n - (p + 1)) (p + 1) else p
  rw [if_pos ⟨h, b⟩]
theorem rn_e {P : Int32 → Bool} {t : Nat → Int32} {n p : Nat} (h : n ≤ p ∨ P (t p) = false) : rn P t n p = p := by
  unfold rn
  cases hk : n - p with
  | zero => rfl
  | succ k =>
    show (if p < n ∧ P (t p) = true then rnF P t n k (p + 1) else p) = p
    rw [if_neg]
    intro q
    rcases h with h | h
    · omega
    · rw [h] at q; exact absurd q.2 (by decide)
theorem rnF_le (P : Int32 → Bool) (t : Nat → Int32) (n : Nat) : ∀ k p, p ≤ rnF P t n k p := by
  intro k
  induction k with
  | zero => intro p; exact Nat.le_refl _
  | succ k ih =>
    intro p
    show p ≤ if p < n ∧ P (t p) = true then rnF P t n k (p + 1) else p
    split
    · have := ih (p + 1); omega
    · exact Nat.le_refl _
theorem rn_le (P : Int32 → Bool) (t : Nat → Int32) (n p : Nat) : p ≤ rn P t n p := rnF_le P t n _ p
theorem rnF_top (P : Int32 → Bool) (t : Nat → Int32) (n : Nat) : ∀ k p, p ≤ n → rnF P t n k p ≤ n := by
  intro k
  induction k with
  | zero => intro p h; exact h
  | succ k ih =>
    intro p h
    show (if p < n ∧ P (t p) = true then rnF P t n k (p + 1) else p) ≤ n
    split
    · next q => exact ih (p + 1) (by omega)
    · exact h
theorem rn_top {P : Int32 → Bool} {t : Nat → Int32} {n p : Nat} (h : p ≤ n) : rn P t n p ≤ n := rnF_top P t n _ p h
/-- all in the run fit -/
theorem rnF_in (P : Int32 → Bool) (t : Nat → Int32) (n : Nat) : ∀ k p j, p ≤ j → j < rnF P t n k p → P (t j) = true := by
  intro k
  induction k with
  | zero => intro p j h1 h2; exact absurd (show j < p from h2) (by omega)
  | succ k ih =>
    intro p j h1 h2
    have h2 : j < if p < n ∧ P (t p) = true then rnF P t n k (p + 1) else p := h2
    split at h2
    · next q =>
      by_cases e : j = p
      · rw [e]; exact q.2
      · exact ih (p + 1) j (by omega) h2
    · omega
theorem rn_in {P : Int32 → Bool} {t : Nat → Int32} {n p j : Nat} (h1 : p ≤ j) (h2 : j < rn P t n p) : P (t j) = true := rnF_in P t n _ p j h1 h2
/-- a fold over a run: the count from k on -/
def fdF {α : Type} (P : Int32 → Bool) (g : Nat → Int32 → α → α) (t : Nat → Int32) (n : Nat) : Nat → Nat → Nat → α → α
  | 0, _, _, a => a
  | f + 1, k, p, a => if p < n ∧ P (t p) = true then fdF P g t n f (k + 1) (p + 1) (g k (t p) a) else a
def fd {α : Type} (P : Int32 → Bool) (g : Nat → Int32 → α → α) (t : Nat → Int32) (n k p : Nat) (a : α) : α := fdF P g t n (n - p) k p a
theorem fd_s {α : Type} {P : Int32 → Bool} {g : Nat → Int32 → α → α} {t : Nat → Int32} {n k p : Nat} {a : α} (h : p < n) (b : P (t p) = true) : fd P g t n (k + 1) (p + 1) (g k (t p) a) = fd P g t n k p a := by
  unfold fd
  have e : n - p = (n - (p + 1)) + 1 := by omega
  rw [e]
  show fdF P g t n (n - (p + 1)) (k + 1) (p + 1) (g k (t p) a) = if p < n ∧ P (t p) = true then fdF P g t n (n - (p + 1)) (k + 1) (p + 1) (g k (t p) a) else a
  rw [if_pos ⟨h, b⟩]
theorem fd_e {α : Type} {P : Int32 → Bool} {g : Nat → Int32 → α → α} {t : Nat → Int32} {n k p : Nat} {a : α} (h : n ≤ p ∨ P (t p) = false) : fd P g t n k p a = a := by
  unfold fd
  cases hk : n - p with
  | zero => rfl
  | succ f =>
    show (if p < n ∧ P (t p) = true then fdF P g t n f (k + 1) (p + 1) (g k (t p) a) else a) = a
    rw [if_neg]
    intro q
    rcases h with h | h
    · omega
    · rw [h] at q; exact absurd q.2 (by decide)
/-- a word as the reference keeps it; a number -/
def gW (k : Nat) (c : Int32) (w : Int64) : Int64 := if k < 8 then (w <<< (8 : Int64)) ||| c.toInt64 else w
def gV (k : Nat) (c : Int32) (v : Int32) : Int32 := if k < 4 then 10 * v + c - 48 else v
/-- a word as the class keeps it: the key, and the unit -/
def gK (k : Nat) (c : Int32) (q : Int64 × Int64) : Int64 × Int64 := if k < 7 then (q.1 + (c - 97 + 1).toInt64 * q.2, q.2 * 27) else q
def tA (t : Nat → Int32) (n p : Nat) : Nat := rn cB t n p
def tE (t : Nat → Int32) (n a : Nat) : Nat := if n ≤ a then a else if cL (t a) = true then rn cL t n a else if cD (t a) = true then rn cD t n a else a + 1
def tW (t : Nat → Int32) (n a : Nat) : Int64 := fd cL gW t n 0 a 0
def tV (t : Nat → Int32) (n a : Nat) : Int32 := fd cD gV t n 0 a 0
def tK (t : Nat → Int32) (n a : Nat) : Int64 := (fd cL gK t n 0 a (0, 1)).1
/-! the reference's loop over a word (b) or a number: what comes of (lexAt, word, value) -/
def mst (b : Bool) : Nat := if b = true then 6 else 4
def cP (b : Bool) : Int32 → Bool := if b = true then cL else cD
def mo (b : Bool) : Int32 := if b = true then 6 else 4
def gx (b : Bool) (a0 : Int32) (k : Nat) (lx : Int32) : Int32 := if k = mst b ∧ lx = -1 then a0 + mo b else lx
def gw (b : Bool) (k : Nat) (c : Int32) (w : Int64) : Int64 := if b = true ∧ k < 8 then (w <<< ((8 : Int32).toInt64 &&& 63)) ||| c.toInt64 else w
def gv (b : Bool) (k : Nat) (c v : Int32) : Int32 := if b = false ∧ k < 4 then 10 * v + c - 48 else v
def gT (b : Bool) (a0 : Int32) (k : Nat) (c : Int32) (q : Int32 × Int64 × Int32) : Int32 × Int64 × Int32 := (gx b a0 k q.1, gw b k c q.2.1, gv b k c q.2.2)
def fT (b : Bool) (a0 : Int32) (t : Nat → Int32) (n k p : Nat) (lx : Int32) (w : Int64) (v : Int32) : Int32 × Int64 × Int32 := fd (cP b) (gT b a0) t n k p (lx, w, v)
theorem gx_n {b : Bool} {a0 : Int32} {k : Nat} {lx : Int32} (h : ¬ k = mst b) : gx b a0 k lx = lx := by unfold gx; rw [if_neg (fun q => h q.1)]
theorem gx_l {b : Bool} {a0 : Int32} {k : Nat} {lx : Int32} (h : ¬ lx = -1) : gx b a0 k lx = lx := by unfold gx; rw [if_neg (fun q => h q.2)]
theorem gx_y {b : Bool} {a0 : Int32} {k : Nat} {lx : Int32} (h : k = mst b) (e : lx = -1) : gx b a0 k lx = a0 + mo b := by unfold gx; rw [if_pos ⟨h, e⟩]
theorem gw_f {k : Nat} {c : Int32} {w : Int64} : gw false k c w = w := rfl
theorem gw_n {b : Bool} {k : Nat} {c : Int32} {w : Int64} (h : 8 ≤ k) : gw b k c w = w := by unfold gw; rw [if_neg (fun q => by omega)]
theorem gw_y {k : Nat} {c : Int32} {w : Int64} (h : k < 8) : gw true k c w = (w <<< ((8 : Int32).toInt64 &&& 63)) ||| c.toInt64 := by unfold gw; rw [if_pos ⟨rfl, h⟩]
theorem gv_t {k : Nat} {c v : Int32} : gv true k c v = v := rfl
theorem gv_n {b : Bool} {k : Nat} {c v : Int32} (h : 4 ≤ k) : gv b k c v = v := by unfold gv; rw [if_neg (fun q => by omega)]
theorem gv_y {k : Nat} {c v : Int32} (h : k < 4) : gv false k c v = 10 * v + c - 48 := by unfold gv; rw [if_pos ⟨rfl, h⟩]
/-- the first sign of it -/
theorem fT_0 {b : Bool} {a0 : Int32} {t : Nat → Int32} {n p : Nat} {lx lx' : Int32} {w' : Int64} {v' : Int32} (h : p < n) (hb : cP b (t p) = true) (e1 : lx' = gx b a0 0 lx) (e2 : w' = gw b 0 (t p) 0) (e3 : v' = gv b 0 (t p) 0) : fT b a0 t n (0 + 1) (p + 1) lx' w' v' = fT b a0 t n 0 p lx 0 0 := by
  subst e1 e2 e3
  have z := fd_s (g := gT b a0) (k := 0) (a := (lx, (0 : Int64), (0 : Int32))) h hb
  exact z
/-- one more -/
theorem fT_s {b : Bool} {a0 : Int32} {t : Nat → Int32} {n k p : Nat} {lx lx' : Int32} {w w' : Int64} {v v' : Int32} {X : Int32 × Int64 × Int32} (h : p < n) (hb : cP b (t p) = true) (e1 : lx' = gx b a0 k lx) (e2 : w' = gw b k (t p) w) (e3 : v' = gv b k (t p) v) (o : fT b a0 t n k p lx w v = X) : fT b a0 t n (k + 1) (p + 1) lx' w' v' = X := by
  subst e1 e2 e3
  exact (fd_s (g := gT b a0) h hb).trans o
theorem fT_e {b : Bool} {a0 : Int32} {t : Nat → Int32} {n k p : Nat} {lx : Int32} {w : Int64} {v : Int32} (h : n ≤ p ∨ cP b (t p) = false) : fT b a0 t n k p lx w v = (lx, w, v) := fd_e h
theorem i_succ {x y : Int32} {a b : Int} (e : y = x + 1) (h : iR x a b) (k : 0 ≤ a ∧ b < 1000000) : y.toNatClampNeg = x.toNatClampNeg + 1 := by
  have q := i_add e h (iR_c (x := 1) (n := 1) (a := 1) (b := 1) (by decide +kernel) (by decide +kernel)) (by omega)
  have z : (1 : Int32).toInt = 1 := by decide
  have c := iR_cn h k.1
  have hy : iR y a (b + 1) := by unfold iR at *; omega
  have c2 := iR_cn hy k.1
  omega
theorem i_ltN {x y : Int32} {a b c d : Int} (h : x < y) (hx : iR x a b) (hy : iR y c d) (k : 0 ≤ a ∧ 0 ≤ c) : x.toNatClampNeg < y.toNatClampNeg := by
  have q := Int32.lt_iff_toInt_lt.mp h
  have c1 := iR_cn hx k.1
  have c2 := iR_cn hy k.2
  omega
theorem i_leN {x y : Int32} {a b c d : Int} (h : x ≤ y) (hx : iR x a b) (hy : iR y c d) (k : 0 ≤ a ∧ 0 ≤ c) : x.toNatClampNeg ≤ y.toNatClampNeg := by
  have q := Int32.le_iff_toInt_le.mp h
  have c1 := iR_cn hx k.1
  have c2 := iR_cn hy k.2
  omega
theorem cP_t {c : Int32} (h1 : 97 ≤ c) (h2 : c ≤ 122) : cP true c = true := by
  have q1 := Int32.le_iff_toInt_le.mp h1
  have q2 := Int32.le_iff_toInt_le.mp h2
  have z1 : (97 : Int32).toInt = 97 := by decide
  have z2 : (122 : Int32).toInt = 122 := by decide
  show cL c = true
  unfold cL
  exact decide_eq_true (by omega)
theorem cP_f {c : Int32} (h1 : 48 ≤ c) (h2 : c ≤ 57) : cP false c = true := by
  have q1 := Int32.le_iff_toInt_le.mp h1
  have q2 := Int32.le_iff_toInt_le.mp h2
  have z1 : (48 : Int32).toInt = 48 := by decide
  have z2 : (57 : Int32).toInt = 57 := by decide
  show cD c = true
  unfold cD
  exact decide_eq_true (by omega)
theorem cB_y {c : Int32} (h : c = 32 ∨ c = 10) : cB c = true := by rcases h with h | h <;> (rw [h]; decide)
theorem cB_n {c : Int32} (h1 : ¬ c = 32) (h2 : ¬ c = 10) : cB c = false := by
  unfold cB
  refine decide_eq_false (fun q => ?_)
  have z1 : (32 : Int32).toInt = 32 := by decide
  have z2 : (10 : Int32).toInt = 10 := by decide
  rcases q with q | q
  · exact h1 (Int32.toInt_inj.mp (by omega))
  · exact h2 (Int32.toInt_inj.mp (by omega))
/-- a letter or digit right behind one -/
def aJ (t : Nat → Int32) (n a : Nat) : Bool := decide (a < n ∧ 0 < a) && (cL (t a) || cD (t a)) && (cL (t (a - 1)) || cD (t (a - 1)))
def own (w : Int64) : Bool := decide (w = 499967946343 ∨ w = 512970880104 ∨ w = 125793039377779 ∨ w = 422826304870 ∨ w = 2003399528 ∨ w = 512970876019 ∨ w = 444150998387 ∨ w = 474147546227 ∨ w = 1970496883 ∨ w = 439855772532 ∨ w = 1684107883 ∨ w = 1919905645 ∨ w = 27988542884245108 ∨ w = 422607680115 ∨ w = 1667329133 ∨ w = 6840676 ∨ w = 7562593 ∨ w = 1935763812 ∨ w = 6578553 ∨ w = 28530 ∨ w = 6385252 ∨ w = 7237492 ∨ w = 6384748 ∨ w = 7170414 ∨ w = 7168376)
/-- the reference's next sign -/
def AH (t : Nat → Int32) (sz p v0 : Int32) (w0 : Int64) (sg sa se vl lx : Int32) (wd : Int64) : Prop :=
  sa.toNatClampNeg = rn cB t sz.toNatClampNeg p.toNatClampNeg ∧
  ((sz ≤ sa ∧ sg = 0 ∧ se = sa ∧ vl = v0 ∧ wd = w0 ∧ lx = -1) ∨
   (sa < sz ∧ ∃ b : Bool, cP b (t sa.toNatClampNeg) = true ∧ sg = (if b = true then 1 else 2) ∧ se.toNatClampNeg = rn (cP b) t sz.toNatClampNeg sa.toNatClampNeg ∧
      ∃ l0 l1 : Int32, l0 = (if aJ t sz.toNatClampNeg sa.toNatClampNeg = true then sa else -1) ∧ (l1, wd, vl) = fT b sa t sz.toNatClampNeg 0 sa.toNatClampNeg l0 0 0 ∧
        lx = if b = true ∧ se.toNatClampNeg - sa.toNatClampNeg ≤ 8 ∧ l1 = sa + 6 ∧ own wd = true then -1 else l1) ∨
   (sa < sz ∧ cL (t sa.toNatClampNeg) = false ∧ cD (t sa.toNatClampNeg) = false ∧ sg = 3 ∧ se = sa + 1 ∧ vl = t sa.toNatClampNeg ∧ wd = 0 ∧ lx = -1))
def bI (b : Bool) : Int32 := if b = true then 1 else 0
theorem bI_t {r : Int32} {b : Bool} (h : r = bI b) (n : ¬ r = 0) : b = true := by
  cases b
  · exact absurd h n
  · rfl
theorem bI_f {r : Int32} {b : Bool} (h : r = bI b) (n : r = 0) : b = false := by
  cases b
  · rfl
  · rw [h] at n; exact absurd n (by decide)
theorem bI_1 {b : Bool} (h : b = true) : (1 : Int32) = bI b := by rw [h]; rfl
theorem bI_0 {b : Bool} (h : b = false) : (0 : Int32) = bI b := by rw [h]; rfl
theorem cL_lo {c : Int32} (h : c < 97) : cL c = false := by
  have q := Int32.lt_iff_toInt_lt.mp h
  have z : (97 : Int32).toInt = 97 := by decide
  exact decide_eq_false (by omega)
theorem cL_hi {c : Int32} (h : 122 < c) : cL c = false := by
  have q := Int32.lt_iff_toInt_lt.mp h
  have z : (122 : Int32).toInt = 122 := by decide
  exact decide_eq_false (by omega)
theorem cD_lo {c : Int32} (h : c < 48) : cD c = false := by
  have q := Int32.lt_iff_toInt_lt.mp h
  have z : (48 : Int32).toInt = 48 := by decide
  exact decide_eq_false (by omega)
theorem cD_hi {c : Int32} (h : 57 < c) : cD c = false := by
  have q := Int32.lt_iff_toInt_lt.mp h
  have z : (57 : Int32).toInt = 57 := by decide
  exact decide_eq_false (by omega)
theorem aJ_f1 {t : Nat → Int32} {n a : Nat} (h1 : cL (t a) = false) (h2 : cD (t a) = false) : aJ t n a = false := by unfold aJ; rw [h1, h2]; simp
theorem aJ_f2 {t : Nat → Int32} {n a : Nat} (h : ¬ 0 < a) : aJ t n a = false := by unfold aJ; rw [decide_eq_false (fun q => h q.2)]; simp
theorem aJ_f3 {t : Nat → Int32} {n a q q' : Nat} (e : q = a - 1) (e' : q' = a - 1) (h1 : cL (t q) = false) (h2 : cD (t q') = false) : aJ t n a = false := by subst e; subst e'; unfold aJ; rw [h1, h2]; simp
theorem aJ_t {t : Nat → Int32} {n a q : Nat} (h : a < n) (h0 : 0 < a) (h1 : (cL (t a) || cD (t a)) = true) (e : q = a - 1) (h2 : (cL (t q) || cD (t q)) = true) : aJ t n a = true := by
  subst e; unfold aJ; rw [h1, h2, decide_eq_true ⟨h, h0⟩]; rfl
theorem oL {a b : Bool} (h : a = true) : (a || b) = true := by rw [h]; rfl
theorem oR {a b : Bool} (h : b = true) : (a || b) = true := by rw [h]; cases a <;> rfl
theorem i_pred {x y : Int32} {a b : Int} (e : y = x - 1) (h : iR x a b) (k : 0 < a ∧ b < 1000000) : y.toNatClampNeg = x.toNatClampNeg - 1 := by
  have q := i_sub e h (iR_c (x := 1) (n := 1) (a := 1) (b := 1) (by decide +kernel) (by decide +kernel)) (by omega)
  have z : (1 : Int32).toInt = 1 := by decide
  have c := iR_cn h (by omega)
  have hy : iR y (a - 1) (b - 1) := by unfold iR at *; omega
  have c2 := iR_cn hy (by omega)
  omega
theorem i_posN {x : Int32} {a b : Int} (h : iR x a b) (k : 0 < a) : 0 < x.toNatClampNeg := by
  have c := iR_cn h (by omega)
  have h1 := h.1
  omega
theorem i_nposN {x : Int32} {a b : Int} (h : iR x a b) (k : 0 ≤ a ∧ b ≤ 0) : ¬ 0 < x.toNatClampNeg := by
  have c := iR_cn h k.1
  have h1 := h.2
  omega
theorem i_ltL {x : Int32} {n : Int32} {a b : Int} {m : Nat} (h : x < n) (hx : iR x a b) (k : 0 ≤ a ∧ n.toInt = (m : Int)) : x.toNatClampNeg < m := by
  have q := Int32.lt_iff_toInt_lt.mp h
  have c := iR_cn hx k.1
  omega
theorem i_geL {x : Int32} {n : Int32} {a b : Int} {m : Nat} (h : n ≤ x) (hx : iR x a b) (k : 0 ≤ a ∧ n.toInt = (m : Int)) : m ≤ x.toNatClampNeg := by
  have q := Int32.le_iff_toInt_le.mp h
  have c := iR_cn hx k.1
  omega
theorem i_toN {x n : Int32} {m : Nat} (h : x = n) (k : n.toNatClampNeg = m) : x.toNatClampNeg = m := by rw [h]; exact k
theorem i_ofN {x n : Int32} {a b : Int} {m : Nat} (q : x.toNatClampNeg = m) (hx : iR x a b) (k : 0 ≤ a ∧ n.toInt = (m : Int)) : x = n := by
  have c := iR_cn hx k.1
  exact Int32.toInt_inj.mp (by omega)
/-! the class' reader of tokens -/
def wh (x : Int32) : Bool := decide (x = 257 ∨ x = 258 ∨ 300 ≤ x)
def fK (t : Nat → Int32) (n k p : Nat) (key unit : Int64) : Int64 × Int64 := fd cL gK t n k p (key, unit)
theorem fK_s {t : Nat → Int32} {n k p : Nat} {key unit key' unit' : Int64} {X : Int64 × Int64} (h : p < n) (hb : cL (t p) = true) (e : (key', unit') = gK k (t p) (key, unit)) (o : fK t n k p key unit = X) : fK t n (k + 1) (p + 1) key' unit' = X := by
  unfold fK; rw [e]; exact (fd_s (g := gK) h hb).trans o
theorem fK_e {t : Nat → Int32} {n k p : Nat} {key unit : Int64} (h : n ≤ p ∨ cL (t p) = false) : fK t n k p key unit = (key, unit) := fd_e h
theorem gK_n {k : Nat} {c : Int32} {q : Int64 × Int64} (h : 7 ≤ k) : gK k c q = q := by unfold gK; rw [if_neg (by omega)]
theorem gK_y {k : Nat} {c : Int32} {a b : Int64} (h : k < 7) : gK k c (a, b) = (a + (c - 97 + 1).toInt64 * b, b * 27) := by unfold gK; rw [if_pos h]
def gN (k : Nat) (c v : Int32) : Int32 := if k < 4 then v * 10 + c - 48 else v
def fN (t : Nat → Int32) (n k p : Nat) (v : Int32) : Int32 := fd cD gN t n k p v
theorem fN_s {t : Nat → Int32} {n k p : Nat} {v v' X : Int32} (h : p < n) (hb : cD (t p) = true) (e : v' = gN k (t p) v) (o : fN t n k p v = X) : fN t n (k + 1) (p + 1) v' = X := by
  unfold fN; rw [e]; exact (fd_s (g := gN) h hb).trans o
theorem fN_e {t : Nat → Int32} {n k p : Nat} {v : Int32} (h : n ≤ p ∨ cD (t p) = false) : fN t n k p v = v := fd_e h
theorem gN_n {k : Nat} {c v : Int32} (h : 4 ≤ k) : gN k c v = v := by unfold gN; rw [if_neg (by omega)]
theorem gN_y {k : Nat} {c v : Int32} (h : k < 4) : gN k c v = v * 10 + c - 48 := by unfold gN; rw [if_pos h]
/-- the first place of a key among the own words' -/
def IX (g : Nat → Int64) (key : Int64) (r : Int32) : Prop := (r = -1 ∧ ∀ j, j < 25 → ¬ g j = key) ∨ (0 ≤ r ∧ r.toNatClampNeg < 25 ∧ g r.toNatClampNeg = key ∧ ∀ j, j < r.toNatClampNeg → ¬ g j = key)
/-- blame: the first fault stays -/
def BL (tok flt plc kind place tok' flt' plc' : Int32) : Prop := (flt = 0 ∧ tok' = 259 ∧ flt' = kind ∧ plc' = place) ∨ (¬ flt = 0 ∧ tok' = tok ∧ flt' = flt ∧ plc' = plc)
/-- a word is read (no fault ahead of it) -/
def XW (t : Nat → Int32) (g : Nat → Int64) (n : Nat) (s v plc p' tok' v' flt' plc' : Int32) : Prop :=
  p'.toNatClampNeg = rn cL t n s.toNatClampNeg ∧ ∃ own : Int32,
    ((own = -1 ∧ 7 < p'.toNatClampNeg - s.toNatClampNeg) ∨ (p'.toNatClampNeg - s.toNatClampNeg ≤ 7 ∧ IX g (fK t n 0 s.toNatClampNeg 0 1).1 own)) ∧
    ((0 ≤ own ∧ tok' = 300 + own ∧ v' = v ∧ flt' = 0 ∧ plc' = plc) ∨
     (own < 0 ∧ 6 < p'.toNatClampNeg - s.toNatClampNeg ∧ tok' = 259 ∧ v' = v ∧ flt' = 1 ∧ plc' = s + 6) ∨
     (own < 0 ∧ p'.toNatClampNeg - s.toNatClampNeg ≤ 6 ∧ tok' = 258 ∧ v' = (fK t n 0 s.toNatClampNeg 0 1).1.toInt32 ∧ flt' = 0 ∧ plc' = plc))
def XN (t : Nat → Int32) (n : Nat) (s v plc p' tok' v' flt' plc' : Int32) : Prop :=
  p'.toNatClampNeg = rn cD t n s.toNatClampNeg ∧
    ((4 < p'.toNatClampNeg - s.toNatClampNeg ∧ tok' = 259 ∧ v' = v ∧ flt' = 1 ∧ plc' = s + 4) ∨
     (p'.toNatClampNeg - s.toNatClampNeg ≤ 4 ∧ tok' = 257 ∧ v' = fN t n 0 s.toNatClampNeg 0 ∧ flt' = 0 ∧ plc' = plc))
/-- the token that stands at s -/
def XR (t : Nat → Int32) (g : Nat → Int64) (n : Nat) (s v plc p' tok' v' flt' plc' : Int32) : Prop :=
  (n ≤ s.toNatClampNeg ∧ p' = s ∧ tok' = 256 ∧ v' = v ∧ flt' = 0 ∧ plc' = plc) ∨
  (s.toNatClampNeg < n ∧ cL (t s.toNatClampNeg) = true ∧ XW t g n s v plc p' tok' v' flt' plc') ∨
  (s.toNatClampNeg < n ∧ cL (t s.toNatClampNeg) = false ∧ cD (t s.toNatClampNeg) = true ∧ XN t n s v plc p' tok' v' flt' plc') ∨
  (s.toNatClampNeg < n ∧ cL (t s.toNatClampNeg) = false ∧ cD (t s.toNatClampNeg) = false ∧ p' = s + 1 ∧ tok' = t s.toNatClampNeg ∧ v' = v ∧ flt' = 0 ∧ plc' = plc)
/-- the class' next token (no fault ahead of it) -/
def XT (t : Nat → Int32) (g : Nat → Int64) (n : Nat) (p tok v plc p' s' tok' v' flt' plc' : Int32) : Prop :=
  s'.toNatClampNeg = rn cB t n p.toNatClampNeg ∧ ∃ tok1 flt1 plc1 : Int32, XR t g n s' v plc p' tok1 v' flt1 plc1 ∧
    ((wh tok = true ∧ s' = p ∧ wh tok1 = true ∧ BL tok1 flt1 plc1 1 s' tok' flt' plc') ∨
     (¬ (wh tok = true ∧ s' = p ∧ wh tok1 = true) ∧ tok' = tok1 ∧ flt' = flt1 ∧ plc' = plc1))
theorem ix_s {g : Nat → Int64} {x : Int64} {k : Nat} (h : ∀ j, j < k → ¬ g j = x) (e : ¬ g k = x) : ∀ j, j < k + 1 → ¬ g j = x := by
  intro j hj
  by_cases q : j = k
  · rw [q]; exact e
  · exact h j (by omega)
theorem i_subN {x s y : Int32} {a b c d : Int} (e : y = x - s) (h : s ≤ x) (hx : iR x a b) (hs : iR s c d) (k : (0 ≤ a ∧ b < 1000000) ∧ (0 ≤ c ∧ d < 1000000)) : y.toNatClampNeg = x.toNatClampNeg - s.toNatClampNeg := by
  have q := i_sub e hx hs (by omega)
  have z := Int32.le_iff_toInt_le.mp h
  have c1 := iR_cn hx k.1.1
  have c2 := iR_cn hs k.2.1
  have hy : iR y 0 b := by unfold iR at *; omega
  have c3 := iR_cn hy (by omega)
  omega
theorem i_subS {x s : Int32} {a b c d : Int} (h : s ≤ x) (hx : iR x a b) (hs : iR s c d) (k : (0 ≤ a ∧ b < 1000000) ∧ (0 ≤ c ∧ d < 1000000)) : x.toNatClampNeg + 1 - s.toNatClampNeg = (x.toNatClampNeg - s.toNatClampNeg) + 1 := by
  have z := Int32.le_iff_toInt_le.mp h
  have c1 := iR_cn hx k.1.1
  have c2 := iR_cn hs k.2.1
  omega
theorem i_gtL {x : Int32} {n : Int32} {a b : Int} {m : Nat} (h : n < x) (hx : iR x a b) (k : 0 ≤ a ∧ n.toInt = (m : Int)) : m < x.toNatClampNeg := by
  have q := Int32.lt_iff_toInt_lt.mp h
  have c := iR_cn hx k.1
  omega
theorem i_leL9 {x : Int32} {n : Int32} {a b : Int} {m : Nat} (h : x ≤ n) (hx : iR x a b) (k : 0 ≤ a ∧ n.toInt = (m : Int)) : x.toNatClampNeg ≤ m := by
  have q := Int32.le_iff_toInt_le.mp h
  have c := iR_cn hx k.1
  omega
theorem i_leq {x y : Int32} (h : x = y) : x ≤ y := by rw [h]; exact Int32.le_refl _
def XTS (t : Nat → Int32) (g : Nat → Int64) (n : Nat) (p tok v flt plc p' s' tok' v' flt' plc' : Int32) : Prop := (¬ flt = 0 ∧ tok' = tok ∧ flt' = flt ∧ plc' = plc) ∨ (flt = 0 ∧ XT t g n p tok v plc p' s' tok' v' flt' plc')
