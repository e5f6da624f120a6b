/-! exact: rows by which the walks of the asking methods show their answers -/
theorem cn_inc {k k' : Int32} {a b : Int} (hk : iR k a b) (q : 0 ≤ a ∧ b < 2147483647) (e : k' = k + 1) : k'.toNatClampNeg = k.toNatClampNeg + 1 := by
  have r := i_add e hk (iR_c (x := 1) (n := 1) (a := 1) (b := 1) (by decide) (by decide)) (by omega)
  have q1 : (1 : Int32).toInt = 1 := by decide
  have h1 := iR_cn hk q.1
  have hk' : iR k' (a + 1) (b + 1) := by unfold iR at *; omega
  have h2 := iR_cn hk' (by omega)
  omega
theorem nI_cn {k : Int32} {a b : Int} (hk : iR k a b) (q : 0 ≤ a) : nI k.toNatClampNeg = k := by
  have h := iR_cn hk q
  have e := iR_nI hk q
  have e2 : k.toNatClampNeg = k.toInt.toNat := by omega
  rw [e2]; exact e.symm
theorem i_anti {x y : Int32} (h : x ≤ y) (k : y ≤ x) : x = y := by
  apply Int32.toInt_inj.mp
  rw [Int32.le_iff_toInt_le] at *; omega
theorem l_lenl {x y : Int64} (h : y ≤ x) : ¬ x < y := by
  rw [Int64.lt_iff_toInt_lt]; rw [Int64.le_iff_toInt_le] at h; omega
theorem wof_step {T : Nat → Int32} {b : Nat} {set k k' n n' r : Int32} {lo hi : Int} (hk : iR k lo hi) (q : 0 ≤ lo ∧ hi < 2147483647) (e : k' = k + 1) (p : n = wof T b set k.toNatClampNeg) (g : r = hof set k) (h : (r = 0 ∧ n' = n + 0) ∨ (¬ r = 0 ∧ n' = n + T (10 * b + k.toNatClampNeg))) : n' = wof T b set k'.toNatClampNeg := by
  rw [cn_inc hk q e]
  show n' = wof T b set k.toNatClampNeg + (if hof set (nI k.toNatClampNeg) = 0 then 0 else T (10 * b + k.toNatClampNeg))
  rw [nI_cn hk q.1, ← p, ← g]
  rcases h with ⟨h1, h2⟩ | ⟨h1, h2⟩
  · rw [if_pos h1]; exact h2
  · rw [if_neg h1]; exact h2
theorem bcf_step {B n n' x x' y : Int32} (c : ¬ x = 0) (p : B = n + bcf x) (e1 : y = x - 1) (e2 : x' = x &&& y) (e3 : n' = n + 1) : B = n' + bcf x' := by
  subst e1; subst e2; subst e3
  rw [p, bcf_s c, Int32.add_assoc]
theorem bcf_end {B n x : Int32} (c : x = 0) (p : B = n + bcf x) : n = B := by
  subst c
  rw [p, bcf_0, Int32.add_zero]
theorem prt_0 {s v : Int32} {e : Nat → Int32} {r : Int64} (c : s = 0) (g : r = v.toInt64) : r = prt s v e := by subst c; exact g
theorem prt_1 {s v x : Int32} {e : Nat → Int32} {r : Int64} (c : s = 1) (g : r = x.toInt64) (h : x = e 0) : r = prt s v e := by subst c; subst h; exact g
theorem prt_2 {s v x : Int32} {e : Nat → Int32} {r : Int64} (c : s = 2) (g : r = x.toInt64) (h : x = e 1) : r = prt s v e := by subst c; subst h; exact g
theorem prt_3 {s v x : Int32} {e : Nat → Int32} {r : Int64} (c : s = 3) (g : r = x.toInt64) (h : x = e 2) : r = prt s v e := by subst c; subst h; exact g
theorem prt_4 {s v x : Int32} {e : Nat → Int32} {r : Int64} (c : s = 4) (g : r = x.toInt64) (h : x = e 3) : r = prt s v e := by subst c; subst h; exact g
theorem prt_5 {s v x : Int32} {e : Nat → Int32} {r : Int64} (c : s = 5) (g : r = x.toInt64) (h : x = e 4) : r = prt s v e := by subst c; subst h; exact g
theorem prt_6 {s v x : Int32} {e : Nat → Int32} {r : Int64} (c : s = 6) (g : r = x.toInt64) (h : x = e 5) : r = prt s v e := by subst c; subst h; exact g
theorem prt_7 {s v x : Int32} {e : Nat → Int32} {r : Int64} (c : s = 7) (g : r = x.toInt64) (h : x = e 6) : r = prt s v e := by subst c; subst h; exact g
theorem prt_z {x : Int32} {r : Int64} (c : x = 0) (g : r = 0) : r = x.toInt64 := by subst c; exact g
theorem i_tine {x y : Int32} {n : Int} (h : ¬ x.toInt = n) (k : y.toInt = n) : ¬ x = y := fun e => h (by rw [e]; exact k)
theorem prt_d {s v : Int32} {e : Nat → Int32} (h : ¬ s.toInt = 0 ∧ ¬ s.toInt = 1 ∧ ¬ s.toInt = 2 ∧ ¬ s.toInt = 3 ∧ ¬ s.toInt = 4 ∧ ¬ s.toInt = 5 ∧ ¬ s.toInt = 6 ∧ ¬ s.toInt = 7) : (1 : Int64) = prt s v e := by
  obtain ⟨h0, h1, h2, h3, h4, h5, h6, h7⟩ := h
  unfold prt
  rw [if_neg (i_tine h0 (by decide)), if_neg (i_tine h1 (by decide)), if_neg (i_tine h2 (by decide)), if_neg (i_tine h3 (by decide)), if_neg (i_tine h4 (by decide)), if_neg (i_tine h5 (by decide)), if_neg (i_tine h6 (by decide)), if_neg (i_tine h7 (by decide))]
theorem hld_hi {v : Int64} (c : (1000000 : Int64) < v) : (1000000 : Int64) = hld v := by unfold hld; rw [if_pos c]
theorem hld_lo {v : Int64} (c : v ≤ (1000000 : Int64)) (d : v < (-1000000 : Int64)) : (-1000000 : Int64) = hld v := by unfold hld; rw [if_neg (l_lenl c), if_pos d]
theorem hld_md {v : Int64} (c : v ≤ (1000000 : Int64)) (d : (-1000000 : Int64) ≤ v) : v = hld v := by unfold hld; rw [if_neg (l_lenl c), if_neg (l_lenl d)]
theorem flr_0 {a b : Int64} (c : b = 0) : (0 : Int64) = flr a b := by unfold flr; rw [if_pos c]
theorem flr_q {a b q r : Int64} (hb : ¬ b = 0) (e1 : q = a / b) (e2 : r = a - a / b * b) (h : r = 0 ∨ (a < 0 ∧ b < 0) ∨ ((0 : Int64) ≤ a ∧ (0 : Int64) ≤ b)) : q = flr a b := by
  unfold flr
  rw [if_neg hb, ← e2, ← e1]
  rw [if_neg]
  rintro ⟨h1, h2⟩
  rcases h with h | ⟨h3, h4⟩ | ⟨h3, h4⟩
  · exact h1 h
  · rw [if_pos h3, if_pos h4] at h2; exact h2 rfl
  · rw [if_neg (l_lenl h3), if_neg (l_lenl h4)] at h2; exact h2 rfl
theorem flr_1 {a b q r v : Int64} (hb : ¬ b = 0) (e1 : q = a / b) (e2 : r = a - a / b * b) (e3 : v = q - 1) (hr : ¬ r = 0) (h : (a < 0 ∧ (0 : Int64) ≤ b) ∨ ((0 : Int64) ≤ a ∧ b < 0)) : v = flr a b := by
  unfold flr
  rw [if_neg hb, ← e2, ← e1, if_pos, e3]
  refine ⟨hr, ?_⟩
  rcases h with ⟨h3, h4⟩ | ⟨h3, h4⟩
  · rw [if_pos h3, if_neg (l_lenl h4)]; decide
  · rw [if_neg (l_lenl h3), if_pos h4]; decide
theorem twf_10 {s : Int32} {a b y r : Int64} (c : s = 10) (e : y = a + b) (g : r = hld y) : r = twf s a b := by subst c; subst e; exact g
theorem twf_11 {s : Int32} {a b y r : Int64} (c : s = 11) (e : y = a - b) (g : r = hld y) : r = twf s a b := by
  subst c; subst e; unfold twf
  rw [if_neg (show ¬ (11 : Int32) = 10 by decide), if_pos rfl]; exact g
theorem twf_12 {s : Int32} {a b y r : Int64} (c : s = 12) (e : y = a * b) (g : r = hld y) : r = twf s a b := by
  subst c; subst e; unfold twf
  rw [if_neg (show ¬ (12 : Int32) = 10 by decide), if_neg (show ¬ (12 : Int32) = 11 by decide), if_pos rfl]; exact g
theorem twf_13 {s : Int32} {a b y r : Int64} (c : s = 13) (e : y = flr a b) (g : r = hld y) : r = twf s a b := by
  subst c; subst e; unfold twf
  rw [if_neg (show ¬ (13 : Int32) = 10 by decide), if_neg (show ¬ (13 : Int32) = 11 by decide), if_neg (show ¬ (13 : Int32) = 12 by decide), if_pos rfl]; exact g
theorem twf_14z {s : Int32} {a b : Int64} (c : s = 14) (e : b = 0) : (0 : Int64) = twf s a b := by
  subst c
  show (0 : Int64) = if b = 0 then 0 else _
  rw [if_pos e]
theorem twf_14 {s : Int32} {a b f m y r : Int64} (c : s = 14) (hb : ¬ b = 0) (e1 : f = flr a b) (e2 : m = b * f) (e3 : y = a - m) (g : r = hld y) : r = twf s a b := by
  subst c; subst e1; subst e2; subst e3
  show r = if b = 0 then 0 else _
  rw [if_neg hb]; exact g
theorem twf_15a {s : Int32} {a b : Int64} (c : s = 15) (e : a < b) : a = twf s a b := by
  subst c
  show a = if a < b then a else b
  rw [if_pos e]
theorem twf_15b {s : Int32} {a b : Int64} (c : s = 15) (e : b ≤ a) : b = twf s a b := by
  subst c
  show b = if a < b then a else b
  rw [if_neg (l_lenl e)]
theorem twf_16a {s : Int32} {a b : Int64} (c : s = 16) (e : b < a) : a = twf s a b := by
  subst c
  show a = if b < a then a else b
  rw [if_pos e]
theorem twf_16b {s : Int32} {a b : Int64} (c : s = 16) (e : a ≤ b) : b = twf s a b := by
  subst c
  show b = if b < a then a else b
  rw [if_neg (l_lenl e)]
theorem twf_17a {s : Int32} {a b : Int64} (c : s = 17) (e : a < b) : (1 : Int64) = twf s a b := by
  subst c
  show (1 : Int64) = if a < b then 1 else 0
  rw [if_pos e]
theorem twf_17b {s : Int32} {a b : Int64} (c : s = 17) (e : b ≤ a) : (0 : Int64) = twf s a b := by
  subst c
  show (0 : Int64) = if a < b then 1 else 0
  rw [if_neg (l_lenl e)]
theorem twf_18a {s : Int32} {a b : Int64} (c : s = 18) (e : b < a) : (1 : Int64) = twf s a b := by
  subst c
  show (1 : Int64) = if b < a then 1 else 0
  rw [if_pos e]
theorem twf_18b {s : Int32} {a b : Int64} (c : s = 18) (e : a ≤ b) : (0 : Int64) = twf s a b := by
  subst c
  show (0 : Int64) = if b < a then 1 else 0
  rw [if_neg (l_lenl e)]
theorem twf_19a {s : Int32} {a b : Int64} (c : s = 19) (e : a = b) : (1 : Int64) = twf s a b := by
  subst c
  show (1 : Int64) = if a = b then 1 else 0
  rw [if_pos e]
theorem twf_19b {s : Int32} {a b : Int64} (c : s = 19) (e : ¬ a = b) : (0 : Int64) = twf s a b := by
  subst c
  show (0 : Int64) = if a = b then 1 else 0
  rw [if_neg e]
theorem twf_20 {s : Int32} {a b r : Int64} (c : s = 20) (e : r = a &&& b) : r = twf s a b := by subst c; exact e
theorem twf_d {s : Int32} {a b r : Int64} (h : ¬ s.toInt = 10 ∧ ¬ s.toInt = 11 ∧ ¬ s.toInt = 12 ∧ ¬ s.toInt = 13 ∧ ¬ s.toInt = 14 ∧ ¬ s.toInt = 15 ∧ ¬ s.toInt = 16 ∧ ¬ s.toInt = 17 ∧ ¬ s.toInt = 18 ∧ ¬ s.toInt = 19 ∧ ¬ s.toInt = 20) (e : r = a ||| b) : r = twf s a b := by
  obtain ⟨h0, h1, h2, h3, h4, h5, h6, h7, h8, h9, h10⟩ := h
  unfold twf
  rw [if_neg (i_tine h0 (by decide)), if_neg (i_tine h1 (by decide)), if_neg (i_tine h2 (by decide)), if_neg (i_tine h3 (by decide)), if_neg (i_tine h4 (by decide)), if_neg (i_tine h5 (by decide)), if_neg (i_tine h6 (by decide)), if_neg (i_tine h7 (by decide)), if_neg (i_tine h8 (by decide)), if_neg (i_tine h9 (by decide)), if_neg (i_tine h10 (by decide))]
  exact e
/-- a code of a bank, whole -/
def CD (C : Nat → Int32) (b : Nat) (x y : Int32) : Prop := 0 ≤ x.toInt ∧ x.toInt ≤ y.toInt ∧ y.toInt ≤ 1600 ∧ dpz C (1600 * b + x.toInt.toNat) (y.toInt - x.toInt).toNat = some 1
theorem SEG_cd {A B C : Nat → Int32} {n : Nat} (h : SEG A B C n 1600) (c : ¬ A n = -1) : CD C n (A n) (B n) := SEG_some h c
def RK (C V e : Nat → Int32) (b : Nat) (x y c : Int32) (S : Nat → Int64) (s : Int32) : Prop := 0 ≤ c.toInt ∧ 1600 * b + x.toInt.toNat ≤ c.toInt.toNat ∧ RI C V e (1600 * b + x.toInt.toNat) (c.toInt.toNat - (1600 * b + x.toInt.toNat)) (y.toInt - x.toInt).toNat S s.toInt
theorem RK_0 {C V e : Nat → Int32} {b : Nat} {x y c : Int32} {S : Nat → Int64} (h : CD C b x y) (hc : c.toInt = 1600 * (b : Int) + x.toInt) : RK C V e b x y c S 0 := by
  obtain ⟨h1, h2, h3, h4⟩ := h
  refine ⟨by omega, by omega, ?_⟩
  have e0 : c.toInt.toNat - (1600 * b + x.toInt.toNat) = 0 := by omega
  have e1 : (0 : Int32).toInt = 0 := by decide
  rw [e0, e1]
  exact RI_0 h4
theorem RK_s {C V e : Nat → Int32} {b : Nat} {x y c : Int32} {S : Nat → Int64} {s : Int32} (h : RK C V e b x y c S s) (hb : b ≤ 1) (hx : 0 ≤ x.toInt ∧ x.toInt ≤ 1600) (hy : x.toInt ≤ y.toInt) (hc : c.toInt < 1600 * (b : Int) + y.toInt) : c.toInt.toNat - (1600 * b + x.toInt.toNat) < (y.toInt - x.toInt).toNat ∧ 1600 * b + x.toInt.toNat + (c.toInt.toNat - (1600 * b + x.toInt.toNat)) = c.toInt.toNat := by
  obtain ⟨h1, h2, h3⟩ := h
  omega
theorem RK_part {C V e : Nat → Int32} {b : Nat} {x y c : Int32} {S : Nat → Int64} {s : Int32} (h : RK C V e b x y c S s) (hb : b ≤ 1) (hx : 0 ≤ x.toInt ∧ x.toInt ≤ 1600) (hy : x.toInt ≤ y.toInt ∧ y.toInt ≤ 1600) (hc : c.toInt < 1600 * (b : Int) + y.toInt) (hs : (C c.toInt.toNat).toInt ≤ 9) : (0 ≤ s.toInt ∧ s.toInt < 400) ∧ ∀ (c' s' : Int32) (w : Int64), c' = c + 1 → s' = s + 1 → w = prt (C c.toInt.toNat) (V c.toInt.toNat) e → RK C V e b x y c' (vp_updL S s.toInt.toNat w) s' := by
  obtain ⟨k1, k2⟩ := RK_s h hb hx hy.1 hc
  obtain ⟨h1, h2, h3⟩ := h
  have r := RI_part h3 k1 (by rw [k2]; exact hs)
  rw [k2] at r
  refine ⟨⟨r.1, r.2.1⟩, fun c' s' w ec es ew => ?_⟩
  have hcr : iR c 0 3200 := by unfold iR; omega
  have hsr : iR s 0 399 := by unfold iR; omega
  have c1 := i_add ec hcr (iR_c (x := 1) (n := 1) (a := 1) (b := 1) (by decide) (by decide)) (by decide)
  have s1 := i_add es hsr (iR_c (x := 1) (n := 1) (a := 1) (b := 1) (by decide) (by decide)) (by decide)
  have q1 : (1 : Int32).toInt = 1 := by decide
  rw [q1] at c1 s1
  refine ⟨by omega, by omega, ?_⟩
  have e2 : c'.toInt.toNat - (1600 * b + x.toInt.toNat) = c.toInt.toNat - (1600 * b + x.toInt.toNat) + 1 := by omega
  rw [e2, ew, s1]
  exact r.2.2
theorem RK_not {C V e : Nat → Int32} {b : Nat} {x y c : Int32} {S : Nat → Int64} {s : Int32} (h : RK C V e b x y c S s) (hb : b ≤ 1) (hx : 0 ≤ x.toInt ∧ x.toInt ≤ 1600) (hy : x.toInt ≤ y.toInt ∧ y.toInt ≤ 1600) (hc : c.toInt < 1600 * (b : Int) + y.toInt) (hs : (C c.toInt.toNat).toInt = 22) : (1 ≤ s.toInt ∧ s.toInt ≤ 400) ∧ ∀ (c' : Int32) (w : Int64), c' = c + 1 → w = 1 - S (s.toInt - 1).toNat → RK C V e b x y c' (vp_updL S (s.toInt - 1).toNat w) s := by
  obtain ⟨k1, k2⟩ := RK_s h hb hx hy.1 hc
  obtain ⟨h1, h2, h3⟩ := h
  have r := RI_not h3 k1 (by rw [k2]; exact hs)
  refine ⟨⟨r.1, r.2.1⟩, fun c' w ec ew => ?_⟩
  have hcr : iR c 0 3200 := by unfold iR; omega
  have c1 := i_add ec hcr (iR_c (x := 1) (n := 1) (a := 1) (b := 1) (by decide) (by decide)) (by decide)
  have q1 : (1 : Int32).toInt = 1 := by decide
  rw [q1] at c1
  refine ⟨by omega, by omega, ?_⟩
  have e2 : c'.toInt.toNat - (1600 * b + x.toInt.toNat) = c.toInt.toNat - (1600 * b + x.toInt.toNat) + 1 := by omega
  rw [e2, ew]
  exact r.2.2
theorem RK_two {C V e : Nat → Int32} {b : Nat} {x y c : Int32} {S : Nat → Int64} {s : Int32} (h : RK C V e b x y c S s) (hb : b ≤ 1) (hx : 0 ≤ x.toInt ∧ x.toInt ≤ 1600) (hy : x.toInt ≤ y.toInt ∧ y.toInt ≤ 1600) (hc : c.toInt < 1600 * (b : Int) + y.toInt) (hs : 9 < (C c.toInt.toNat).toInt) (hs2 : ¬ (C c.toInt.toNat).toInt = 22) : (2 ≤ s.toInt ∧ s.toInt ≤ 400) ∧ ∀ (c' s' : Int32) (w : Int64), c' = c + 1 → s'.toInt = s.toInt - 1 → w = twf (C c.toInt.toNat) (S (s.toInt - 2).toNat) (S (s.toInt - 1).toNat) → RK C V e b x y c' (vp_updL S (s.toInt - 2).toNat w) s' := by
  obtain ⟨k1, k2⟩ := RK_s h hb hx hy.1 hc
  obtain ⟨h1, h2, h3⟩ := h
  have r := RI_two h3 k1 (by rw [k2]; exact hs) (by rw [k2]; exact hs2)
  rw [k2] at r
  refine ⟨⟨r.1, r.2.1⟩, fun c' s' w ec es ew => ?_⟩
  have hcr : iR c 0 3200 := by unfold iR; omega
  have c1 := i_add ec hcr (iR_c (x := 1) (n := 1) (a := 1) (b := 1) (by decide) (by decide)) (by decide)
  have q1 : (1 : Int32).toInt = 1 := by decide
  rw [q1] at c1
  refine ⟨by omega, by omega, ?_⟩
  have e2 : c'.toInt.toNat - (1600 * b + x.toInt.toNat) = c.toInt.toNat - (1600 * b + x.toInt.toNat) + 1 := by omega
  rw [e2, ew, es]
  exact r.2.2
/-- what a code is -/
def rkv (C V e : Nat → Int32) (b : Nat) (x y : Int32) : Int64 := rkf C V e (1600 * b + x.toInt.toNat) (y.toInt - x.toInt).toNat
theorem RK_end {C V e : Nat → Int32} {b : Nat} {x y c : Int32} {S : Nat → Int64} {s : Int32} (h : RK C V e b x y c S s) (hd : CD C b x y) (hc : 1600 * (b : Int) + y.toInt ≤ c.toInt) : S 0 = rkv C V e b x y := by
  obtain ⟨d1, d2, d3, d4⟩ := hd
  obtain ⟨h1, h2, h3⟩ := h
  have h4 := h3.1
  have e0 : c.toInt.toNat - (1600 * b + x.toInt.toNat) = (y.toInt - x.toInt).toNat := by omega
  rw [e0] at h3
  exact RI_end h3 d4
theorem lR_bt {x y z : Int64} {a b c d : Int} (h1 : y ≤ x) (h2 : x ≤ z) (hy : lR y a b) (hz : lR z c d) : lR x a d := by
  rw [Int64.le_iff_toInt_le] at *
  unfold lR at *; omega
theorem btw_lo {v y : Int64} {l h : Int32} (e : y = l.toInt64) (c : v < y) : l = btw v l h := by subst e; unfold btw; rw [if_pos c]
theorem btw_hi {v y z : Int64} {l h : Int32} (e : y = l.toInt64) (c : y ≤ v) (e2 : z = h.toInt64) (d : z < v) : h = btw v l h := by subst e; subst e2; unfold btw; rw [if_neg (l_lenl c), if_pos d]
theorem btw_md {v y z : Int64} {l h r : Int32} (e : y = l.toInt64) (c : y ≤ v) (e2 : z = h.toInt64) (d : v ≤ z) (g : r = v.toInt32) : r = btw v l h := by subst e; subst e2; unfold btw; rw [if_neg (l_lenl c), if_neg (l_lenl d)]; exact g
/-- ROOM, CONTENT, why a wish may not be said -/
def rmf (A B C V e : Nat → Int32) (b : Nat) : Int32 := if A b = -1 then 99 else btw (rkv C V e b (A b) (B b)) 0 99
def ctf (A B C V e : Nat → Int32) (b : Nat) : Int32 := if A b = -1 then 0 else if rkv C V e b (A b) (B b) = 1 then 1 else 0
def whf (N U : Nat → Int32) (had g1 w1 r1 room cont : Int32) (k : Nat) : Int32 := if ¬ (N k &&& (had ^^^ (-1))) = 0 then 1 else if ¬ (U k &&& (had ^^^ (-1))) = 0 then 2 else if ¬ hof had g1 = 0 then 3 else if room < w1 + r1 then 4 else if ¬ cont = 0 then 5 else 0
theorem rmf_n {A B C V e : Nat → Int32} {b : Nat} (c : A b = -1) : (99 : Int32) = rmf A B C V e b := by unfold rmf; rw [if_pos c]
theorem rmf_s {A B C V e : Nat → Int32} {b : Nat} {v : Int64} {r : Int32} (c : ¬ A b = -1) (g : v = rkv C V e b (A b) (B b)) (h : r = btw v 0 99) : r = rmf A B C V e b := by unfold rmf; rw [if_neg c, ← g]; exact h
theorem ctf_n {A B C V e : Nat → Int32} {b : Nat} (c : A b = -1) : (0 : Int32) = ctf A B C V e b := by unfold ctf; rw [if_pos c]
theorem ctf_1 {A B C V e : Nat → Int32} {b : Nat} {v : Int64} (c : ¬ A b = -1) (g : v = rkv C V e b (A b) (B b)) (h : v = 1) : (1 : Int32) = ctf A B C V e b := by unfold ctf; rw [if_neg c, ← g, if_pos h]
theorem ctf_0 {A B C V e : Nat → Int32} {b : Nat} {v : Int64} (c : ¬ A b = -1) (g : v = rkv C V e b (A b) (B b)) (h : ¬ v = 1) : (0 : Int32) = ctf A B C V e b := by unfold ctf; rw [if_neg c, ← g, if_neg h]
theorem whf_1 {N U : Nat → Int32} {had g1 w1 r1 room cont x y : Int32} {k : Nat} (e1 : x = had ^^^ (-1)) (e2 : y = N k &&& x) (c : ¬ y = 0) : (1 : Int32) = whf N U had g1 w1 r1 room cont k := by subst e1; subst e2; unfold whf; rw [if_pos c]
theorem whf_2 {N U : Nat → Int32} {had g1 w1 r1 room cont x y x2 y2 : Int32} {k : Nat} (e1 : x = had ^^^ (-1)) (e2 : y = N k &&& x) (c : y = 0) (e3 : x2 = had ^^^ (-1)) (e4 : y2 = U k &&& x2) (d : ¬ y2 = 0) : (2 : Int32) = whf N U had g1 w1 r1 room cont k := by
  subst e1; subst e2; subst e3; subst e4; unfold whf
  rw [if_neg (fun q => q c), if_pos d]
theorem whf_3 {N U : Nat → Int32} {had g1 w1 r1 room cont x y x2 y2 z : Int32} {k : Nat} (e1 : x = had ^^^ (-1)) (e2 : y = N k &&& x) (c : y = 0) (e3 : x2 = had ^^^ (-1)) (e4 : y2 = U k &&& x2) (d : y2 = 0) (g : z = hof had g1) (f : ¬ z = 0) : (3 : Int32) = whf N U had g1 w1 r1 room cont k := by
  subst e1; subst e2; subst e3; subst e4; subst g; unfold whf
  rw [if_neg (fun q => q c), if_neg (fun q => q d), if_pos f]
theorem whf_4 {N U : Nat → Int32} {had g1 w1 r1 room cont x y x2 y2 z s rr : Int32} {k : Nat} (e1 : x = had ^^^ (-1)) (e2 : y = N k &&& x) (c : y = 0) (e3 : x2 = had ^^^ (-1)) (e4 : y2 = U k &&& x2) (d : y2 = 0) (g : z = hof had g1) (f : z = 0) (es : s = w1 + r1) (er : rr = room) (l : rr < s) : (4 : Int32) = whf N U had g1 w1 r1 room cont k := by
  subst e1; subst e2; subst e3; subst e4; subst g; subst es; subst er; unfold whf
  rw [if_neg (fun q => q c), if_neg (fun q => q d), if_neg (fun q => q f), if_pos l]
theorem whf_5 {N U : Nat → Int32} {had g1 w1 r1 room cont x y x2 y2 z s rr cc v : Int32} {k : Nat} (e1 : x = had ^^^ (-1)) (e2 : y = N k &&& x) (c : y = 0) (e3 : x2 = had ^^^ (-1)) (e4 : y2 = U k &&& x2) (d : y2 = 0) (g : z = hof had g1) (f : z = 0) (es : s = w1 + r1) (er : rr = room) (l : s ≤ rr) (ec : cc = cont) (h : (¬ cc = 0 ∧ v = 5) ∨ (cc = 0 ∧ v = 0)) : v = whf N U had g1 w1 r1 room cont k := by
  subst e1; subst e2; subst e3; subst e4; subst g; subst es; subst er; subst ec; unfold whf
  rw [if_neg (fun q => q c), if_neg (fun q => q d), if_neg (fun q => q f), if_neg (i_lenl l)]
  rcases h with ⟨h1, h2⟩ | ⟨h1, h2⟩
  · rw [if_pos h1]; exact h2
  · rw [if_neg (fun q => q h1)]; exact h2
/-- how many of the first n may be said -/
def mcn (F : Int32 → Int32) : Nat → Int
  | 0 => 0
  | n + 1 => mcn F n + (if F (nI n) = 0 then 1 else 0)
theorem mcn_in (F : Int32 → Int32) : ∀ n, 0 ≤ mcn F n ∧ mcn F n ≤ (n : Int)
  | 0 => ⟨Int.le_refl _, Int.le_refl _⟩
  | n + 1 => by
    have h := mcn_in F n
    show 0 ≤ mcn F n + _ ∧ mcn F n + _ ≤ _
    split <;> (push_cast; omega)
theorem mcn_mono (F : Int32 → Int32) {a : Nat} : ∀ {b : Nat}, a ≤ b → mcn F a ≤ mcn F b
  | 0, h => by have : a = 0 := by omega
               subst this; exact Int.le_refl _
  | b + 1, h => by
    by_cases c : a = b + 1
    · subst c; exact Int.le_refl _
    · have ih := mcn_mono F (a := a) (b := b) (by omega)
      show mcn F a ≤ mcn F b + _
      split <;> omega
theorem mcn_step {F : Int32 → Int32} {w w' r : Int32} {lo hi : Int} (hk : iR w lo hi) (q : 0 ≤ lo ∧ hi < 2147483647) (e : w' = w + 1) (g : r = if F w = 0 then 1 else 0) : mcn F w'.toNatClampNeg = mcn F w.toNatClampNeg + r.toInt := by
  rw [cn_inc hk q e]
  show mcn F _ + _ = _
  rw [nI_cn hk q.1, g]
  split
  · rfl
  · rfl
theorem mcn_0 {F : Int32 → Int32} : mcn F (0 : Int32).toNatClampNeg = 0 := by
  rw [show (0 : Int32).toNatClampNeg = 0 by decide]; rfl
theorem mcn_lt {F : Int32 → Int32} {n d left w N : Int32} {lo hi : Int} (hw : iR w lo hi) (q : 0 ≤ lo) (hN : n.toInt = mcn F N.toNatClampNeg) (hd : d < n) (hl : 0 ≤ left.toInt ∧ left.toInt + mcn F w.toNatClampNeg = d.toInt) (hwN : w ≤ N) : w < N := by
  rw [Int32.lt_iff_toInt_lt] at *
  rw [Int32.le_iff_toInt_le] at hwN
  by_cases c : w.toInt = N.toInt
  · have e : w = N := Int32.toInt_inj.mp c
    subst e; omega
  · omega
theorem dr_lt {r x : Int32} {y a b : Int64} {al ah xl xh : Int} (e3 : r = y.toInt32) (e2 : y = a - a / b * b) (e1 : b = x.toInt64) (ha : lR a al ah) (hx : iR x xl xh) (q : 0 ≤ al ∧ 0 < xl ∧ xh ≤ 2147483647) : r < x := by
  have hb : lR b xl xh := lR_i2l e1 hx
  have k := l_rem e2 ha hb ⟨q.1, q.2.1⟩
  have hb2 : b.toInt = x.toInt := by subst e1; exact Int32.toInt_toInt64 x
  unfold iR lR at *
  have h1 : 0 ≤ a.toInt % b.toInt := Int.emod_nonneg _ (by omega)
  have h2 : a.toInt % b.toInt < b.toInt := Int.emod_lt_of_pos _ (by omega)
  rw [Int32.lt_iff_toInt_lt, e3, Int64.toInt_toInt32, k, Int.bmod_def]
  omega
/-- the turns that are gone through: what is left of them -/
def sv1 (f : Nat → Int32) (a t k : Int) (j : Nat) (w : Int) : Int := if a ≤ k ∧ k ≤ t then (15 - (f j).toInt) * w else 0
def svm (f : Nat → Int32) (a t : Int) : Int := sv1 f a t 0 0 4096 + sv1 f a t 1 1 256 + sv1 f a t 2 2 16 + sv1 f a t 3 3 1
/-- what an offer leaves -/
def OFF (g g' : Nat → Int32) (k : Nat) (w : Int32) : Prop := (g' = g ∧ ¬ (g k).toInt = -1) ∨ g' = upd g k w
def SVI (f g : Nat → Int32) (N : Int) (a t : Int) : Prop :=
  (∀ j : Nat, a ≤ (j : Int) → (j : Int) ≤ t → 0 ≤ (f j).toInt ∧ (f j).toInt ≤ N + 1) ∧
  (∀ j : Nat, a ≤ (j : Int) → (j : Int) < t → 1 ≤ (f j).toInt) ∧
  (a = t → (f a.toNat).toInt = 0 ∨ 0 ≤ (g a.toNat).toInt) ∧ (t < a → 0 ≤ (g a.toNat).toInt) ∧ (g a.toNat).toInt ≤ N ∧ 0 ≤ N ∧ 0 ≤ a
theorem OFF_at {g g' : Nat → Int32} {k : Nat} {w : Int32} (h : OFF g g' k w) (hg : aR g (-1) 12) (hw : 0 ≤ w.toInt) : 0 ≤ (g' k).toInt := by
  rcases h with ⟨rfl, h⟩ | rfl
  · have := (hg k).1; omega
  · unfold upd; rw [if_pos rfl]; exact hw
theorem OFF_le {g g' : Nat → Int32} {k a : Nat} {w : Int32} {N : Int} (h : OFF g g' k w) (hg : (g a).toInt ≤ N) (hw : w.toInt ≤ N) : (g' a).toInt ≤ N := by
  rcases h with ⟨rfl, h⟩ | rfl
  · exact hg
  · unfold upd; split
    · exact hw
    · exact hg
theorem OFF_ge {g g' : Nat → Int32} {k a : Nat} {w : Int32} (h : OFF g g' k w) (hg : 0 ≤ (g a).toInt) (hw : 0 ≤ w.toInt) : 0 ≤ (g' a).toInt := by
  rcases h with ⟨rfl, h⟩ | rfl
  · exact hg
  · unfold upd; split
    · exact hw
    · exact hg
theorem SVI_0 {f g : Nat → Int32} {N a : Int} {k : Nat} {z o : Int32} (hk : (k : Int) = a) (hz : z.toInt = 0) (ho : o.toInt = -1) (hN : 0 ≤ N) : SVI (upd f k z) (upd g k o) N a a := by
  subst hk
  refine ⟨fun j h1 h2 => ?_, fun j h1 h2 => by omega, fun _ => Or.inl ?_, fun h => by omega, ?_, hN, by omega⟩
  · have e : j = k := by omega
    subst e; rw [i_upeq]; omega
  · rw [show ((k : Int)).toNat = k by omega, i_upeq]; exact hz
  · rw [show ((k : Int)).toNat = k by omega, i_upeq]; omega
theorem SVI_f {f g : Nat → Int32} {N a t : Int} {k : Nat} (h : SVI f g N a t) (hk : (k : Int) = t) (c : a ≤ t) : 0 ≤ (f k).toInt ∧ (f k).toInt ≤ N + 1 := h.1 k (by omega) (by omega)
theorem SVI_stay {f g g' : Nat → Int32} {N a t : Int} {k : Nat} {w w' : Int32} (h : SVI f g N a t) (hk : (k : Int) = t) (c : a ≤ t) (ho : OFF g g' k w) (hg : aR g (-1) 12) (hw : 0 ≤ w.toInt ∧ w.toInt ≤ N) (e : w'.toInt = w.toInt + 1) : SVI (upd f k w') g' N a t := by
  obtain ⟨h1, h2, h3, h4, h5, h6, h7⟩ := h
  refine ⟨fun j q1 q2 => ?_, fun j q1 q2 => ?_, fun q => Or.inr ?_, fun q => by omega, OFF_le ho h5 hw.2, h6, h7⟩
  · by_cases cj : j = k
    · subst cj; rw [i_upeq]; omega
    · rw [i_upne cj]; exact h1 j q1 q2
  · rw [i_upne (by omega)]; exact h2 j q1 q2
  · rw [show a.toNat = k by omega]; exact OFF_at ho hg hw.1
theorem SVI_down {f g : Nat → Int32} {N a t : Int} {k k' : Nat} {w' z o : Int32} (h : SVI f g N a t) (hk : (k : Int) = t) (hk' : (k' : Int) = t + 1) (c : a ≤ t) (hw : 1 ≤ w'.toInt ∧ w'.toInt ≤ N + 1) (hz : z.toInt = 0) : SVI (upd (upd f k w') k' z) (upd g k' o) N a (t + 1) := by
  obtain ⟨h1, h2, h3, h4, h5, h6, h7⟩ := h
  refine ⟨fun j q1 q2 => ?_, fun j q1 q2 => ?_, fun q => by omega, fun q => by omega, ?_, h6, h7⟩
  · by_cases cj : j = k'
    · subst cj; rw [i_upeq]; omega
    · rw [i_upne cj]
      by_cases cj2 : j = k
      · subst cj2; rw [i_upeq]; omega
      · rw [i_upne cj2]; exact h1 j q1 (by omega)
  · rw [i_upne (by omega)]
    by_cases cj2 : j = k
    · subst cj2; rw [i_upeq]; omega
    · rw [i_upne cj2]; exact h2 j q1 (by omega)
  · rw [i_upne (by omega)]; exact h5
theorem SVI_pop {f g g' : Nat → Int32} {N a t : Int} {k k' : Nat} {w' v : Int32} (h : SVI f g N a t) (hk : (k : Int) = t) (hk' : (k' : Int) = t - 1) (c : a ≤ t - 1) (ho : OFF g g' k' v) (hg : aR g (-1) 12) (hv : v.toInt = (upd f k w' k').toInt - 1) : SVI (upd f k w') g' N a (t - 1) := by
  obtain ⟨h1, h2, h3, h4, h5, h6, h7⟩ := h
  have e := h1 k' (by omega) (by omega)
  have e2 := h2 k' (by omega) (by omega)
  rw [i_upne (by omega)] at hv
  refine ⟨fun j q1 q2 => ?_, fun j q1 q2 => ?_, fun q => Or.inr ?_, fun q => by omega, OFF_le ho h5 (by omega), h6, h7⟩
  · rw [i_upne (by omega)]; exact h1 j q1 (by omega)
  · rw [i_upne (by omega)]; exact h2 j q1 (by omega)
  · rw [show a.toNat = k' by omega]; exact OFF_at ho hg (by omega)
theorem SVI_popv {f g : Nat → Int32} {N a t : Int} {k k' : Nat} {w' : Int32} (h : SVI f g N a t) (hk : (k : Int) = t) (hk' : (k' : Int) = t - 1) (c : a ≤ t - 1) : 1 ≤ (upd f k w' k').toInt ∧ (upd f k w' k').toInt ≤ N + 1 := by
  obtain ⟨h1, h2, -⟩ := h
  have e := h1 k' (by omega) (by omega)
  have e2 := h2 k' (by omega) (by omega)
  rw [i_upne (by omega)]
  omega
theorem SVI_out {f g : Nat → Int32} {N a t : Int} {k : Nat} {w' : Int32} (h : SVI f g N a t) (hk : (k : Int) = t) (c : t - 1 < a) (c2 : a ≤ t) (hf : N < (f k).toInt) : SVI (upd f k w') g N a (t - 1) := by
  obtain ⟨h1, h2, h3, h4, h5, h6, h7⟩ := h
  have e : a = t := by omega
  refine ⟨fun j q1 q2 => by omega, fun j q1 q2 => by omega, fun q => by omega, fun q => ?_, h5, h6, h7⟩
  have e3 : a.toNat = k := by omega
  rw [e3] at h3 ⊢
  rcases h3 e with q2 | q2
  · omega
  · exact q2
theorem svm_nn {f g : Nat → Int32} {N a t : Int} (h : SVI f g N a t) (hN : N ≤ 12) : 0 ≤ svm f a t := by
  obtain ⟨h1, -⟩ := h
  have e0 := h1 0
  have e1 := h1 1
  have e2 := h1 2
  have e3 := h1 3
  unfold svm sv1
  (repeat' split) <;> omega
theorem svm_pos {f g : Nat → Int32} {N a t : Int} (h : SVI f g N a t) (hN : N ≤ 12) (c : a ≤ t) (ht : t ≤ 3) : 1 ≤ svm f a t := by
  obtain ⟨h1, -, -, -, -, -, h7⟩ := h
  have e0 := h1 0
  have e1 := h1 1
  have e2 := h1 2
  have e3 := h1 3
  have k : t = 0 ∨ t = 1 ∨ t = 2 ∨ t = 3 := by omega
  rcases k with rfl | rfl | rfl | rfl <;> (unfold svm sv1; (repeat' split) <;> omega)
theorem svm_stay {f : Nat → Int32} {a t : Int} {k : Nat} {w' : Int32} (hk : (k : Int) = t) (c : a ≤ t) (ht : 0 ≤ a ∧ t ≤ 3) (hw : (f k).toInt < w'.toInt) : svm (upd f k w') a t < svm f a t := by
  have hk4 : k = 0 ∨ k = 1 ∨ k = 2 ∨ k = 3 := by omega
  rcases hk4 with rfl | rfl | rfl | rfl <;> (unfold svm sv1 upd; simp only [if_pos, if_neg, Nat.reduceEqDiff, reduceIte, Nat.zero_ne_one, Nat.one_ne_zero, Nat.succ_ne_zero]; (repeat' split) <;> omega)
theorem svm_pop {f : Nat → Int32} {a t : Int} {k : Nat} {w' : Int32} (hk : (k : Int) = t) (c : a ≤ t) (ht : 0 ≤ a ∧ t ≤ 3) (hw : (f k).toInt ≤ 14) : svm (upd f k w') a (t - 1) < svm f a t := by
  have hk4 : k = 0 ∨ k = 1 ∨ k = 2 ∨ k = 3 := by omega
  rcases hk4 with rfl | rfl | rfl | rfl <;> (unfold svm sv1 upd; simp only [if_pos, if_neg, Nat.reduceEqDiff, reduceIte, Nat.zero_ne_one, Nat.one_ne_zero, Nat.succ_ne_zero]; (repeat' split) <;> omega)
theorem svm_down {f : Nat → Int32} {a t : Int} {k k' : Nat} {w' z : Int32} (hk : (k : Int) = t) (hk' : (k' : Int) = t + 1) (c : a ≤ t) (ht : 0 ≤ a ∧ t ≤ 2) (hw : (f k).toInt < w'.toInt) (hz : z.toInt = 0) : svm (upd (upd f k w') k' z) a (t + 1) < svm f a t := by
  have hk4 : k = 0 ∨ k = 1 ∨ k = 2 := by omega
  have e : k' = k + 1 := by omega
  subst e
  rcases hk4 with rfl | rfl | rfl <;> (unfold svm sv1 upd; simp only [Nat.zero_add, Nat.reduceAdd, if_pos, if_neg, Nat.reduceEqDiff, reduceIte, Nat.zero_ne_one, Nat.one_ne_zero, Nat.succ_ne_zero]; (repeat' split) <;> omega)
theorem iR_u {f : Nat → Int32} {k j : Nat} {v : Int32} (h : j ≠ k) : upd f k v j = f j := by unfold upd; rw [if_neg h]
/-- whether a wish may be said: 0, and it may -/
def myf (T14 T15 T16 T19 T20 T21 T22 A1 B1 A2 B2 C V : Nat → Int32) (b had sea said day w : Int32) : Int32 :=
  whf T21 T22 had (T20 (12 * b.toNatClampNeg + w.toNatClampNeg)) (T19 (12 * b.toNatClampNeg + w.toNatClampNeg)) (T16 (10 * b.toNatClampNeg + (T20 (12 * b.toNatClampNeg + w.toNatClampNeg)).toNatClampNeg)) (rmf A1 B1 C V (envf T14 T15 T16 T19 T20 b had sea said day (-1)) b.toNatClampNeg) (ctf A2 B2 C V (envf T14 T15 T16 T19 T20 b had sea said day (-1)) b.toNatClampNeg) (12 * b.toNatClampNeg + w.toNatClampNeg)
