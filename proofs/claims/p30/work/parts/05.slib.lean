/-! slib: numbers in ranges; what one operation does to them -/
theorem k_rlo9 (x : Int32) : (-2147483648 : Int) ≤ x.toInt := by have h := Int32.le_toInt x; omega
theorem k_rhi9 (x : Int32) : x.toInt ≤ 2147483647 := by have h := Int32.toInt_lt x; omega
def iR (x : Int32) (a b : Int) : Prop := a ≤ x.toInt ∧ x.toInt ≤ b
def lR (x : Int64) (a b : Int) : Prop := a ≤ x.toInt ∧ x.toInt ≤ b
theorem iR_top (x : Int32) : iR x (-2147483648) 2147483647 := ⟨k_rlo9 x, k_rhi9 x⟩
theorem iR_c {x : Int32} {n a b : Int} (h : x.toInt = n) (k : a ≤ n ∧ n ≤ b) : iR x a b := by
  unfold iR; rw [h]; exact k
theorem iR_w {x : Int32} {a b a' b' : Int} (h : iR x a b) (k : a' ≤ a ∧ b ≤ b') : iR x a' b' := ⟨Int.le_trans k.1 h.1, Int.le_trans h.2 k.2⟩
theorem iR_cl {P : Prop} {x : Int32} {a b : Int} (h : iR x a b) (k : b < a) : P := absurd (Int.le_trans h.1 h.2) (Int.not_le.mpr k)
theorem lR_w {x : Int64} {a b a' b' : Int} (h : lR x a b) (k : a' ≤ a ∧ b ≤ b') : lR x a' b' := ⟨Int.le_trans k.1 h.1, Int.le_trans h.2 k.2⟩
theorem lR_c {x : Int64} {n a b : Int} (h : x.toInt = n) (k : a ≤ n ∧ n ≤ b) : lR x a b := by
  unfold lR; rw [h]; exact k
/-- a number of a range is a natural one -/
theorem iR_nI {x : Int32} {a b : Int} (h : iR x a b) (k : 0 ≤ a) : x = nI x.toInt.toNat := by
  have h1 := h.1
  have h2 := k_rhi9 x
  apply Int32.toInt_inj.mp
  have e : ((x.toInt.toNat : Nat) : Int) = x.toInt := Int.toNat_of_nonneg (Int.le_trans k h1)
  rw [nI_toInt (by omega)]
  exact e.symm
theorem iR_cn {x : Int32} {a b : Int} (h : iR x a b) (k : 0 ≤ a) : ((x.toNatClampNeg : Nat) : Int) = x.toInt := by
  have h1 := h.1
  have h2 := k_rhi9 x
  have e := iR_nI h k
  have e2 : x.toNatClampNeg = x.toInt.toNat := by
    conv => lhs; rw [e]
    exact nI_clamp (by omega)
  rw [e2]; exact Int.toNat_of_nonneg (Int.le_trans k h1)
theorem iR_vp {x : Int32} {a b : Int} {n : Nat} (h : iR x a b) (k : 0 ≤ a ∧ b < (n : Int)) : vp_in x n := vp_in_iff.mpr ⟨Int.le_trans k.1 h.1, Int.lt_of_le_of_lt h.2 k.2⟩
/-- the six comparisons -/
theorem i_nlt {x y : Int32} (h : ¬ x < y) : y ≤ x := by
  rw [Int32.le_iff_toInt_le]; rw [Int32.lt_iff_toInt_lt] at h; omega
theorem i_nle {x y : Int32} (h : ¬ x ≤ y) : y < x := by
  rw [Int32.lt_iff_toInt_lt]; rw [Int32.le_iff_toInt_le] at h; omega
theorem iR_ltL {x y : Int32} {a b c d a' b' : Int} (h : x < y) (hx : iR x a b) (hy : iR y c d) (k : a' ≤ a ∧ (b ≤ b' ∨ d - 1 ≤ b')) : iR x a' b' := by
  have q := Int32.lt_iff_toInt_lt.mp h
  unfold iR at *; omega
theorem iR_ltR {x y : Int32} {a b c d c' d' : Int} (h : x < y) (hx : iR x a b) (hy : iR y c d) (k : d ≤ d' ∧ (c' ≤ c ∨ c' ≤ a + 1)) : iR y c' d' := by
  have q := Int32.lt_iff_toInt_lt.mp h
  unfold iR at *; omega
theorem iR_leL {x y : Int32} {a b c d a' b' : Int} (h : x ≤ y) (hx : iR x a b) (hy : iR y c d) (k : a' ≤ a ∧ (b ≤ b' ∨ d ≤ b')) : iR x a' b' := by
  have q := Int32.le_iff_toInt_le.mp h
  unfold iR at *; omega
theorem iR_leR {x y : Int32} {a b c d c' d' : Int} (h : x ≤ y) (hx : iR x a b) (hy : iR y c d) (k : d ≤ d' ∧ (c' ≤ c ∨ c' ≤ a)) : iR y c' d' := by
  have q := Int32.le_iff_toInt_le.mp h
  unfold iR at *; omega
theorem iR_eqL {x y : Int32} {a b c d a' b' : Int} (h : x = y) (hx : iR x a b) (hy : iR y c d) (k : (a' ≤ a ∨ a' ≤ c) ∧ (b ≤ b' ∨ d ≤ b')) : iR x a' b' := by
  subst h; unfold iR at *; omega
theorem iR_eqR {x y : Int32} {a b c d c' d' : Int} (h : x = y) (hx : iR x a b) (hy : iR y c d) (k : (c' ≤ a ∨ c' ≤ c) ∧ (b ≤ d' ∨ d ≤ d')) : iR y c' d' := by
  subst h; unfold iR at *; omega
/-- not equal to a known number that is an end of the range -/
theorem iR_neL {x y : Int32} {a b c a' b' : Int} (h : ¬ x = y) (hx : iR x a b) (hy : iR y c c) (k : (a' ≤ a ∨ (a = c ∧ a' ≤ a + 1)) ∧ (b ≤ b' ∨ (b = c ∧ b - 1 ≤ b'))) : iR x a' b' := by
  have q : ¬ x.toInt = y.toInt := fun e => h (Int32.toInt_inj.mp e)
  unfold iR at *; omega
theorem iR_neR {x y : Int32} {a b c a' b' : Int} (h : ¬ y = x) (hx : iR x a b) (hy : iR y c c) (k : (a' ≤ a ∨ (a = c ∧ a' ≤ a + 1)) ∧ (b ≤ b' ∨ (b = c ∧ b - 1 ≤ b'))) : iR x a' b' := iR_neL (fun e => h e.symm) hx hy k
/-- operations: exact, and in ranges -/
theorem i_add {y a b : Int32} {al ah bl bh : Int} (e : y = a + b) (ha : iR a al ah) (hb : iR b bl bh) (k : -2147483648 ≤ al + bl ∧ ah + bh ≤ 2147483647) : y.toInt = a.toInt + b.toInt := by
  subst e
  have q := Int32.toInt_add a b
  rw [q, Int.bmod_def]
  unfold iR at *; omega
theorem i_sub {y a b : Int32} {al ah bl bh : Int} (e : y = a - b) (ha : iR a al ah) (hb : iR b bl bh) (k : -2147483648 ≤ al - bh ∧ ah - bl ≤ 2147483647) : y.toInt = a.toInt - b.toInt := by
  subst e
  have q := Int32.toInt_sub a b
  rw [q, Int.bmod_def]
  unfold iR at *; omega
theorem iR_add {y a b : Int32} {al ah bl bh lo hi : Int} (e : y = a + b) (ha : iR a al ah) (hb : iR b bl bh) (k : lo ≤ al + bl ∧ ah + bh ≤ hi ∧ -2147483648 ≤ al + bl ∧ ah + bh ≤ 2147483647) : iR y lo hi := by
  have q := i_add e ha hb ⟨k.2.2.1, k.2.2.2⟩
  unfold iR at *; omega
theorem iR_sub {y a b : Int32} {al ah bl bh lo hi : Int} (e : y = a - b) (ha : iR a al ah) (hb : iR b bl bh) (k : lo ≤ al - bh ∧ ah - bl ≤ hi ∧ -2147483648 ≤ al - bh ∧ ah - bl ≤ 2147483647) : iR y lo hi := by
  have q := i_sub e ha hb ⟨k.2.2.1, k.2.2.2⟩
  unfold iR at *; omega
/-- a difference of which it is known that it isn't below 0 -/
theorem iR_subge {y a b : Int32} {al ah bl bh lo hi : Int} (e : y = a - b) (c : b ≤ a) (ha : iR a al ah) (hb : iR b bl bh) (k : lo ≤ 0 ∧ ah - bl ≤ hi ∧ -2147483648 ≤ al - bh ∧ ah - bl ≤ 2147483647) : iR y lo hi := by
  have q := i_sub e ha hb ⟨k.2.2.1, k.2.2.2⟩
  have r := Int32.le_iff_toInt_le.mp c
  unfold iR at *; omega
theorem i_neg {y a : Int32} {al ah : Int} (e : y = -a) (ha : iR a al ah) (k : -2147483648 < al) : y.toInt = -a.toInt := by
  subst e
  have q := Int32.toInt_neg a
  rw [q, Int.bmod_def]
  have r := k_rhi9 a
  unfold iR at *; omega
theorem iR_neg {y a : Int32} {al ah lo hi : Int} (e : y = -a) (ha : iR a al ah) (k : lo ≤ -ah ∧ -al ≤ hi ∧ -2147483648 < al) : iR y lo hi := by
  have q := i_neg e ha k.2.2
  unfold iR at *; omega
theorem i_mul {y a b : Int32} {al ah bl bh : Int} (e : y = a * b) (ha : iR a al ah) (hb : iR b bl bh) (k : 0 ≤ al ∧ 0 ≤ bl ∧ ah * bh ≤ 2147483647) : y.toInt = a.toInt * b.toInt := by
  subst e
  have q := Int32.toInt_mul a b
  unfold iR at *
  have h0 : 0 ≤ a.toInt * b.toInt := Int.mul_nonneg (by omega) (by omega)
  have h1 : a.toInt * b.toInt ≤ ah * bh := Int.mul_le_mul ha.2 hb.2 (by omega) (by omega)
  rw [q, Int.bmod_def]
  omega
theorem iR_mul {y a b : Int32} {al ah bl bh lo hi : Int} (e : y = a * b) (ha : iR a al ah) (hb : iR b bl bh) (k : 0 ≤ al ∧ 0 ≤ bl ∧ ah * bh ≤ 2147483647 ∧ lo ≤ al * bl ∧ ah * bh ≤ hi) : iR y lo hi := by
  have q := i_mul e ha hb ⟨k.1, k.2.1, k.2.2.1⟩
  unfold iR at *
  have h1 : a.toInt * b.toInt ≤ ah * bh := Int.mul_le_mul ha.2 hb.2 (by omega) (by omega)
  have h2 : al * bl ≤ a.toInt * b.toInt := Int.mul_le_mul ha.1 hb.1 (by omega) (by omega)
  omega
theorem i_div {y a b : Int32} {al ah bl bh : Int} (e : y = a / b) (ha : iR a al ah) (hb : iR b bl bh) (k : 0 ≤ al ∧ 0 < bl) : y.toInt = a.toInt / b.toInt := by
  have ea := iR_nI ha k.1
  have eb := iR_nI hb (by omega)
  have r1 := k_rhi9 a
  have r2 := k_rhi9 b
  unfold iR at *
  rw [ea, eb, pk_div (by omega) (by omega) (by omega)] at e
  have h3 : a.toInt.toNat / b.toInt.toNat ≤ a.toInt.toNat := Nat.div_le_self _ _
  rw [e, nI_toInt (by omega), Int.natCast_ediv, Int.toNat_of_nonneg (by omega), Int.toNat_of_nonneg (by omega)]
theorem iR_div {y a b : Int32} {al ah bl bh lo hi : Int} (e : y = a / b) (ha : iR a al ah) (hb : iR b bl bh) (k : 0 ≤ al ∧ 0 < bl ∧ lo ≤ 0 ∧ ah / bl ≤ hi) : iR y lo hi := by
  have q := i_div e ha hb ⟨k.1, k.2.1⟩
  unfold iR at *
  have h1 : 0 ≤ a.toInt / b.toInt := Int.ediv_nonneg (by omega) (by omega)
  have h2 : a.toInt / b.toInt ≤ ah / bl := by
    have s1 : a.toInt / b.toInt ≤ a.toInt / bl := by
      apply Int.le_ediv_of_mul_le (by omega)
      have t1 : a.toInt / b.toInt * bl ≤ a.toInt / b.toInt * b.toInt := Int.mul_le_mul_of_nonneg_left (by omega) h1
      have t2 : a.toInt / b.toInt * b.toInt ≤ a.toInt := Int.ediv_mul_le _ (by omega)
      omega
    have s2 : a.toInt / bl ≤ ah / bl := Int.ediv_le_ediv (by omega) ha.2
    omega
  omega
theorem i_rem {y a b : Int32} {al ah bl bh : Int} (e : y = a - a / b * b) (ha : iR a al ah) (hb : iR b bl bh) (k : 0 ≤ al ∧ 0 < bl) : y.toInt = a.toInt % b.toInt := by
  have ea := iR_nI ha k.1
  have eb := iR_nI hb (by omega)
  have r1 := k_rhi9 a
  have r2 := k_rhi9 b
  unfold iR at *
  rw [ea, eb, pk_rem (by omega) (by omega) (by omega)] at e
  have h3 : a.toInt.toNat % b.toInt.toNat < b.toInt.toNat := Nat.mod_lt _ (by omega)
  rw [e, nI_toInt (by omega), Int.natCast_emod, Int.toNat_of_nonneg (by omega), Int.toNat_of_nonneg (by omega)]
theorem iR_rem {y a b : Int32} {al ah bl bh lo hi : Int} (e : y = a - a / b * b) (ha : iR a al ah) (hb : iR b bl bh) (k : 0 ≤ al ∧ 0 < bl ∧ lo ≤ 0 ∧ (bh - 1 ≤ hi ∨ ah ≤ hi)) : iR y lo hi := by
  have q := i_rem e ha hb ⟨k.1, k.2.1⟩
  unfold iR at *
  have h1 : 0 ≤ a.toInt % b.toInt := Int.emod_nonneg _ (by omega)
  have h2 : a.toInt % b.toInt < b.toInt := Int.emod_lt_of_pos _ (by omega)
  have h3 : a.toInt % b.toInt ≤ a.toInt := by
    have := Int.emod_add_mul_ediv a.toInt b.toInt
    have p : 0 ≤ b.toInt * (a.toInt / b.toInt) := Int.mul_nonneg (by omega) (Int.ediv_nonneg (by omega) (by omega))
    omega
  omega
theorem i_bv {x : Int32} {a b : Int} (h : iR x a b) (k : 0 ≤ a) : ((x.toBitVec.toNat : Nat) : Int) = x.toInt := by
  have e := iR_nI h k
  have r := k_rhi9 x
  have h1 := h.1
  have e2 : x.toBitVec.toNat = x.toInt.toNat := by
    conv => lhs; rw [e]
    exact pk_tn (by omega)
  rw [e2]; exact Int.toNat_of_nonneg (Int.le_trans k h1)
theorem i_ofbv {x : Int32} (h : x.toBitVec.toNat < 2147483648) : x.toInt = ((x.toBitVec.toNat : Nat) : Int) := by
  show x.toBitVec.toInt = _
  rw [BitVec.toInt_eq_toNat_of_lt (by omega)]
theorem iR_andR {y a b : Int32} {bl bh lo hi : Int} (e : y = a &&& b) (hb : iR b bl bh) (k : 0 ≤ bl ∧ lo ≤ 0 ∧ bh ≤ hi) : iR y lo hi := by
  have hbv := i_bv hb k.1
  have r2 := k_rhi9 b
  have h1 : y.toBitVec.toNat ≤ b.toBitVec.toNat := by
    subst e
    show (a.toBitVec &&& b.toBitVec).toNat ≤ _
    rw [BitVec.toNat_and]; exact Nat.and_le_right
  have h2 := i_ofbv (x := y) (by omega)
  unfold iR at *; omega
theorem iR_andL {y a b : Int32} {al ah lo hi : Int} (e : y = a &&& b) (ha : iR a al ah) (k : 0 ≤ al ∧ lo ≤ 0 ∧ ah ≤ hi) : iR y lo hi := by
  have hbv := i_bv ha k.1
  have r2 := k_rhi9 a
  have h1 : y.toBitVec.toNat ≤ a.toBitVec.toNat := by
    subst e
    show (a.toBitVec &&& b.toBitVec).toNat ≤ _
    rw [BitVec.toNat_and]; exact Nat.and_le_left
  have h2 := i_ofbv (x := y) (by omega)
  unfold iR at *; omega
theorem iR_or {y a b : Int32} {al ah bl bh lo hi : Int} (n : Nat) (e : y = a ||| b) (ha : iR a al ah) (hb : iR b bl bh) (k : 0 ≤ al ∧ 0 ≤ bl ∧ n < 32 ∧ ah < 2 ^ n ∧ bh < 2 ^ n ∧ lo ≤ 0 ∧ 2 ^ n - 1 ≤ hi ∧ 2 ^ n ≤ (2147483648 : Int)) : iR y lo hi := by
  obtain ⟨k1, k2, k3, k4, k5, k6, k7, k8⟩ := k
  have h1 := i_bv ha k1
  have h2 := i_bv hb k2
  have p : ((2 ^ n : Nat) : Int) = (2 : Int) ^ n := by push_cast; rfl
  have h3 : y.toBitVec.toNat < 2 ^ n := by
    subst e
    show (a.toBitVec ||| b.toBitVec).toNat < _
    rw [BitVec.toNat_or]
    unfold iR at *
    exact Nat.or_lt_two_pow (by omega) (by omega)
  have h4 := i_ofbv (x := y) (by omega)
  unfold iR at *; omega
theorem iR_shl {y a b : Int32} {al ah bl bh lo hi : Int} (n : Nat) (e : y = a <<< (b &&& 31)) (ha : iR a al ah) (hb : iR b bl bh) (k : 0 ≤ al ∧ 0 ≤ bl ∧ bh ≤ (n : Int) ∧ n < 32 ∧ lo ≤ al ∧ ah * 2 ^ n ≤ hi ∧ ah * 2 ^ n ≤ 2147483647) : iR y lo hi := by
  obtain ⟨k1, k2, k3, k4, k5, k6, k7⟩ := k
  have ea := iR_nI ha k1
  have eb := iR_nI hb k2
  have r1 := k_rhi9 a
  unfold iR at *
  have hj : b.toInt.toNat < 32 := by omega
  have hs : ∀ j, j < 32 → ((nI j &&& 31).toBitVec.smod 32).toNat = j := by decide +kernel
  have hp : a.toInt.toNat * 2 ^ b.toInt.toNat ≤ a.toInt.toNat * 2 ^ n := Nat.mul_le_mul_left _ (Nat.pow_le_pow_right (by omega) (by omega))
  have hq : ((a.toInt.toNat * 2 ^ n : Nat) : Int) = a.toInt * 2 ^ n := by push_cast; rw [Int.toNat_of_nonneg (by omega)]
  have hr : a.toInt * 2 ^ n ≤ ah * 2 ^ n := Int.mul_le_mul_of_nonneg_right ha.2 (Int.pow_nonneg (by omega))
  have hz : a.toInt.toNat * 2 ^ b.toInt.toNat < 2 ^ 32 := by omega
  have hg : a.toInt.toNat ≤ a.toInt.toNat * 2 ^ b.toInt.toNat := Nat.le_mul_of_pos_right _ (Nat.pow_pos (by omega))
  rw [ea, eb, pk_shlN _ _ (hs _ hj) hz] at e
  rw [e, nI_toInt (by omega)]
  omega
theorem iR_shr {y a b : Int32} {al ah bl bh lo hi : Int} (n : Nat) (e : y = a >>> (b &&& 31)) (ha : iR a al ah) (hb : iR b bl bh) (k : 0 ≤ al ∧ (n : Int) ≤ bl ∧ bh ≤ 31 ∧ lo ≤ 0 ∧ ah / 2 ^ n ≤ hi) : iR y lo hi := by
  obtain ⟨k1, k2, k3, k4, k5⟩ := k
  have ea := iR_nI ha k1
  have eb := iR_nI hb (by omega)
  have r1 := k_rhi9 a
  unfold iR at *
  have hj : b.toInt.toNat < 32 := by omega
  have hs : ∀ j, j < 32 → ((nI j &&& 31).toBitVec.smod 32).toNat = j := by decide +kernel
  rw [ea, eb, pk_shrN (by omega) _ _ (hs _ hj)] at e
  have h1 : a.toInt.toNat / 2 ^ b.toInt.toNat ≤ a.toInt.toNat := Nat.div_le_self _ _
  have h2 : a.toInt.toNat / 2 ^ b.toInt.toNat ≤ a.toInt.toNat / 2 ^ n := Nat.div_le_div_left (Nat.pow_le_pow_right (by omega) (by omega)) (Nat.pow_pos (by omega))
  have h3 : ((a.toInt.toNat / 2 ^ n : Nat) : Int) ≤ ah / 2 ^ n := by
    rw [Int.natCast_ediv]
    push_cast
    rw [Int.toNat_of_nonneg (by omega)]
    exact Int.ediv_le_ediv (Int.pow_pos (by omega)) ha.2
  have h4 : y.toInt = ((a.toInt.toNat / 2 ^ b.toInt.toNat : Nat) : Int) := by rw [e, nI_toInt (by omega)]
  generalize a.toInt.toNat / 2 ^ b.toInt.toNat = q1 at *
  generalize a.toInt.toNat / 2 ^ n = q2 at *
  omega
/-- a shift to the right by whatever, of what isn't below 0 -/
theorem iR_shrA {y a b : Int32} {al ah lo hi : Int} (e : y = a >>> (b &&& 31)) (ha : iR a al ah) (k : 0 ≤ al ∧ lo ≤ 0 ∧ ah ≤ hi) : iR y lo hi := by
  have hm : iR (b &&& 31) 0 31 := iR_andR (y := b &&& 31) rfl (iR_c (n := 31) (a := 31) (b := 31) (by decide) (by decide)) (by decide)
  have e2 : (b &&& 31) &&& 31 = b &&& 31 := by
    apply Int32.toBitVec_inj.mp
    show (b.toBitVec &&& 31#32) &&& 31#32 = b.toBitVec &&& 31#32
    rw [BitVec.and_assoc]; congr 1
  rw [← e2] at e
  exact iR_shr 0 e ha hm ⟨k.1, by decide, by decide, k.2.1, by simpa using k.2.2⟩
/-- contents of a row in a range -/
def aR (f : Nat → Int32) (a b : Int) : Prop := ∀ x, iR (f x) a b
theorem aR_top (f : Nat → Int32) : aR f (-2147483648) 2147483647 := fun x => iR_top _
theorem aR_w {f : Nat → Int32} {a b a' b' : Int} (h : aR f a b) (k : a' ≤ a ∧ b ≤ b') : aR f a' b' := fun x => iR_w (h x) k
theorem aR_upd {f : Nat → Int32} {a b : Int} (n : Nat) {v : Int32} (h : aR f a b) (hv : iR v a b) : aR (upd f n v) a b := by
  intro x
  unfold upd
  split
  · exact hv
  · exact h x
theorem aR_const {v : Int32} {a b : Int} (hv : iR v a b) : aR (fun _ => v) a b := fun _ => hv
/-- a boolean's narrowness -/
theorem s_nz {v : Int32} (h : iR v 0 1) : narrow .boolean (.int v) = .int v := by
  have : v.toInt = 0 ∨ v.toInt = 1 := by unfold iR at h; omega
  rcases this with q | q
  · obtain rfl : v = 0 := Int32.toInt_inj.mp (q.trans (by decide))
    rfl
  · obtain rfl : v = 1 := Int32.toInt_inj.mp (q.trans (by decide))
    rfl
theorem s_fz {v : Int32} (h : iR v 0 1) : fits .boolean (.int v) = true := by
  have : v.toInt = 0 ∨ v.toInt = 1 := by unfold iR at h; omega
  rcases this with q | q
  · obtain rfl : v = 0 := Int32.toInt_inj.mp (q.trans (by decide))
    rfl
  · obtain rfl : v = 1 := Int32.toInt_inj.mp (q.trans (by decide))
    rfl
theorem s_vz {v : Int32} (h : iR v 0 1) : vp_nar .boolean v = v := by
  have : v.toInt = 0 ∨ v.toInt = 1 := by unfold iR at h; omega
  rcases this with q | q
  · obtain rfl : v = 0 := Int32.toInt_inj.mp (q.trans (by decide))
    rfl
  · obtain rfl : v = 1 := Int32.toInt_inj.mp (q.trans (by decide))
    rfl
/-- measures -/
theorem m_up {x y : Int32} {B a b : Int} {n : Nat} (hm : (B - x.toInt).toNat < n + 1) (e : y = x + 1) (hx : iR x a b) (k : b < B ∧ -2147483648 ≤ a ∧ b < 2147483647) : (B - y.toInt).toNat < n := by
  have q := i_add e hx (iR_c (x := 1) (n := 1) (a := 1) (b := 1) (by decide) (by decide)) (by omega)
  have q1 : (1 : Int32).toInt = 1 := by decide
  unfold iR at *; omega
theorem m_dn {x y : Int32} {B a b : Int} {n : Nat} (hm : (x.toInt - B).toNat < n + 1) (e : y = x + (-1)) (hx : iR x a b) (k : B < a ∧ -2147483648 < a ∧ b ≤ 2147483647) : (y.toInt - B).toNat < n := by
  have q := i_add e hx (iR_c (x := -1) (n := -1) (a := -1) (b := -1) (by decide) (by decide)) (by omega)
  have q1 : (-1 : Int32).toInt = -1 := by decide
  unfold iR at *; omega
theorem iR_of {y x : Int32} {a b : Int} (e : y = x) (h : iR x a b) : iR y a b := by subst e; exact h
/-- what a sum tells of its part -/
theorem iR_addB {y x k : Int32} {al ah kl lo hi a b : Int} (e : y = x + k) (hx : iR x al ah) (hk : iR k kl kl) (hy : iR y lo hi) (q : -2147483648 ≤ al + kl ∧ ah + kl ≤ 2147483647 ∧ (a ≤ al ∨ a ≤ lo - kl) ∧ (ah ≤ b ∨ hi - kl ≤ b)) : iR x a b := by
  have r := i_add e hx hk ⟨q.1, q.2.1⟩
  unfold iR at *; omega
theorem i_lele {x y : Int32} (h : x < y) : x ≤ y := by
  rw [Int32.le_iff_toInt_le]; rw [Int32.lt_iff_toInt_lt] at h; omega
theorem i_lenl {x y : Int32} (h : y ≤ x) : ¬ x < y := by
  rw [Int32.lt_iff_toInt_lt]; rw [Int32.le_iff_toInt_le] at h; omega
theorem i_eqnl {x y : Int32} (h : y = x) : ¬ x < y := by
  subst h; rw [Int32.lt_iff_toInt_lt]; omega
theorem i_lef {x y : Int32} {a b c d : Int} (hx : iR x a b) (hy : iR y c d) (k : b ≤ c) : x ≤ y := by
  rw [Int32.le_iff_toInt_le]; unfold iR at *; omega
theorem i_ltf {x y : Int32} {a b c d : Int} (hx : iR x a b) (hy : iR y c d) (k : b < c) : x < y := by
  rw [Int32.lt_iff_toInt_lt]; unfold iR at *; omega
theorem i_nef {x y : Int32} {a b c d : Int} (hx : iR x a b) (hy : iR y c d) (k : d < a ∨ b < c) : ¬ x = y := by
  intro e; subst e; unfold iR at *; omega
theorem i_nz {x : Int32} {a b : Int} (hx : iR x a b) (k : 0 < a) : ¬ x = 0 := by
  intro e; subst e; have q : (0 : Int32).toInt = 0 := by decide
  unfold iR at *; omega
theorem l_nz {x : Int64} {a b : Int} (hx : lR x a b) (k : 0 < a) : ¬ x = 0 := by
  intro e; subst e; have q : (0 : Int64).toInt = 0 := by decide
  unfold lR at *; omega
theorem i_eqc {x y : Int32} {a : Int} (hx : iR x a a) (hy : iR y a a) : x = y := by
  apply Int32.toInt_inj.mp; unfold iR at *; omega
theorem i_no {x : Int32} {a b k : Int} (hx : iR x a b) (c : x.toInt = k) (q : k < a ∨ b < k) : False := by
  unfold iR at *; omega
theorem i_noall (h : False) : False := h
theorem iR_max {y a b : Int32} {al ah bl bh lo hi : Int} (e : y = if a < b then b else a) (ha : iR a al ah) (hb : iR b bl bh) (k : (lo ≤ al ∨ lo ≤ bl) ∧ ah ≤ hi ∧ bh ≤ hi) : iR y lo hi := by
  subst e
  split
  · next c => have q := Int32.lt_iff_toInt_lt.mp c; unfold iR at *; omega
  · next c => have q := Int32.le_iff_toInt_le.mp (i_nlt c); unfold iR at *; omega
theorem iR_min {y a b : Int32} {al ah bl bh lo hi : Int} (e : y = if b < a then b else a) (ha : iR a al ah) (hb : iR b bl bh) (k : lo ≤ al ∧ lo ≤ bl ∧ (ah ≤ hi ∨ bh ≤ hi)) : iR y lo hi := by
  subst e
  split
  · next c => have q := Int32.lt_iff_toInt_lt.mp c; unfold iR at *; omega
  · next c => have q := Int32.le_iff_toInt_le.mp (i_nlt c); unfold iR at *; omega
/-- comparisons of longs -/
theorem l_cmpe {y : Int32} {a b : Int64} (e : y = lg_cmp a b) (c : y = 0) : a = b := by
  subst e; unfold lg_cmp at c
  split at c
  · exact absurd c (by decide)
  · split at c
    · assumption
    · exact absurd c (by decide)
theorem l_cmpe' {y : Int32} {a b : Int64} (e : y = lg_cmp a b) (c : (0 : Int32) = y) : a = b := l_cmpe e c.symm
theorem l_cmpne {y : Int32} {a b : Int64} (e : y = lg_cmp a b) (c : ¬ y = 0) : ¬ a = b := by
  intro h; subst h; apply c; rw [e]; unfold lg_cmp
  rw [if_neg (by simp), if_pos rfl]
theorem l_cmpne' {y : Int32} {a b : Int64} (e : y = lg_cmp a b) (c : ¬ (0 : Int32) = y) : ¬ a = b := l_cmpne e (fun q => c q.symm)
theorem l_cmplt {y : Int32} {a b : Int64} (e : y = lg_cmp a b) (c : y < 0) : a < b := by subst e; exact (lg_cmp_lt a b).mp c
theorem l_cmple {y : Int32} {a b : Int64} (e : y = lg_cmp a b) (c : y ≤ 0) : a ≤ b := by subst e; exact (lg_cmp_le a b).mp c
theorem l_cmpgt {y : Int32} {a b : Int64} (e : y = lg_cmp a b) (c : (0 : Int32) < y) : b < a := by subst e; exact (lg_cmp_gt a b).mp c
theorem l_cmpge {y : Int32} {a b : Int64} (e : y = lg_cmp a b) (c : (0 : Int32) ≤ y) : b ≤ a := by subst e; exact (lg_cmp_ge a b).mp c
/-- longs in ranges -/
theorem lR_i2l {y : Int64} {x : Int32} {a b : Int} (e : y = x.toInt64) (h : iR x a b) : lR y a b := by
  subst e; unfold lR; rw [Int32.toInt_toInt64]; exact h
theorem iR_l2i {y : Int32} {x : Int64} {a b : Int} (e : y = x.toInt32) (h : lR x a b) (k : -2147483648 ≤ a ∧ b ≤ 2147483647) : iR y a b := by
  subst e
  have q := Int64.toInt_toInt32 x
  unfold iR lR at *
  rw [q, Int.bmod_def]; omega
theorem l_add {y a b : Int64} {al ah bl bh : Int} (e : y = a + b) (ha : lR a al ah) (hb : lR b bl bh) (k : -9223372036854775808 ≤ al + bl ∧ ah + bh ≤ 9223372036854775807) : y.toInt = a.toInt + b.toInt := by
  subst e; have q := Int64.toInt_add a b
  rw [q, Int.bmod_def]; unfold lR at *; omega
theorem lR_add {y a b : Int64} {al ah bl bh lo hi : Int} (e : y = a + b) (ha : lR a al ah) (hb : lR b bl bh) (k : lo ≤ al + bl ∧ ah + bh ≤ hi ∧ -9223372036854775808 ≤ al + bl ∧ ah + bh ≤ 9223372036854775807) : lR y lo hi := by
  have q := l_add e ha hb ⟨k.2.2.1, k.2.2.2⟩
  unfold lR at *; omega
theorem l_sub {y a b : Int64} {al ah bl bh : Int} (e : y = a - b) (ha : lR a al ah) (hb : lR b bl bh) (k : -9223372036854775808 ≤ al - bh ∧ ah - bl ≤ 9223372036854775807) : y.toInt = a.toInt - b.toInt := by
  subst e; have q := Int64.toInt_sub a b
  rw [q, Int.bmod_def]; unfold lR at *; omega
theorem lR_sub {y a b : Int64} {al ah bl bh lo hi : Int} (e : y = a - b) (ha : lR a al ah) (hb : lR b bl bh) (k : lo ≤ al - bh ∧ ah - bl ≤ hi ∧ -9223372036854775808 ≤ al - bh ∧ ah - bl ≤ 9223372036854775807) : lR y lo hi := by
  have q := l_sub e ha hb ⟨k.2.2.1, k.2.2.2⟩
  unfold lR at *; omega
theorem lR_mul {y a b : Int64} {al ah bl bh lo hi : Int} (e : y = a * b) (ha : lR a al ah) (hb : lR b bl bh) (k : 0 ≤ al ∧ 0 ≤ bl ∧ ah * bh ≤ 9223372036854775807 ∧ lo ≤ al * bl ∧ ah * bh ≤ hi) : lR y lo hi := by
  subst e
  have q := Int64.toInt_mul a b
  obtain ⟨k1, k2, k3, k4, k5⟩ := k
  unfold lR at *
  have h1 : a.toInt * b.toInt ≤ ah * bh := Int.mul_le_mul ha.2 hb.2 (by omega) (by omega)
  have h2 : al * bl ≤ a.toInt * b.toInt := Int.mul_le_mul ha.1 hb.1 (by omega) (by omega)
  have h3 : 0 ≤ al * bl := Int.mul_nonneg k1 k2
  rw [q, Int.bmod_def]; omega
theorem lR_lN {x : Int64} {a b : Int} (h : lR x a b) (k : 0 ≤ a) : x = lN x.toInt.toNat := by
  have h1 := h.1
  have h2 := Int64.toInt_lt x
  apply Int64.toInt_inj.mp
  rw [pk_lT (by omega)]
  exact (Int.toNat_of_nonneg (Int.le_trans k h1)).symm
theorem lR_div {y a b : Int64} {al ah bl bh lo hi : Int} (e : y = a / b) (ha : lR a al ah) (hb : lR b bl bh) (k : 0 ≤ al ∧ 0 < bl ∧ lo ≤ 0 ∧ ah / bl ≤ hi) : lR y lo hi := by
  have ea := lR_lN ha k.1
  have eb := lR_lN hb (by omega)
  have r1 := Int64.toInt_lt a
  have r2 := Int64.toInt_lt b
  unfold lR at *
  rw [ea, eb, pk_lDiv (by omega) (by omega) (by omega)] at e
  have h3 : a.toInt.toNat / b.toInt.toNat ≤ a.toInt.toNat := Nat.div_le_self _ _
  have q : y.toInt = a.toInt / b.toInt := by
    rw [e, pk_lT (by omega), Int.natCast_ediv, Int.toNat_of_nonneg (by omega), Int.toNat_of_nonneg (by omega)]
  have h1 : 0 ≤ a.toInt / b.toInt := Int.ediv_nonneg (by omega) (by omega)
  have h2 : a.toInt / b.toInt ≤ ah / bl := by
    have s1 : a.toInt / b.toInt ≤ a.toInt / bl := by
      apply Int.le_ediv_of_mul_le (by omega)
      have t1 : a.toInt / b.toInt * bl ≤ a.toInt / b.toInt * b.toInt := Int.mul_le_mul_of_nonneg_left (by omega) h1
      have t2 : a.toInt / b.toInt * b.toInt ≤ a.toInt := Int.ediv_mul_le _ (by omega)
      omega
    have s2 : a.toInt / bl ≤ ah / bl := Int.ediv_le_ediv (by omega) ha.2
    omega
  omega
theorem l_rem {y a b : Int64} {al ah bl bh : Int} (e : y = a - a / b * b) (ha : lR a al ah) (hb : lR b bl bh) (k : 0 ≤ al ∧ 0 < bl) : y.toInt = a.toInt % b.toInt := by
  have ea := lR_lN ha k.1
  have eb := lR_lN hb (by omega)
  have r1 := Int64.toInt_lt a
  have r2 := Int64.toInt_lt b
  unfold lR at *
  rw [ea, eb, pk_lRem (by omega) (by omega) (by omega)] at e
  have h3 : a.toInt.toNat % b.toInt.toNat < b.toInt.toNat := Nat.mod_lt _ (by omega)
  rw [e, pk_lT (by omega), Int.natCast_emod, Int.toNat_of_nonneg (by omega), Int.toNat_of_nonneg (by omega)]
theorem lR_rem {y a b : Int64} {al ah bl bh lo hi : Int} (e : y = a - a / b * b) (ha : lR a al ah) (hb : lR b bl bh) (k : 0 ≤ al ∧ 0 < bl ∧ lo ≤ 0 ∧ (bh - 1 ≤ hi ∨ ah ≤ hi)) : lR y lo hi := by
  have q := l_rem e ha hb ⟨k.1, k.2.1⟩
  unfold lR at *
  have h1 : 0 ≤ a.toInt % b.toInt := Int.emod_nonneg _ (by omega)
  have h2 : a.toInt % b.toInt < b.toInt := Int.emod_lt_of_pos _ (by omega)
  have h3 : a.toInt % b.toInt ≤ a.toInt := by
    have := Int.emod_add_mul_ediv a.toInt b.toInt
    have p : 0 ≤ b.toInt * (a.toInt / b.toInt) := Int.mul_nonneg (by omega) (Int.ediv_nonneg (by omega) (by omega))
    omega
  omega
/-- what a method leaves: numbers, longs, rows, rows of longs, addresses -/
abbrev SU : Type := (Nat → Int32) × (Nat → Int64) × (Nat → Nat → Int32) × (Nat → Nat → Int64) × (Nat → Nat)
theorem i_ltne {x y : Int32} (h : x ≤ y) (c : ¬ x = y) : x < y := by
  have q : ¬ x.toInt = y.toInt := fun e => c (Int32.toInt_inj.mp e)
  rw [Int32.lt_iff_toInt_lt]; rw [Int32.le_iff_toInt_le] at h; omega
theorem m_bits {x y z : Int32} {n : Nat} (hm : x.toBitVec.toNat < n + 1) (e1 : y = x - 1) (e2 : z = x &&& y) (h : ¬ x = 0) : z.toBitVec.toNat < n := by
  have h1 : z.toBitVec.toNat ≤ y.toBitVec.toNat := by
    subst e2
    show (x.toBitVec &&& y.toBitVec).toNat ≤ _
    rw [BitVec.toNat_and]; exact Nat.and_le_right
  have h0 : x.toBitVec.toNat ≠ 0 := by
    intro q
    apply h
    apply Int32.toBitVec_inj.mp
    apply BitVec.eq_of_toNat_eq
    rw [q]; rfl
  have h2 : y.toBitVec.toNat = x.toBitVec.toNat - 1 := by
    subst e1
    show (x.toBitVec - 1#32).toNat = _
    rw [BitVec.toNat_sub]
    have := x.toBitVec.isLt
    simp
    omega
  omega
theorem m_shr8 {x y : Int64} {n : Nat} (hm : x.toInt.toNat < n + 1) (e : y = x >>> ((8 : Int32).toInt64 &&& 63)) (c : (0 : Int64) < x) : y.toInt.toNat < n := by
  have h0 : (0 : Int) < x.toInt := by
    have q := Int64.lt_iff_toInt_lt.mp c
    simpa using q
  have h1 : y.toInt = x.toInt / 256 := by
    have hD : ((((8 : Int32).toInt64 &&& 63).toBitVec.smod 64)).toNat = 8 := by decide
    have q : (x >>> ((8 : Int32).toInt64 &&& 63)).toInt = x.toInt >>> 8 := by
      rw [← hD]
      exact BitVec.toInt_sshiftRight ..
    rw [e, q, Int.shiftRight_eq_div_pow]; rfl
  omega
theorem m_upk {x y k : Int32} {B a b c : Int} {n : Nat} (hm : (B - x.toInt).toNat < n + 1) (e : y = x + k) (hx : iR x a b) (hk : iR k c c) (q : b < B ∧ 1 ≤ c ∧ -2147483648 ≤ a + c ∧ b + c ≤ 2147483647) : (B - y.toInt).toNat < n := by
  have r := i_add e hx hk ⟨q.2.2.1, q.2.2.2⟩
  unfold iR at *; omega
/-- a relation that goes on behind a step -/
theorem i_lestep {a x y k : Int32} {xl xh kl kh : Int} (h : a ≤ x) (e : y = x + k) (hx : iR x xl xh) (hk : iR k kl kh) (q : 0 ≤ kl ∧ -2147483648 ≤ xl + kl ∧ xh + kh ≤ 2147483647) : a ≤ y := by
  have r := i_add e hx hk ⟨q.2.1, q.2.2⟩
  rw [Int32.le_iff_toInt_le] at *
  unfold iR at *; omega
theorem i_ltstep {a x y k : Int32} {xl xh kl kh : Int} (h : a ≤ x) (e : y = x + k) (hx : iR x xl xh) (hk : iR k kl kh) (q : 0 < kl ∧ -2147483648 ≤ xl + kl ∧ xh + kh ≤ 2147483647) : a < y := by
  have r := i_add e hx hk ⟨q.2.1, q.2.2⟩
  rw [Int32.le_iff_toInt_le] at h; rw [Int32.lt_iff_toInt_lt]
  unfold iR at *; omega
theorem i_ltle {a b c : Int32} (h : a < b) (k : b ≤ c) : a < c := by
  rw [Int32.lt_iff_toInt_lt] at *; rw [Int32.le_iff_toInt_le] at k; omega
theorem i_lelt {a b c : Int32} (h : a ≤ b) (k : b < c) : a < c := by
  rw [Int32.lt_iff_toInt_lt] at *; rw [Int32.le_iff_toInt_le] at h; omega
theorem i_ltlt {a b c : Int32} (h : a < b) (k : b < c) : a < c := by
  rw [Int32.lt_iff_toInt_lt] at *; omega
theorem i_lele2 {a b c : Int32} (h : a ≤ b) (k : b ≤ c) : a ≤ c := by
  rw [Int32.le_iff_toInt_le] at *; omega
theorem i_ltle2 {a b c : Int32} (h : a < b) (k : b ≤ c) : a ≤ c := by
  rw [Int32.lt_iff_toInt_lt] at h; rw [Int32.le_iff_toInt_le] at *; omega
theorem i_ti_lt {x y : Int32} {a b : Int} (hx : x.toInt = a) (hy : y.toInt = b) (h : x < y) : a < b := by rw [← hx, ← hy]; exact Int32.lt_iff_toInt_lt.mp h
theorem i_ti_le {x y : Int32} {a b : Int} (hx : x.toInt = a) (hy : y.toInt = b) (h : x ≤ y) : a ≤ b := by rw [← hx, ← hy]; exact Int32.le_iff_toInt_le.mp h
theorem i_ti_eq {x y : Int32} {a b : Int} (hx : x.toInt = a) (hy : y.toInt = b) (h : x = y) : a = b := by rw [← hx, ← hy, h]
theorem i_ti_ne {x y : Int32} {a b : Int} (hx : x.toInt = a) (hy : y.toInt = b) (h : ¬ x = y) : ¬ a = b := by rw [← hx, ← hy]; exact fun q => h (Int32.toInt_inj.mp q)
theorem iR_top' (x b : Int32) (h : x < b) : iR x (-2147483648) 2147483646 := by
  have h1 := Int32.lt_iff_toInt_lt.mp h
  have h2 := k_rhi9 b
  exact ⟨k_rlo9 x, by omega⟩
theorem i_incle {x y b : Int32} (e : y = x + 1) (h : x < b) : y ≤ b := by
  have h1 := Int32.lt_iff_toInt_lt.mp h
  have r := i_add e (iR_top' x b h) (iR_c (x := 1) (n := 1) (a := 1) (b := 1) (by decide) (by decide)) (by decide)
  have q1 : (1 : Int32).toInt = 1 := by decide
  rw [Int32.le_iff_toInt_le]; omega
/-- two bytes of a row -/
def w2b (f : Nat → Int32) (k : Nat) : Int32 := (f k <<< ((8 : Int32) &&& 31)) ||| f (k + 1)
/-- the first n of a row are wishes (or days, where these may be) -/
def AW (f : Nat → Int32) (N n d : Int32) : Prop := ∀ k : Nat, (k : Int) < n.toInt → (0 ≤ (f k).toInt ∧ (f k).toInt < N.toInt) ∨ (¬ d = 0 ∧ f k = 255)
theorem AW_0 {f : Nat → Int32} {N d : Int32} : AW f N 0 d := by
  intro k h
  have q : (0 : Int32).toInt = 0 := by decide
  omega
theorem AW_step {f : Nat → Int32} {N k k' d : Int32} {a b : Int} (h : AW f N k d) (e : k' = k + 1) (hk : iR k a b) (q : 0 ≤ a ∧ b < 2147483647) (c : ((0 : Int32) ≤ f k.toNatClampNeg ∧ f k.toNatClampNeg < N) ∨ (¬ d = 0 ∧ f k.toNatClampNeg = 255)) : AW f N k' d := by
  have r := i_add e hk (iR_c (x := 1) (n := 1) (a := 1) (b := 1) (by decide) (by decide)) (by omega)
  have q1 : (1 : Int32).toInt = 1 := by decide
  have cn := iR_cn hk q.1
  intro j hj
  by_cases e2 : (j : Int) < k.toInt
  · exact h j e2
  · have e3 : j = k.toNatClampNeg := by omega
    subst e3
    rcases c with ⟨c1, c2⟩ | c
    · exact Or.inl ⟨by have := Int32.le_iff_toInt_le.mp c1; simpa using this, Int32.lt_iff_toInt_lt.mp c2⟩
    · exact Or.inr c
theorem AW_le {f : Nat → Int32} {N k n d : Int32} (h : AW f N k d) (c : n ≤ k) : AW f N n d := fun j hj => h j (by have := Int32.le_iff_toInt_le.mp c; omega)
theorem AW_or {f : Nat → Int32} {N n k d : Int32} {a b : Int} (h : AW f N n d) (c : k < n) (hk : iR k a b) (q : 0 ≤ a) : (f k.toNatClampNeg = 255) ∨ ((0 : Int32) ≤ f k.toNatClampNeg ∧ f k.toNatClampNeg < N) := by
  have cn := iR_cn hk q
  rcases h k.toNatClampNeg (by have := Int32.lt_iff_toInt_lt.mp c; omega) with ⟨c1, c2⟩ | c
  · exact Or.inr ⟨by rw [Int32.le_iff_toInt_le]; simpa using c1, Int32.lt_iff_toInt_lt.mpr c2⟩
  · exact Or.inl c.2
theorem AW_w {f : Nat → Int32} {N n k : Int32} {a b : Int} (h : AW f N n 0) (c : k < n) (hk : iR k a b) (q : 0 ≤ a) : (0 : Int32) ≤ f k.toNatClampNeg ∧ f k.toNatClampNeg < N := by
  have cn := iR_cn hk q
  rcases h k.toNatClampNeg (by have := Int32.lt_iff_toInt_lt.mp c; omega) with ⟨c1, c2⟩ | c
  · exact ⟨by rw [Int32.le_iff_toInt_le]; simpa using c1, Int32.lt_iff_toInt_lt.mpr c2⟩
  · exact absurd rfl c.1
theorem iR_both {x : Int32} {a b c d lo hi : Int} (h : iR x a b) (g : iR x c d) (k : (lo ≤ a ∨ lo ≤ c) ∧ (b ≤ hi ∨ d ≤ hi)) : iR x lo hi := by
  unfold iR at *; omega
/-- rows of both banks: outside of the bank n nothing has changed -/
def FRw (w : Nat) (f g : Nat → Int32) (n : Nat) : Prop := ∀ k : Nat, (k < w * n ∨ w * n + w ≤ k) → f k = g k
theorem FRw_refl {w : Nat} {f : Nat → Int32} {n : Nat} : FRw w f f n := fun _ _ => rfl
theorem FRw_tr {w : Nat} {f g h : Nat → Int32} {n : Nat} (p : FRw w f g n) (q : FRw w g h n) : FRw w f h n := fun k hk => (p k hk).trans (q k hk)
theorem FRw_upd {w : Nat} {f g : Nat → Int32} {n j : Nat} (v : Int32) (hj : w * n ≤ j ∧ j < w * n + w) (p : FRw w f g n) : FRw w (upd f j v) g n := fun k hk => by
  unfold upd
  rw [if_neg (by omega)]; exact p k hk
/-- what is left of the text -/
def TM (e s : Int32) : Int := 2 * (1600 - e.toInt) + (if s.toInt = 0 then 0 else 1)
theorem TM_nn {e s : Int32} (h : e.toInt ≤ 1600) : 0 ≤ TM e s := by unfold TM; split <;> omega
theorem ci_on {f f' c a a' : Int32} (h : 0 < f ∨ c ≤ a) (hf : 0 < f → 0 < f') (ha : a ≤ a') : 0 < f' ∨ c ≤ a' := by
  rcases h with h | h
  · exact Or.inl (hf h)
  · exact Or.inr (i_lele2 h ha)
theorem aR_upd2 {f : Nat → Int32} {a b : Int} (n : Nat) {w v : Int32} (h : aR f a b) (hv : iR v a b) : aR (upd (upd f n w) n v) a b := by
  intro x
  unfold upd
  split
  · exact hv
  · exact h x
