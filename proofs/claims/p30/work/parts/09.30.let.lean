/-! letters of names -/
theorem lN_tI {a : Nat} (h : a < 9223372036854775808) : (lN a).toInt = (a : Int) := by
  have hb : (lN a).toBitVec.toNat = a := Nat.mod_eq_of_lt (by omega)
  have q : (lN a).toBitVec.toInt = ((lN a).toBitVec.toNat : Int) := BitVec.toInt_eq_toNat_of_lt (by rw [hb]; omega)
  rw [hb] at q
  exact q
theorem shD : ∀ s, s < 48 → ((((nI s).toInt64 &&& 63).toBitVec.smod 64)).toNat = s := by decide +kernel
theorem l_shr {a s : Nat} (h : a < 9223372036854775808) (hs : s < 48) : lN a >>> ((nI s).toInt64 &&& 63) = lN (a / 2 ^ s) := by
  have hD := shD s hs
  have q : (lN a >>> ((nI s).toInt64 &&& 63)).toInt = (lN a).toInt >>> s := by
    have z : (lN a >>> ((nI s).toInt64 &&& 63)).toInt = (lN a).toInt >>> ((((nI s).toInt64 &&& 63).toBitVec.smod 64)).toNat := BitVec.toInt_sshiftRight ..
    rw [hD] at z
    exact z
  apply Int64.toInt_inj.mp
  rw [q, lN_tI h, Int.shiftRight_eq_div_pow, lN_tI (Nat.lt_of_le_of_lt (Nat.div_le_self _ _) h)]
  rfl
theorem l_and255 {a : Nat} (h : a < 9223372036854775808) : lN a &&& 255 = lN (a % 256) := by
  apply Int64.toBitVec_inj.mp
  rw [Int64.toBitVec_and]
  apply BitVec.eq_of_toNat_eq
  rw [BitVec.toNat_and]
  have e1 : (lN a).toBitVec.toNat = a := Nat.mod_eq_of_lt (by omega)
  have e2 : (255 : Int64).toBitVec.toNat = 255 := by decide
  have e3 : (lN (a % 256)).toBitVec.toNat = a % 256 := Nat.mod_eq_of_lt (by omega)
  rw [e1, e2, e3]
  exact Nat.and_two_pow_sub_one_eq_mod a 8
theorem lt_32 : ∀ x, x < 27 → (lN (x + 96)).toInt32 = nI (x + 96) ∧ nI (x + 96) - 97 + 1 = nI x := by decide +kernel
def WDL (w : Int64) (l : List Nat) : Prop := LTR l ∧ l.length ≤ 6 ∧ w = lN (wN l)
theorem LTR_take {l : List Nat} (h : LTR l) (m : Nat) : LTR (l.take m) := fun x q => h x (List.mem_of_mem_take q)
theorem tk_l {l : List Nat} {m : Nat} (h : m < l.length) : l.take (m + 1) = l.take m ++ [l.getD m 0] := tk_s l m h
theorem wN_tk {l : List Nat} (hl : LTR l) {m : Nat} (h : m < l.length) : wN (l.take (m + 1)) = (l.getD m 0 + 96) + 256 * wN (l.take m) ∧ 1 ≤ l.getD m 0 ∧ l.getD m 0 ≤ 26 := by
  rw [tk_l h, wN_app]
  refine ⟨rfl, ?_⟩
  have q : l.getD m 0 ∈ l := by
    rw [List.getD_eq_getElem?_getD, List.getElem?_eq_getElem h]
    exact List.getElem_mem h
  exact hl _ q
theorem wN_pos {l : List Nat} (hl : LTR l) {m : Nat} (h : m < l.length) : 0 < wN (l.take (m + 1)) := by
  have q := wN_tk hl h
  omega
theorem wN_6 {l : List Nat} (hl : LTR l) (h : l.length ≤ 6) (m : Nat) : wN (l.take m) < 9223372036854775808 := wN_b (LTR_take hl m) (by rw [List.length_take]; omega)
/-- the reference counts the bytes -/
def LTL (w : Int64) (n : Int32) (more : Int64) : Prop := ∀ l, WDL w l → ∃ m, m ≤ l.length ∧ n = nI m ∧ more = lN (wN (l.take (l.length - m)))
theorem LTL_0 (w : Int64) : LTL w 0 w := fun l h => ⟨0, Nat.zero_le _, rfl, by
  rw [Nat.sub_zero, List.take_length]; exact h.2.2⟩
theorem LTL_s {w : Int64} {n n' : Int32} {more more' : Int64} (h : LTL w n more) (c : (0 : Int64) < more) (en : n' = n + 1) (em : more' = more >>> ((8 : Int32).toInt64 &&& 63)) : LTL w n' more' := by
  intro l hl
  obtain ⟨m, h1, h2, h3⟩ := h l hl
  have e0 : m < l.length := by
    by_cases z : m < l.length
    · exact z
    · exfalso
      have y : l.length - m = 0 := by omega
      rw [y] at h3
      have y2 : more = 0 := h3
      rw [y2] at c
      exact absurd c (by decide)
  obtain ⟨k, hk⟩ : ∃ k, l.length - m = k + 1 := ⟨l.length - m - 1, by omega⟩
  have ek : l.length - (m + 1) = k := by omega
  refine ⟨m + 1, by omega, by rw [en, h2, nI_1], ?_⟩
  have q := wN_tk hl.1 (m := k) (by omega)
  have b := wN_6 hl.1 hl.2.1 (k + 1)
  rw [hk] at h3
  have s := l_shr (a := wN (l.take (k + 1))) (s := 8) b (by decide)
  have z8 : nI 8 = (8 : Int32) := rfl
  rw [z8] at s
  rw [em, h3, s, ek]
  congr 1
  have p : 2 ^ 8 = 256 := by decide
  rw [p]
  omega
theorem LTL_e {w : Int64} {n : Int32} {more : Int64} (h : LTL w n more) (c : more ≤ 0) {l : List Nat} (hl : WDL w l) : n = nI l.length := by
  obtain ⟨m, h1, h2, h3⟩ := h l hl
  by_cases z : m = l.length
  · rw [← z]; exact h2
  · exfalso
    obtain ⟨k, hk⟩ : ∃ k, l.length - m = k + 1 := ⟨l.length - m - 1, by omega⟩
    rw [hk] at h3
    have p := wN_pos hl.1 (m := k) (by omega)
    have b := wN_6 hl.1 hl.2.1 (k + 1)
    have q := Int64.le_iff_toInt_le.mp c
    rw [h3, lN_tI b] at q
    have z0 : (0 : Int64).toInt = 0 := by decide
    omega
theorem wN_div {l : List Nat} (hl : LTR l) : ∀ m, m ≤ l.length → wN l / 256 ^ m = wN (l.take (l.length - m))
  | 0, _ => by rw [Nat.pow_zero, Nat.div_one, Nat.sub_zero, List.take_length]
  | m + 1, h => by
    obtain ⟨k, hk⟩ : ∃ k, l.length - m = k + 1 := ⟨l.length - m - 1, by omega⟩
    have ek : l.length - (m + 1) = k := by omega
    have q := wN_tk hl (m := k) (by omega)
    rw [Nat.pow_succ, ← Nat.div_div_eq_div_mul, wN_div hl m (by omega), hk, ek]
    omega
def LTW (w : Int64) (k r : Int32) : Prop := ∀ l, WDL w l → r = nI (l.getD k.toNatClampNeg 0)
theorem LTW_0 {w more : Int64} {n k : Int32} (h : LTL w n more) (c : more ≤ 0) (hk : iR k 0 5) (d : n ≤ k) : LTW w k 0 := by
  intro l hl
  have e := LTL_e h c hl
  have cn := iR_cn hk (by decide)
  have d := Int32.le_iff_toInt_le.mp d
  have b := hl.2.1
  rw [e, nI_toInt (by omega)] at d
  have z : l.getD k.toNatClampNeg 0 = 0 := by
    rw [List.getD_eq_getElem?_getD, List.getElem?_eq_none (by omega)]; rfl
  rw [z]; rfl
theorem LTW_1 {w more : Int64} {n k a b c e f g : Int32} {x y : Int64} (h : LTL w n more) (d0 : more ≤ 0) (hk : iR k 0 5) (d : k < n) (ea : a = n - 1) (eb : b = a - k) (ec : c = 8 * b) (ex : x = w >>> (c.toInt64 &&& 63)) (ey : y = x &&& 255) (ee : e = y.toInt32) (ef : f = e - 97) (eg : g = f + 1) : LTW w k g := by
  intro l hl
  have en := LTL_e h d0 hl
  have cn := iR_cn hk (by decide)
  have d := Int32.lt_iff_toInt_lt.mp d
  have bl := hl.2.1
  rw [en, nI_toInt (by omega)] at d
  have hn : iR n 0 6 := by
    rw [en]
    refine ⟨?_, ?_⟩ <;> (rw [nI_toInt (by omega)]; omega)
  have va := i_sub ea hn (iR_c (x := 1) (n := 1) (a := 1) (b := 1) (by decide) (by decide)) (by decide)
  have ra : iR a (-1) 5 := iR_sub ea hn (iR_c (x := 1) (n := 1) (a := 1) (b := 1) (by decide) (by decide)) (by decide)
  have vb := i_sub eb ra hk (by decide)
  have z1 : (1 : Int32).toInt = 1 := by decide
  have vn : n.toInt = (l.length : Int) := by rw [en, nI_toInt (by omega)]
  obtain ⟨m, hm⟩ : ∃ m, l.length = k.toNatClampNeg + 1 + m := ⟨l.length - (k.toNatClampNeg + 1), by omega⟩
  have tb : b = nI m := by
    apply Int32.toInt_inj.mp
    rw [nI_toInt (by omega)]
    omega
  have rb : iR b 0 5 := ⟨by omega, by omega⟩
  have vc := i_mul ec (iR_c (x := 8) (n := 8) (a := 8) (b := 8) (by decide) (by decide)) rb (by decide)
  have z8 : (8 : Int32).toInt = 8 := by decide
  rw [z8] at vc
  have vb2 : b.toInt = (m : Int) := by rw [tb, nI_toInt (by omega)]
  have tc : c = nI (8 * m) := by
    apply Int32.toInt_inj.mp
    rw [nI_toInt (by omega)]
    omega
  have bw : wN l < 9223372036854775808 := wN_b hl.1 (by omega)
  have px : x = lN (wN (l.take (k.toNatClampNeg + 1))) := by
    rw [ex, tc, hl.2.2, l_shr bw (by omega)]
    congr 1
    have p : 2 ^ (8 * m) = 256 ^ m := by
      rw [Nat.pow_mul]
    rw [p, wN_div hl.1 m (by omega)]
    congr 1
    have : l.length - m = k.toNatClampNeg + 1 := by omega
    rw [this]
  have q := wN_tk hl.1 (m := k.toNatClampNeg) (by omega)
  have b6 := wN_6 hl.1 hl.2.1 (k.toNatClampNeg + 1)
  have py : y = lN (l.getD k.toNatClampNeg 0 + 96) := by
    rw [ey, px, l_and255 b6]
    congr 1
    omega
  have t := lt_32 (l.getD k.toNatClampNeg 0) (by omega)
  rw [eg, ef, ee, py, t.1, t.2]
/-- the class divides the key -/
def LTI (x i r : Int32) : Prop := 0 ≤ x.toInt → 0 ≤ r.toInt ∧ r.toInt.toNat = x.toInt.toNat / 27 ^ i.toNatClampNeg
theorem LTI_0 (x : Int32) : LTI x 0 x := by
  intro h
  have z : (0 : Int32).toNatClampNeg = 0 := by decide
  rw [z, Nat.pow_zero, Nat.div_one]
  exact ⟨h, rfl⟩
theorem LTI_s {x i i' r r' : Int32} (h : LTI x i r) (hi : iR i 0 5) (ei : i' = i + 1) (e : r' = r / 27) : LTI x i' r' := by
  intro hx
  obtain ⟨h1, h2⟩ := h hx
  have q : r'.toInt = r.toInt / 27 := i_div e (show iR r 0 2147483647 from ⟨h1, k_rhi9 r⟩) (iR_c (x := 27) (n := 27) (a := 27) (b := 27) (by decide) (by decide)) (by decide)
  refine ⟨by omega, ?_⟩
  rw [i_succ ei hi (by decide), Nat.pow_succ, ← Nat.div_div_eq_div_mul, ← h2]
  omega
def LTK (x k r : Int32) : Prop := 0 ≤ x.toInt → r.toInt = ((x.toInt.toNat / 27 ^ k.toNatClampNeg % 27 : Nat) : Int)
theorem LTK_of {x i k r y : Int32} (h : LTI x i r) (e : i = k) (ey : y = r - r / 27 * 27) : LTK x k y := by
  intro hx
  obtain ⟨h1, h2⟩ := h hx
  have q : y.toInt = r.toInt % 27 := i_rem ey (show iR r 0 2147483647 from ⟨h1, k_rhi9 r⟩) (iR_c (x := 27) (n := 27) (a := 27) (b := 27) (by decide) (by decide)) (by decide)
  rw [← e, ← h2, q]
  omega
theorem kN_get : ∀ {l : List Nat}, LTR l → ∀ k, kN l / 27 ^ k % 27 = l.getD k 0
  | [], _, k => by
    show 0 / 27 ^ k % 27 = 0
    rw [Nat.zero_div]
  | x :: l, h, 0 => by
    have q := LTR_hd h
    show (x + 27 * kN l) / 27 ^ 0 % 27 = x
    rw [Nat.pow_zero, Nat.div_one]
    omega
  | x :: l, h, k + 1 => by
    have q := LTR_hd h
    show (x + 27 * kN l) / 27 ^ (k + 1) % 27 = l.getD k 0
    have p : 27 ^ (k + 1) = 27 * 27 ^ k := by rw [Nat.pow_succ, Nat.mul_comm]
    rw [p, ← Nat.div_div_eq_div_mul]
    have e : (x + 27 * kN l) / 27 = kN l := by omega
    rw [e]
    exact kN_get (LTR_tl h) k
theorem LT_eq {v k r r' : Int32} {w : Int64} (h : NK v w) (h1 : LTK v k r) (h2 : LTW w k r') : r = r' := by
  obtain ⟨l, a1, a2, a3, a4, a5⟩ := h
  have b := kN_b6 a1 a3
  have ev : v.toInt = (kN l : Int) := by rw [a4, nI_toInt (by omega)]
  have q := h1 (by omega)
  have e2 := h2 l ⟨a1, a3, a5⟩
  have t : v.toInt.toNat = kN l := by omega
  rw [t, kN_get a1] at q
  have d : l.getD k.toNatClampNeg 0 < 27 := by
    rw [← kN_get a1]
    exact Nat.mod_lt _ (by decide)
  apply Int32.toInt_inj.mp
  rw [e2, nI_toInt (by omega), q]
/-- what letter() answers -/
def LCC (th wi kd wh k : Int32) : Prop := ((kd = 0 ∧ 0 ≤ wh.toInt ∧ wh.toInt < th.toInt) ∨ (kd = 1 ∧ 0 ≤ wh.toInt ∧ wh.toInt < wi.toInt)) ∧ 0 ≤ k.toInt ∧ k.toInt ≤ 5
def LXR (th wi : Int32) (rT rW : Nat → Int32) (kd wh k r : Int32) : Prop := (r = -1 ∧ ¬ LCC th wi kd wh k) ∨ (LCC th wi kd wh k ∧ (kd = 0 → LTK (rT wh.toNatClampNeg) k r) ∧ (kd = 1 → LTK (rW wh.toNatClampNeg) k r))
def LMR (th wi : Int32) (gT gW : Nat → Int64) (b : Nat) (kd wh k r : Int32) : Prop := (r = -1 ∧ ¬ LCC th wi kd wh k) ∨ (LCC th wi kd wh k ∧ (kd = 0 → LTW (gT (10 * b + wh.toNatClampNeg)) k r) ∧ (kd = 1 → LTW (gW (12 * b + wh.toNatClampNeg)) k r))
theorem LE_eq {th wi be th' wi' be' kd wh k r r' : Int32} {rT rW : Nat → Int32} {gT gW : Nat → Int64} {b : Nat} (hl : LVR th wi be rT rW th' wi' be' gT gW b) (ht : iR th 0 10) (hw : iR wi 0 12) (ht' : iR th' 0 10) (hw' : iR wi' 0 12) (h1 : LXR th wi rT rW kd wh k r) (h2 : LMR th' wi' gT gW b kd wh k r') : r = r' := by
  obtain ⟨en, l1, l2, l3, l4⟩ := hl
  have c1 := iR_cn ht (by decide)
  have c2 := iR_cn hw (by decide)
  have c3 := iR_cn ht' (by decide)
  have c4 := iR_cn hw' (by decide)
  have e1 : th'.toNatClampNeg = th.toNatClampNeg := by rw [← l3.1, l1.1]
  have e2 : wi'.toNatClampNeg = wi.toNatClampNeg := by rw [← l3.2.1, l1.2.1]
  have iff : LCC th' wi' kd wh k ↔ LCC th wi kd wh k := by
    unfold LCC
    have f1 : th'.toInt = th.toInt := by omega
    have f2 : wi'.toInt = wi.toInt := by omega
    rw [f1, f2]
  rcases h1 with h1 | ⟨h1, x1, x2⟩ <;> rcases h2 with h2 | ⟨h2, y1, y2⟩
  · exact h1.1.trans h2.1.symm
  · exact absurd (iff.mp h2) h1.2
  · exact absurd (iff.mpr h1) h2.2
  · rcases h1.1 with ⟨z, z1, z2⟩ | ⟨z, z1, z2⟩
    · have w := iR_cn (x := wh) (a := 0) (b := 2147483647) ⟨z1, k_rhi9 _⟩ (by decide)
      have j : wh.toNatClampNeg < en.1 := by rw [l1.1]; omega
      have nk := l1.2.2.1 _ j
      rw [← l3.2.2.1 _ j] at nk
      exact LT_eq nk (x1 z) (y1 z)
    · have w := iR_cn (x := wh) (a := 0) (b := 2147483647) ⟨z1, k_rhi9 _⟩ (by decide)
      have j : wh.toNatClampNeg < en.2.2.1 := by rw [l1.2.1]; omega
      have nk := l1.2.2.2 _ j
      rw [← l3.2.2.2 _ j] at nk
      exact LT_eq nk (x2 z) (y2 z)
theorem i_asm {a b : Int32} (h1 : a ≤ b) (h2 : b ≤ a) : a = b := by
  have q1 := Int32.le_iff_toInt_le.mp h1
  have q2 := Int32.le_iff_toInt_le.mp h2
  exact Int32.toInt_inj.mp (by omega)
section
variable {th wi kd wh k r y : Int32} {rT rW : Nat → Int32} {gT gW : Nat → Int64} {b : Nat}
theorem lx_k (h : k < 0 ∨ (5 : Int32) < k) : LXR th wi rT rW kd wh k (-1) := Or.inl ⟨rfl, fun q => by
  have z0 : (0 : Int32).toInt = 0 := by decide
  have z5 : (5 : Int32).toInt = 5 := by decide
  have q1 := q.2.1
  have q2 := q.2.2
  rcases h with h | h
  · have w := Int32.lt_iff_toInt_lt.mp h; omega
  · have w := Int32.lt_iff_toInt_lt.mp h; omega⟩
theorem lx_0 (e : kd = 0) (h : decide (0 ≤ wh ∧ wh < th) = true) (hk : iR k 0 5) (p : LTK (rT wh.toNatClampNeg) k r) : LXR th wi rT rW kd wh k r := by
  have z0 : (0 : Int32).toInt = 0 := by decide
  have q := of_decide_eq_true h
  have a := Int32.le_iff_toInt_le.mp q.1
  have c := Int32.lt_iff_toInt_lt.mp q.2
  exact Or.inr ⟨⟨Or.inl ⟨e, by omega, c⟩, hk.1, hk.2⟩, fun _ => p, fun w => by rw [e] at w; exact absurd w (by decide)⟩
theorem lx_1 (e : kd = 1) (h : decide (0 ≤ wh ∧ wh < wi) = true) (hk : iR k 0 5) (p : LTK (rW wh.toNatClampNeg) k r) : LXR th wi rT rW kd wh k r := by
  have z0 : (0 : Int32).toInt = 0 := by decide
  have q := of_decide_eq_true h
  have a := Int32.le_iff_toInt_le.mp q.1
  have c := Int32.lt_iff_toInt_lt.mp q.2
  exact Or.inr ⟨⟨Or.inr ⟨e, by omega, c⟩, hk.1, hk.2⟩, fun w => by rw [e] at w; exact absurd w (by decide), fun _ => p⟩
theorem lx_n (h0 : kd = 0 → decide (0 ≤ wh ∧ wh < th) = false) (h1 : kd = 1 → decide (0 ≤ wh ∧ wh < wi) = false) : LXR th wi rT rW kd wh k (-1) := Or.inl ⟨rfl, fun q => by
  have z0 : (0 : Int32).toInt = 0 := by decide
  rcases q.1 with ⟨e, q1, q2⟩ | ⟨e, q1, q2⟩
  · exact absurd ⟨Int32.le_iff_toInt_le.mpr (by omega), Int32.lt_iff_toInt_lt.mpr q2⟩ (of_decide_eq_false (h0 e))
  · exact absurd ⟨Int32.le_iff_toInt_le.mpr (by omega), Int32.lt_iff_toInt_lt.mpr q2⟩ (of_decide_eq_false (h1 e))⟩
theorem lm_na (h : decide (0 ≤ kd ∧ kd ≤ 1) = false) : LMR th wi gT gW b kd wh k (-1) := Or.inl ⟨rfl, fun q => by
  have w := of_decide_eq_false h
  rcases q.1 with ⟨e, -⟩ | ⟨e, -⟩
  · exact w (by rw [e]; decide)
  · exact w (by rw [e]; decide)⟩
theorem lm_nk (h : decide (0 ≤ k ∧ k ≤ 5) = false) : LMR th wi gT gW b kd wh k (-1) := Or.inl ⟨rfl, fun q => by
  have z0 : (0 : Int32).toInt = 0 := by decide
  have z5 : (5 : Int32).toInt = 5 := by decide
  have q1 := q.2.1
  have q2 := q.2.2
  exact of_decide_eq_false h ⟨Int32.le_iff_toInt_le.mpr (by omega), Int32.le_iff_toInt_le.mpr (by omega)⟩⟩
theorem lm_y {x : Int32} {c d : Int} (hx : iR x c d) (hq : 0 ≤ c ∧ d < 1000000) (ey : y = x - 1) : (0 ≤ wh ∧ wh ≤ y) ↔ (0 ≤ wh.toInt ∧ wh.toInt < x.toInt) := by
  have z0 : (0 : Int32).toInt = 0 := by decide
  have z1 : (1 : Int32).toInt = 1 := by decide
  have v := i_sub ey hx (iR_c (x := 1) (n := 1) (a := 1) (b := 1) (by decide) (by decide)) (by omega)
  rw [Int32.le_iff_toInt_le, Int32.le_iff_toInt_le]
  omega
theorem lm_n0 (h : decide (0 ≤ wh ∧ wh ≤ y) = false) (ey : y = th - 1) (ht : iR th 0 10) : LMR th wi gT gW b 0 wh k (-1) := Or.inl ⟨rfl, fun q => by
  rcases q.1 with ⟨e, q1, q2⟩ | ⟨e, q1, q2⟩
  · exact of_decide_eq_false h ((lm_y ht (by decide) ey).mpr ⟨q1, q2⟩)
  · exact absurd e (by decide)⟩
theorem lm_n1 (h : decide (0 ≤ wh ∧ wh ≤ y) = false) (ey : y = wi - 1) (ht : iR wi 0 12) : LMR th wi gT gW b 1 wh k (-1) := Or.inl ⟨rfl, fun q => by
  rcases q.1 with ⟨e, q1, q2⟩ | ⟨e, q1, q2⟩
  · exact absurd e (by decide)
  · exact of_decide_eq_false h ((lm_y ht (by decide) ey).mpr ⟨q1, q2⟩)⟩
theorem lm_0 (h : decide (0 ≤ wh ∧ wh ≤ y) = true) (ey : y = th - 1) (ht : iR th 0 10) (hk : iR k 0 5) (p : LTW (gT (10 * b + wh.toNatClampNeg)) k r) : LMR th wi gT gW b 0 wh k r :=
  Or.inr ⟨⟨Or.inl ⟨rfl, (lm_y ht (by decide) ey).mp (of_decide_eq_true h)⟩, hk.1, hk.2⟩, fun _ => p, fun w => absurd w (by decide)⟩
theorem lm_1 (h : decide (0 ≤ wh ∧ wh ≤ y) = true) (ey : y = wi - 1) (ht : iR wi 0 12) (hk : iR k 0 5) (p : LTW (gW (12 * b + wh.toNatClampNeg)) k r) : LMR th wi gT gW b 1 wh k r :=
  Or.inr ⟨⟨Or.inr ⟨rfl, (lm_y ht (by decide) ey).mp (of_decide_eq_true h)⟩, hk.1, hk.2⟩, fun w => absurd w (by decide), fun _ => p⟩
end
