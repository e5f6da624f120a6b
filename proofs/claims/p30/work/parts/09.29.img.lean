/-! the live shore of both -/
def FRl (w : Nat) (f g : Nat → Int64) (n : Nat) : Prop := ∀ k : Nat, (k < w * n ∨ w * n + w ≤ k) → f k = g k
theorem FRl_refl {w : Nat} {f : Nat → Int64} {n : Nat} : FRl w f f n := fun _ _ => rfl
theorem FRl_tr {w : Nat} {f g h : Nat → Int64} {n : Nat} (p : FRl w f g n) (q : FRl w g h n) : FRl w f h n := fun k hk => (p k hk).trans (q k hk)
theorem FRl_upd {w : Nat} {f g : Nat → Int64} {n j : Nat} (v : Int64) (hj : w * n ≤ j ∧ j < w * n + w) (p : FRl w f g n) : FRl w (vp_updL f j v) g n := fun k hk => by
  show (if k = j then v else f k) = g k
  rw [if_neg (by omega)]; exact p k hk
def LVM (r th wi be : Int32) (gT gW : Nat → Int64) (b : Nat) (th' wi' be' : Int32) (gT' gW' : Nat → Int64) (b' : Nat) : Prop := r = -1 → b' = b ∧ th' = th ∧ wi' = wi ∧ be' = be ∧ (∀ j, j < 10 → gT' (10 * b + j) = gT (10 * b + j)) ∧ (∀ j, j < 12 → gW' (12 * b + j) = gW (12 * b + j))
theorem LVM_of {r : Int32} {F14 f14 F18 f18 F30 f30 : Nat → Int32} {G34 g34 G35 g35 : Nat → Int64} {b n : Nat} (hb : b + n = 1) (h1 : FRw 1 F14 f14 n) (h2 : FRw 1 F18 f18 n) (h3 : FRw 1 F30 f30 n) (h4 : FRl 10 G34 g34 n) (h5 : FRl 12 G35 g35 n) : LVM r (f14 b) (f18 b) (f30 b) g34 g35 b (F14 b) (F18 b) (F30 b) G34 G35 b :=
  fun _ => ⟨rfl, h1 b (by omega), h2 b (by omega), h3 b (by omega), fun j hj => h4 _ (by omega), fun j hj => h5 _ (by omega)⟩
def LVX (r th wi be : Int32) (rT rW : Nat → Int32) (th' wi' be' : Int32) (rT' rW' : Nat → Int32) : Prop := r = -1 → th' = th ∧ wi' = wi ∧ be' = be ∧ rT' = rT ∧ rW' = rW
def LVR (th wi be : Int32) (rT rW : Nat → Int32) (th' wi' be' : Int32) (gT gW : Nat → Int64) (b : Nat) : Prop := ∃ en : EN, NMS en th wi rT rW ∧ be = en.2.2.2.2.2.2.2.2 ∧ RMN en th' wi' gT gW b ∧ be' = en.2.2.2.2.2.2.2.2
theorem LVR_0 {th wi be : Int32} {rT rW : Nat → Int32} {th' wi' be' : Int32} {gT gW : Nat → Int64} {b : Nat} (e1 : th = 0) (e2 : wi = 0) (e3 : be = 100) (e4 : th' = 0) (e5 : wi' = 0) (e6 : be' = 100) : LVR th wi be rT rW th' wi' be' gT gW b := by
  have z : (0 : Int32).toNatClampNeg = 0 := by decide
  refine ⟨en0, ⟨by rw [e1]; exact z.symm, by rw [e2]; exact z.symm, fun j hj => absurd hj (Nat.not_lt_zero _), fun j hj => absurd hj (Nat.not_lt_zero _)⟩, e3, ⟨by rw [e4]; exact z.symm, by rw [e5]; exact z.symm, fun j hj => absurd hj (Nat.not_lt_zero _), fun j hj => absurd hj (Nat.not_lt_zero _)⟩, e6⟩
theorem LVR_s {r r' th wi be th' wi' be' th2 wi2 be2 th2' wi2' be2' fb fb' dF rF cF : Int32} {rT rW rT2 rW2 cf ct : Nat → Int32} {gT gW gT2 gW2 : Nat → Int64} {b b2 : Nat} (e : r = r') (h : r = -1 ∨ ∃ en, (fun en9 => RC en9 th2 wi2 fb be2 rT2 rW2 cf ct) en ∧ (fun en9 => RM en9 th2' wi2' fb' dF rF cF be2' gT2 gW2 b2) en)
    (hx : LVX r th wi be rT rW th2 wi2 be2 rT2 rW2) (hm : LVM r' th' wi' be' gT gW b th2' wi2' be2' gT2 gW2 b2) (ht : iR th' 0 10) (hw : iR wi' 0 12) (hl : LVR th wi be rT rW th' wi' be' gT gW b) : LVR th2 wi2 be2 rT2 rW2 th2' wi2' be2' gT2 gW2 b2 := by
  subst e
  rcases h with h | ⟨en, h1, h2⟩
  · obtain ⟨x1, x2, x3, x4, x5⟩ := hx h
    obtain ⟨m0, m1, m2, m3, m4, m5⟩ := hm h
    obtain ⟨en, l1, l2, l3, l4⟩ := hl
    subst x1 x2 x3 x4 x5 m0 m1 m2 m3
    have c1 := iR_cn ht (by decide)
    have c2 := iR_cn hw (by decide)
    have d1 := ht.2
    have d2 := hw.2
    obtain ⟨a1, a2, a3, a4⟩ := l3
    refine ⟨en, l1, l2, ⟨a1, a2, fun j hj => ?_, fun j hj => ?_⟩, l4⟩
    · rw [m4 j (by omega)]; exact a3 j hj
    · rw [m5 j (by omega)]; exact a4 j hj
  · have h1 : RC en th2 wi2 fb be2 rT2 rW2 cf ct := h1
    have h2 : RM en th2' wi2' fb' dF rF cF be2' gT2 gW2 b2 := h2
    exact ⟨en, h1.1, h1.2.2.2.2.2, h2.1, h2.2.2.2.2.2⟩
/-! images -/
def ckF (f : Nat → Int32) : Nat → Int
  | 0 => 97
  | k + 1 => (5 * ckF f k + (f k).toInt) % 251
theorem ckF_c {f g : Nat → Int32} : ∀ {k : Nat}, (∀ j, j < k → f j = g j) → ckF f k = ckF g k
  | 0, _ => rfl
  | k + 1, h => by
    show (5 * ckF f k + (f k).toInt) % 251 = (5 * ckF g k + (g k).toInt) % 251
    rw [ckF_c (fun j hj => h j (by omega)), h k (by omega)]
def CKI (f : Nat → Int32) (k c : Int32) : Prop := c.toInt = ckF f k.toNatClampNeg
theorem CK_0 (f : Nat → Int32) : CKI f 0 97 := by
  have z : (0 : Int32).toNatClampNeg = 0 := by decide
  unfold CKI
  rw [z]
  show (97 : Int32).toInt = (97 : Int)
  decide
theorem CK_s {f : Nat → Int32} {k k' c c' : Int32} (h : CKI f k c) (hk : iR k 0 8) (ek : k' = k + 1) (e : c'.toInt = (5 * c.toInt + (f k.toNatClampNeg).toInt) % 251) : CKI f k' c' := by
  unfold CKI at *
  rw [i_succ ek hk (by decide), e, h]
  rfl
theorem ck8 {f : Nat → Int32} {k c : Int32} (h : CKI f k c) (hk : k.toInt = 8) : c.toInt = ckF f 8 := by
  have e : k = 8 := Int32.toInt_inj.mp (hk.trans (by decide))
  unfold CKI at h
  rw [e] at h
  exact h
def P2 (f : Nat → Int32) (k : Nat) : Int := 256 * (f k).toInt + (f (k + 1)).toInt
theorem w2b_v {f : Nat → Int32} (k : Nat) (hf : aR f 0 255) : (w2b f k).toInt = P2 f k := w2_v (hf k) (hf (k + 1))
theorem sh2_k : ∀ k, k < 11 → ((1 : Int32) <<< (nI k &&& 31)).toInt = ((2 ^ k : Nat) : Int) := by decide +kernel
theorem sh2 {y x : Int32} (e : y = (1 : Int32) <<< (x &&& 31)) (hx : iR x 0 10) : y.toInt = ((2 ^ x.toNatClampNeg : Nat) : Int) := by
  have ex := iR_nI hx (by decide)
  have c := iR_cn hx (by decide)
  have h2 := hx.2
  have q : x.toInt.toNat = x.toNatClampNeg := by omega
  rw [q] at ex
  have z := sh2_k x.toNatClampNeg (by omega)
  rw [← ex] at z
  rw [e]; exact z
def IMG (f : Nat → Int32) (n be th : Int32) : Prop := n = 9 ∧ (f 8).toInt = ckF f 8 ∧ P2 f 0 ≤ 9999 ∧ P2 f 2 ≤ 9999 ∧ P2 f 4 ≤ be.toInt ∧ P2 f 6 < ((2 ^ th.toNatClampNeg : Nat) : Int)
def IMR (f : Nat → Int32) (n be th r : Int32) : Prop := (r = 1 ∧ IMG f n be th) ∨ (r = 0 ∧ ¬ IMG f n be th)
theorem IMR_0 {f : Nat → Int32} {n be th r : Int32} (h : IMR f n be th r) (e : r = 0) : IMR f n be th 0 := by rw [e] at h; exact h
theorem IMR_1 {f : Nat → Int32} {n be th r : Int32} (h : IMR f n be th r) (e : ¬ r = 0) : IMR f n be th 1 := by
  rcases h with h | h
  · exact Or.inl ⟨rfl, h.2⟩
  · exact absurd h.1 e
section
variable {f : Nat → Int32} {n be th a b c d k y : Int32}
theorem img_9 (h : ¬ n = 9) : IMR f n be th 0 := Or.inr ⟨rfl, fun q => h q.1⟩
theorem img_8 (h : k.toInt = ckF f 8) (e : ¬ f 8 = k) : IMR f n be th 0 := Or.inr ⟨rfl, fun q => e (Int32.toInt_inj.mp (q.2.1.trans h.symm))⟩
theorem img_0 (h : a.toInt = P2 f 0) (l : (9999 : Int32) < a) : IMR f n be th 0 := Or.inr ⟨rfl, fun q => by
  have z : (9999 : Int32).toInt = 9999 := by decide
  have w := Int32.lt_iff_toInt_lt.mp l
  have v := q.2.2.1
  omega⟩
theorem img_2 (h : a.toInt = P2 f 2) (l : (9999 : Int32) < a) : IMR f n be th 0 := Or.inr ⟨rfl, fun q => by
  have z : (9999 : Int32).toInt = 9999 := by decide
  have w := Int32.lt_iff_toInt_lt.mp l
  have v := q.2.2.2.1
  omega⟩
theorem img_4 (h : a.toInt = P2 f 4) (l : be < a) : IMR f n be th 0 := Or.inr ⟨rfl, fun q => by
  have w := Int32.lt_iff_toInt_lt.mp l
  have v := q.2.2.2.2.1
  omega⟩
theorem img_6 (h : a.toInt = P2 f 6) (e : y = (1 : Int32) <<< (th &&& 31)) (ht : iR th 0 10) (l : y ≤ a) : IMR f n be th 0 := Or.inr ⟨rfl, fun q => by
  have w := Int32.le_iff_toInt_le.mp l
  have v := q.2.2.2.2.2
  have s := sh2 e ht
  omega⟩
theorem img_y (e9 : n = 9) (hk : k.toInt = ckF f 8) (e8 : f 8 = k) (ha : a.toInt = P2 f 0) (la : a ≤ 9999) (hb : b.toInt = P2 f 2) (lb : b ≤ 9999) (hc : c.toInt = P2 f 4) (lc : c ≤ be) (hd : d.toInt = P2 f 6) (ey : y = (1 : Int32) <<< (th &&& 31)) (ht : iR th 0 10) (ld : d < y) : IMR f n be th 1 := by
  have z : (9999 : Int32).toInt = 9999 := by decide
  have w1 := Int32.le_iff_toInt_le.mp la
  have w2 := Int32.le_iff_toInt_le.mp lb
  have w3 := Int32.le_iff_toInt_le.mp lc
  have w4 := Int32.lt_iff_toInt_lt.mp ld
  have s := sh2 ey ht
  exact Or.inl ⟨rfl, e9, by rw [e8]; exact hk, by omega, by omega, by omega, by omega⟩
end
theorem IM_eq {f g : Nat → Int32} {n m r r' th wi be th' wi' be' : Int32} {rT rW : Nat → Int32} {gT gW : Nat → Int64} {b : Nat} (ht : TRL f g n m) (hl : LVR th wi be rT rW th' wi' be' gT gW b) (h1 : IMR f n be th r) (h2 : IMR g m be' th' r') : r = r' := by
  obtain ⟨e, hk⟩ := ht
  subst e
  obtain ⟨en, l1, l2, l3, l4⟩ := hl
  have eb : be' = be := l4.trans l2.symm
  have et : th'.toNatClampNeg = th.toNatClampNeg := by rw [← l3.1, l1.1]
  have iff : IMG f n be th ↔ IMG g n be' th' := by
    unfold IMG P2
    rw [eb, et, ckF_c (f := f) (g := g) (k := 8) (fun j hj => hk j (by omega)), hk 8 (by decide), hk 0 (by decide), hk (0 + 1) (by decide), hk 2 (by decide), hk (2 + 1) (by decide), hk 4 (by decide), hk (4 + 1) (by decide), hk 6 (by decide), hk (6 + 1) (by decide)]
  rcases h1 with h1 | h1 <;> rcases h2 with h2 | h2
  · exact h1.1.trans h2.1.symm
  · exact absurd (iff.mp h1.2) h2.2
  · exact absurd (iff.mpr h2.2) h1.2
  · exact h1.1.trans h2.1.symm
