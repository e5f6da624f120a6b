theorem byu (n : Nat) (hn : n < 25) (x : Int32) : ((x.toUInt32 >>> ((nI n).toUInt32 &&& Int32.toUInt32 31)).toInt32) &&& 255 = (x >>> (nI n &&& 31)) &&& 255 := by
  refine b_ext (fun i hi => ?_)
  rw [b_and, b_and, b_255, b_ushr n (by omega), b_sshr n (by omega) x hi]
  by_cases h : i < 8
  · rw [if_pos (by omega)]
  · rw [decide_eq_false h, Bool.and_false, Bool.and_false]
def byt (v s : Int32) : Int32 := (v >>> (s &&& 31)) &&& 255
theorem byu24 (x : Int32) : (x.toUInt32 >>> ((24 : Int32).toUInt32 &&& Int32.toUInt32 31)).toInt32 &&& 255 = byt x 24 := byu 24 (by omega) x
theorem byu16 (x : Int32) : (x.toUInt32 >>> ((16 : Int32).toUInt32 &&& Int32.toUInt32 31)).toInt32 &&& 255 = byt x 16 := byu 16 (by omega) x
theorem byu8 (x : Int32) : (x.toUInt32 >>> ((8 : Int32).toUInt32 &&& Int32.toUInt32 31)).toInt32 &&& 255 = byt x 8 := byu 8 (by omega) x
theorem byu0 (x : Int32) : (x.toUInt32 >>> ((0 : Int32).toUInt32 &&& Int32.toUInt32 31)).toInt32 &&& 255 = byt x 0 := byu 0 (by omega) x
def tn4 (n : Int32) : Int32 := n + 1 + 1 + 1 + 1
def tp4 (f : Nat → Int32) (n v : Int32) : Nat → Int32 := upd (upd (upd (upd f n.toNatClampNeg (byt v 24)) (n + 1).toNatClampNeg (byt v 16)) (n + 1 + 1).toNatClampNeg (byt v 8)) (n + 1 + 1 + 1).toNatClampNeg (byt v 0)
def fdn (n : Int32) : Int32 := tn4 (tn4 (tn4 (tn4 (tn4 n))))
def fd5 (f : Nat → Int32) (n a b c d e : Int32) : Nat → Int32 := tp4 (tp4 (tp4 (tp4 (tp4 f n a) (tn4 n) b) (tn4 (tn4 n)) c) (tn4 (tn4 (tn4 n))) d) (tn4 (tn4 (tn4 (tn4 n)))) e
/-- feed: what it answers, the tape behind it -/
def FDR (f : Nat → Int32) (n a b c d e r n' : Int32) (f' : Nat → Int32) : Prop := (1580 < n.toInt ∧ r = -1 ∧ n' = n ∧ f' = f) ∨ (n.toInt ≤ 1580 ∧ r = fdn n ∧ n' = fdn n ∧ f' = fd5 f n a b c d e)
/-- end -/
def EDR (n x r n' : Int32) : Prop := ((x.toInt < 0 ∨ n.toInt < x.toInt) ∧ r = 0 ∧ n' = n) ∨ (0 ≤ x.toInt ∧ x.toInt ≤ n.toInt ∧ r = 1 ∧ n' = x)
/-- both tapes are one -/
def TRL (f g : Nat → Int32) (n m : Int32) : Prop := n = m ∧ ∀ k, k < 1600 → f k = g k
theorem upd_w {f g : Nat → Int32} (h : ∀ k, k < 1600 → f k = g k) (j : Nat) (v : Int32) : ∀ k, k < 1600 → upd f j v k = upd g j v k := by
  intro k hk
  unfold upd
  split
  · rfl
  · exact h k hk
theorem tp4_w {f g : Nat → Int32} (h : ∀ k, k < 1600 → f k = g k) (n v : Int32) : ∀ k, k < 1600 → tp4 f n v k = tp4 g n v k := upd_w (upd_w (upd_w (upd_w h _ _) _ _) _ _) _ _
theorem TRL_feed {f g f2 g2 : Nat → Int32} {n m a b c d e r r2 n2 m2 : Int32} (h : TRL f g n m) (h1 : FDR f n a b c d e r n2 f2) (h2 : FDR g m a b c d e r2 m2 g2) : r = r2 ∧ TRL f2 g2 n2 m2 := by
  obtain ⟨rfl, h⟩ := h
  rcases h1 with ⟨q, rfl, rfl, rfl⟩ | ⟨q, rfl, rfl, rfl⟩ <;> rcases h2 with ⟨q2, rfl, rfl, rfl⟩ | ⟨q2, rfl, rfl, rfl⟩
  · exact ⟨rfl, rfl, h⟩
  · omega
  · omega
  · exact ⟨rfl, rfl, tp4_w (tp4_w (tp4_w (tp4_w (tp4_w h _ _) _ _) _ _) _ _) _ _⟩
theorem TRL_end {f g : Nat → Int32} {n m x r r2 n2 m2 : Int32} (h : TRL f g n m) (h1 : EDR n x r n2) (h2 : EDR m x r2 m2) : r = r2 ∧ TRL f g n2 m2 := by
  obtain ⟨rfl, h⟩ := h
  rcases h1 with ⟨q, rfl, rfl⟩ | ⟨q, q1, rfl, rfl⟩ <;> rcases h2 with ⟨q2, rfl, rfl⟩ | ⟨q2, q3, rfl, rfl⟩
  · exact ⟨rfl, rfl, h⟩
  · omega
  · omega
  · exact ⟨rfl, rfl, h⟩
theorem TRL_z {f g : Nat → Int32} {n m : Int32} (h : TRL f g n m) : TRL f g 0 0 := ⟨rfl, h.2⟩
/-- FALLS can be told by these bytes -/
def FOK (f : Nat → Int32) (n : Int) : Prop := 0 < n ∧ n % 3 = 0 ∧ n ≤ 60 ∧ ∀ k : Nat, 3 * (k : Int) + 2 < n → (f (3 * k + 2)).toInt < 2
def FLR (f : Nat → Int32) (n r : Int32) : Prop := (FOK f n.toInt ∧ r.toInt = n.toInt / 3) ∨ (¬ FOK f n.toInt ∧ r.toInt = -1)
theorem FOK_w {f g : Nat → Int32} (h : ∀ k, k < 1600 → f k = g k) {n : Int} (q : FOK f n) : FOK g n := ⟨q.1, q.2.1, q.2.2.1, fun k hk => by
  have q3 := q.2.2.1
  rw [← h (3 * k + 2) (by omega)]
  exact q.2.2.2 k hk⟩
theorem TRL_falls {f g : Nat → Int32} {n m r r2 : Int32} (h : TRL f g n m) (h1 : FLR f n r) (h2 : FLR g m r2) : r = r2 := by
  obtain ⟨rfl, h⟩ := h
  apply Int32.toInt_inj.mp
  rcases h1 with ⟨q, e⟩ | ⟨q, e⟩ <;> rcases h2 with ⟨q2, e2⟩ | ⟨q2, e2⟩
  · rw [e, e2]
  · exact absurd (FOK_w h q) q2
  · exact absurd (FOK_w (fun k hk => (h k hk).symm) q2) q
  · rw [e, e2]
def TF (f : Nat → Int32) (x : Int32) : Prop := ∀ k : Nat, (k : Int) < x.toInt → (f (3 * k + 2)).toInt < 2
theorem TF_0 (f : Nat → Int32) : TF f 0 := fun k hk => by
  have z : (0 : Int32).toInt = 0 := by decide
  omega
theorem TF_step {f : Nat → Int32} {o k y : Int32} {a b : Int} (h : TF f o) (e : k = o + 1) (ho : iR o a b) (hy : y.toNatClampNeg = 3 * o.toNatClampNeg + 2) (hl : f y.toNatClampNeg ≤ 1) (ha : 0 ≤ a ∧ b < 1000000) : TF f k := by
  intro j hj
  have q := i_add e ho (iR_c (x := 1) (n := 1) (a := 1) (b := 1) (by decide +kernel) (by decide +kernel)) (by omega)
  have z : (1 : Int32).toInt = 1 := by decide
  have c := iR_cn ho ha.1
  by_cases hj2 : (j : Int) < o.toInt
  · exact h j hj2
  · have e2 : 3 * j + 2 = y.toNatClampNeg := by omega
    have l := Int32.le_iff_toInt_le.mp hl
    rw [e2]
    omega
def TFR (f : Nat → Int32) (x r : Int32) : Prop := (r = 1 ∧ TF f x) ∨ (r = 0 ∧ ∃ k : Nat, (k : Int) < x.toInt ∧ 2 ≤ (f (3 * k + 2)).toInt)
theorem TFR_1 {f : Nat → Int32} {x k : Int32} (h : TF f k) (c : x ≤ k) : TFR f x 1 := Or.inl ⟨rfl, fun j hj => h j (by have q := Int32.le_iff_toInt_le.mp c; omega)⟩
theorem TFR_0 {f : Nat → Int32} {x k y : Int32} {a b : Int} (c : k < x) (hk : iR k a b) (hy : y.toNatClampNeg = 3 * k.toNatClampNeg + 2) (hl : 1 < f y.toNatClampNeg) (ha : 0 ≤ a) : TFR f x 0 := Or.inr ⟨rfl, k.toNatClampNeg, by
  have q := Int32.lt_iff_toInt_lt.mp c
  have z := iR_cn hk ha
  omega, by
  have l := Int32.lt_iff_toInt_lt.mp hl
  have z : (1 : Int32).toInt = 1 := by decide
  rw [← hy]
  omega⟩
theorem TFR_no {f : Nat → Int32} {x r n : Int32} (h : TFR f x r) (e : r = 0) (q : FOK f n.toInt) (k : 3 * x.toInt = n.toInt) : False := by
  rcases h with ⟨e2, _⟩ | ⟨_, j, hj, hl⟩
  · rw [e] at e2; exact absurd e2 (by decide)
  · have z := q.2.2.2 j (by omega); omega
theorem TFR_yes {f : Nat → Int32} {x r n : Int32} (h : TFR f x r) (e : ¬ r = 0) (k : 3 * x.toInt = n.toInt) (h1 : 1 ≤ x.toInt) (h2 : x.toInt ≤ 20) : FOK f n.toInt := by
  rcases h with ⟨_, t⟩ | ⟨e2, _⟩
  · exact ⟨by omega, by omega, by omega, fun j hj => t j (by omega)⟩
  · exact absurd e2 e
/-- the model's loop -/
def FM (f : Nat → Int32) (n k c : Int32) : Prop := (c = 1 ∧ k.toInt % 3 = 2 ∧ 2 ≤ k.toInt ∧ ∀ j : Nat, 3 * (j : Int) + 2 < k.toInt → (f (3 * j + 2)).toInt < 2) ∨ (c = 0 ∧ ¬ FOK f n.toInt)
theorem FM_0 (f : Nat → Int32) (n : Int32) : FM f n 2 1 := Or.inl ⟨rfl, by decide, by decide, fun j hj => by
  have z : (2 : Int32).toInt = 2 := by decide
  omega⟩
theorem FM_b {f : Nat → Int32} {n k : Int32} (h : ¬ FOK f n.toInt) : FM f n k 0 := Or.inr ⟨rfl, h⟩
theorem FM_s {f : Nat → Int32} {n o k c : Int32} {a b : Int} (h : FM f n o c) (hc : ¬ c = 0) (e : k = o + 3) (ho : iR o a b) (ha : 0 ≤ a ∧ b < 1000000) (hl : f o.toNatClampNeg < 2) : FM f n k 1 := by
  rcases h with ⟨_, h1, h2, h3⟩ | ⟨h0, _⟩
  · have q := i_add e ho (iR_c (x := 3) (n := 3) (a := 3) (b := 3) (by decide +kernel) (by decide +kernel)) (by omega)
    have z : (3 : Int32).toInt = 3 := by decide
    have z2 : (2 : Int32).toInt = 2 := by decide
    have cz := iR_cn ho ha.1
    refine Or.inl ⟨rfl, by omega, by omega, fun j hj => ?_⟩
    by_cases hj2 : 3 * (j : Int) + 2 < o.toInt
    · exact h3 j hj2
    · have e2 : 3 * j + 2 = o.toNatClampNeg := by omega
      have l := Int32.lt_iff_toInt_lt.mp hl
      rw [e2]
      omega
  · exact absurd h0 hc
theorem FM_n {f : Nat → Int32} {n o k c : Int32} {a b : Int} (h : FM f n o c) (hc : ¬ c = 0) (hn : o < n) (ho : iR o a b) (ha : 0 ≤ a ∧ b < 1000000) (hl : 2 ≤ f o.toNatClampNeg) : FM f n k 0 := by
  rcases h with ⟨_, h1, h2, h3⟩ | ⟨h0, _⟩
  · have cz := iR_cn ho ha.1
    have q := Int32.lt_iff_toInt_lt.mp hn
    have l := Int32.le_iff_toInt_le.mp hl
    have z2 : (2 : Int32).toInt = 2 := by decide
    refine Or.inr ⟨rfl, fun w => ?_⟩
    have e2 : 3 * ((o.toInt.toNat - 2) / 3) + 2 = o.toNatClampNeg := by omega
    have w2 := w.2.2.2 ((o.toInt.toNat - 2) / 3) (by omega)
    rw [e2] at w2
    omega
  · exact absurd h0 hc
theorem FM_no {f : Nat → Int32} {n k c : Int32} (h : FM f n k c) (e : c = 0) (q : FOK f n.toInt) : False := by
  rcases h with ⟨e2, _⟩ | ⟨_, w⟩
  · rw [e] at e2; exact absurd e2 (by decide)
  · exact w q
theorem FM_yes {f : Nat → Int32} {n k c : Int32} (h : FM f n k c) (e : ¬ c = 0) (hk : n ≤ k) (h1 : 0 < n.toInt) (h2 : n.toInt % 3 = 0) (h3 : n.toInt ≤ 60) : FOK f n.toInt := by
  rcases h with ⟨_, _, _, t⟩ | ⟨e2, _⟩
  · exact ⟨h1, h2, h3, fun j hj => t j (by have q := Int32.le_iff_toInt_le.mp hk; omega)⟩
  · exact absurd e2 e
