/-! had: what one has are THINGS that there are: sets below 2 to their number, in the layers that are told; the banks -/
theorem i_pow_le {a b : Nat} (h : a ≤ b) : (2 : Int) ^ a ≤ 2 ^ b := by
  have z := Nat.pow_le_pow_right (n := 2) (by decide) h
  exact_mod_cast z
def HV (T H : Nat → Int32) (b v : Nat) : Prop := (H v).toInt < 2 ^ (T b).toInt.toNat
def HU (T H : Nat → Int32) (b : Nat) (uf un : Int32) : Prop := ∀ k : Nat, (k : Int) < un.toInt → HV T H b (2 + (uf.toInt.toNat + k) % 20)
def HB (T14 T18 T20 T23 : Nat → Int32) (b : Nat) : Prop := (T23 b).toInt < 2 ^ (T14 b).toInt.toNat ∧ ∀ w : Nat, (w : Int) < (T18 b).toInt → (T20 (12 * b + w)).toInt < (T14 b).toInt
def JH (T H : Nat → Int32) (b : Nat) (uf un : Int32) : Prop := HV T H b 0 ∧ HU T H b uf un
def FRX (f g : Nat → Int32) (k : Nat) : Prop := ∀ j, j ≠ k → f j = g j
def FRL (f g : Nat → Int32) : Prop := ∀ j, j < 1024 → f j = g j
theorem FRX_refl {f : Nat → Int32} {k : Nat} : FRX f f k := fun _ _ => rfl
theorem FRX_upd {f g : Nat → Int32} {k : Nat} (v : Int32) (h : FRX f g k) : FRX (upd f k v) g k := fun j hj => by rw [i_upne hj]; exact h j hj
theorem FRX_tr {f g h : Nat → Int32} {k : Nat} (p : FRX f g k) (q : FRX g h k) : FRX f h k := fun j hj => (p j hj).trans (q j hj)
theorem FRL_refl {f : Nat → Int32} : FRL f f := fun _ _ => rfl
theorem FRL_upd {f g : Nat → Int32} {k : Nat} (v : Int32) (hk : 1024 ≤ k) (h : FRL f g) : FRL (upd f k v) g := fun j hj => by rw [i_upne (by omega)]; exact h j hj
theorem FRL_ne {f g : Nat → Int32} {x : Int32} (h : FRL f g) (hx : iR x 0 1023) (p : ¬ (g x.toNatClampNeg).toInt = -1) : ¬ (f x.toNatClampNeg).toInt = -1 := by
  have c := iR_cn hx (by decide)
  unfold iR at hx
  rw [h _ (by omega)]; exact p
theorem HV_frx {T f g : Nat → Int32} {b v k : Nat} (h : FRX f g k) (hv : HV T g b v) (hk : v ≠ k) : HV T f b v := by
  unfold HV; rw [h v hk]; exact hv
theorem HU_frx {T f g : Nat → Int32} {b k : Nat} {uf un : Int32} (h : FRX f g k) (hu : HU T g b uf un) (hk : k ≤ 1) : HU T f b uf un := fun j hj => HV_frx h (hu j hj) (by omega)
theorem HV_at {T f : Nat → Int32} {b v : Nat} {x : Int32} (h : x.toInt < 2 ^ (T b).toInt.toNat) : HV T (upd f v x) b v := by
  unfold HV; rw [i_upeq]; exact h
theorem and_lt {y a m : Int32} {lo hi B : Int} (e : y = a &&& m) (ha : iR a lo hi) (k : 0 ≤ lo) (h : a.toInt < B) : y.toInt < B := by
  have q := iR_andL (lo := 0) (hi := a.toInt) e (show iR a a.toInt a.toInt from ⟨Int.le_refl _, Int.le_refl _⟩) (by unfold iR at ha; exact ⟨by omega, by omega, Int.le_refl _⟩)
  unfold iR at q; omega
/-- 1 shifted by less than the number of things -/
theorem sh_lt {y g n : Int32} (e : y = (1 : Int32) <<< (g &&& 31)) (hg : 0 ≤ g.toInt) (hn : g.toInt < n.toInt ∧ n.toInt ≤ 10) : 0 ≤ y.toInt ∧ y.toInt < 2 ^ n.toInt.toNat := by
  have hr := k_rhi9 g
  have hN : n.toInt.toNat ≤ 10 := by omega
  have h1 : n.toInt.toNat = (n.toInt.toNat - 1) + 1 := by omega
  have q := iR_shl (lo := 1) (hi := 2 ^ (n.toInt.toNat - 1)) (n.toInt.toNat - 1) e (iR_c (x := 1) (n := 1) (a := 1) (b := 1) (by decide) (by decide)) (show iR g 0 (n.toInt.toNat - 1 : Nat) from ⟨hg, by omega⟩) (by
    have h2 : (2 : Int) ^ (n.toInt.toNat - 1) ≤ 2 ^ 9 := i_pow_le (by omega)
    refine ⟨by decide, by decide, by omega, by omega, by decide, by rw [Int.one_mul]; exact Int.le_refl _, ?_⟩
    rw [Int.one_mul]; omega)
  unfold iR at q
  have h3 : (2 : Int) ^ n.toInt.toNat = 2 ^ (n.toInt.toNat - 1) * 2 := by rw [h1]; rfl
  have h4 : (0 : Int) < 2 ^ (n.toInt.toNat - 1) := Int.pow_pos (by decide)
  omega
theorem or_lt {y a b n : Int32} (e : y = a ||| b) (ha : 0 ≤ a.toInt ∧ a.toInt < 2 ^ n.toInt.toNat) (hb : 0 ≤ b.toInt ∧ b.toInt < 2 ^ n.toInt.toNat) (hn : n.toInt ≤ 10) : 0 ≤ y.toInt ∧ y.toInt < 2 ^ n.toInt.toNat := by
  have h2 : (2 : Int) ^ n.toInt.toNat ≤ 2 ^ 10 := i_pow_le (by omega)
  have q := iR_or (lo := 0) (hi := 2 ^ n.toInt.toNat - 1) n.toInt.toNat e (show iR a a.toInt a.toInt from ⟨Int.le_refl _, Int.le_refl _⟩) (show iR b b.toInt b.toInt from ⟨Int.le_refl _, Int.le_refl _⟩) (by
    refine ⟨ha.1, hb.1, by omega, ha.2, hb.2, Int.le_refl _, Int.le_refl _, ?_⟩
    omega)
  unfold iR at q; omega
/-- what one has behind a wish -/
theorem bh_lt {r had m a g s : Int32} {T14 T18 T20 T23 : Nat → Int32} {b w : Nat} (e1 : a = had &&& m) (e2 : s = (1 : Int32) <<< (g &&& 31)) (e3 : r = a ||| s) (hh : 0 ≤ had.toInt) (eg : g = T20 (12 * b + w)) (hg : aR T20 0 9) (hn : aR T14 0 10) : HB T14 T18 T20 T23 b → (w : Int) < (T18 b).toInt → had.toInt < 2 ^ (T14 b).toInt.toNat → r.toInt < 2 ^ (T14 b).toInt.toNat := by
  intro hb hw hv
  have h1 := hb.2 w hw
  have h2 := hg (12 * b + w)
  have h3 := hn b
  unfold iR at h2 h3
  subst eg
  have q1 := sh_lt e2 h2.1 ⟨h1, h3.2⟩
  have q2 : a.toInt < 2 ^ (T14 b).toInt.toNat := and_lt e1 (show iR had had.toInt had.toInt from ⟨Int.le_refl _, Int.le_refl _⟩) hh hv
  have q3 := iR_andL (lo := 0) (hi := had.toInt) e1 (show iR had had.toInt had.toInt from ⟨Int.le_refl _, Int.le_refl _⟩) ⟨hh, Int.le_refl _, Int.le_refl _⟩
  unfold iR at q3
  exact (or_lt e3 ⟨q3.1, q2⟩ q1 h3.2).2
theorem sh_eq {y n : Int32} (e : y = (1 : Int32) <<< (n &&& 31)) (hn : iR n 0 10) : y.toInt = 2 ^ n.toInt.toNat := by
  have h := iR_nI hn (by decide)
  unfold iR at hn
  have k : n.toInt.toNat = 0 ∨ n.toInt.toNat = 1 ∨ n.toInt.toNat = 2 ∨ n.toInt.toNat = 3 ∨ n.toInt.toNat = 4 ∨ n.toInt.toNat = 5 ∨ n.toInt.toNat = 6 ∨ n.toInt.toNat = 7 ∨ n.toInt.toNat = 8 ∨ n.toInt.toNat = 9 ∨ n.toInt.toNat = 10 := by omega
  rw [e]
  generalize n.toInt.toNat = q at *
  subst h
  rcases k with k | k | k | k | k | k | k | k | k | k | k <;> (subst k; decide)
theorem HU_keep {T H : Nat → Int32} {b r : Nat} {uf un un' : Int32} (hu : HU T H b uf un) (h0 : HV T H b 0) (hr : r = 2 + (uf.toInt.toNat + un.toInt.toNat) % 20) (hun : 0 ≤ un.toInt) (e : un'.toInt = un.toInt + 1) : JH T (upd H r (H 0)) b uf un' := by
  refine ⟨?_, fun k hk => ?_⟩
  · unfold HV; rw [i_upne (by omega)]; exact h0
  · by_cases c : 2 + (uf.toInt.toNat + k) % 20 = r
    · unfold HV; rw [c, i_upeq]; exact h0
    · unfold HV; rw [i_upne c]
      by_cases c2 : (k : Int) < un.toInt
      · exact hu k c2
      · exfalso; apply c; rw [hr, show k = un.toInt.toNat by omega]
theorem HU_shift {T H : Nat → Int32} {b : Nat} {uf un uf' un' : Int32} (hu : HU T H b uf un) (h20 : un.toInt = 20) (huf : 0 ≤ uf.toInt) (e : uf'.toInt = (uf.toInt + 1) % 20) (e2 : un'.toInt = 19) : HU T H b uf' un' := fun k hk => by
  have z := hu (k + 1) (by omega)
  rw [show (uf'.toInt.toNat + k) % 20 = (uf.toInt.toNat + (k + 1)) % 20 by omega]
  exact z
theorem HU_undo {T H : Nat → Int32} {b r : Nat} {uf un un' : Int32} (hj : JH T H b uf un) (hr : r = 2 + (uf.toInt.toNat + un'.toInt.toNat) % 20) (hun : 0 ≤ un'.toInt) (e : un'.toInt = un.toInt - 1) : JH T (upd H 0 (H r)) b uf un' := by
  refine ⟨HV_at ?_, fun k hk => ?_⟩
  · have z := hj.2 un'.toInt.toNat (by omega)
    rw [hr]; exact z
  · unfold HV; rw [i_upne (by omega)]; exact hj.2 k (by omega)
theorem JH_frx {T f g : Nat → Int32} {b : Nat} {uf un : Int32} (h : FRX f g 0) (hv : HV T f b 0) (hj : JH T g b uf un) : JH T f b uf un := ⟨hv, HU_frx h hj.2 (by omega)⟩
theorem JH_frx1 {T f g : Nat → Int32} {b : Nat} {uf un : Int32} (h : FRX f g 1) (hj : JH T g b uf un) : JH T f b uf un := ⟨HV_frx h hj.1 (by omega), HU_frx h hj.2 (by omega)⟩
theorem HU_none {T f : Nat → Int32} {b : Nat} {uf un : Int32} (h : un.toInt = 0) : HU T f b uf un := fun k hk => by omega
/-- a bank that is being told -/
def IB (T14 T18 T20 T23 A1 B1 A2 B2 A3 B3 C : Nat → Int32) (n : Nat) (c : Int) : Prop := HB T14 T18 T20 T23 n ∧ SEG A1 B1 C n c ∧ SEG A2 B2 C n c ∧ SEG A3 B3 C n c
theorem ib_on {f f' : Int32} {X : Prop} (h : 0 < f ∨ X) (hf : 0 < f → 0 < f') : 0 < f' ∨ X := by
  rcases h with h | h
  · exact Or.inl (hf h)
  · exact Or.inr h
theorem ib_no {f f' : Int32} {X : Prop} (h : 0 < f ∨ X) (hf : 0 < f → 0 < f') (c : f' ≤ 0) : X := by
  rcases h with h | h
  · exact absurd (hf h) (i_lenl c)
  · exact h
theorem pow_mono {n m : Int32} (h : n.toInt ≤ m.toInt) : (2 : Int) ^ n.toInt.toNat ≤ 2 ^ m.toInt.toNat := i_pow_le (by omega)
section IBL
variable {T14 T18 T20 T23 A1 B1 A2 B2 A3 B3 C C' : Nat → Int32} {n : Nat} {c : Int}
theorem IB_thing {y : Int32} (h : IB T14 T18 T20 T23 A1 B1 A2 B2 A3 B3 C n c) (e : y.toInt = (T14 n).toInt + 1) : IB (upd T14 n y) T18 T20 T23 A1 B1 A2 B2 A3 B3 C n c := by
  obtain ⟨⟨h1, h2⟩, h3⟩ := h
  refine ⟨⟨?_, fun w hw => ?_⟩, h3⟩
  · rw [i_upeq]
    have := pow_mono (n := T14 n) (m := y) (by omega)
    omega
  · rw [i_upeq]; have := h2 w hw; omega
theorem IB_wish {k : Nat} {y r : Int32} (h : IB T14 T18 T20 T23 A1 B1 A2 B2 A3 B3 C n c) (hk : k = 12 * n + (T18 n).toNatClampNeg) (h18 : aR T18 0 12) (hr : r < T14 n) (e : y.toInt = (T18 n).toInt + 1) : IB T14 (upd T18 n y) (upd T20 k r) T23 A1 B1 A2 B2 A3 B3 C n c := by
  obtain ⟨⟨h1, h2⟩, h3⟩ := h
  have q := iR_cn (h18 n) (by decide)
  refine ⟨⟨h1, fun w hw => ?_⟩, h3⟩
  rw [i_upeq] at hw
  by_cases cw : 12 * n + w = k
  · rw [cw, i_upeq]; exact Int32.lt_iff_toInt_lt.mp hr
  · rw [i_upne cw]; exact h2 w (by omega)
theorem IB_first {y s r : Int32} (h : IB T14 T18 T20 T23 A1 B1 A2 B2 A3 B3 C n c) (h14 : aR T14 0 10) (h23 : aR T23 0 1023) (e1 : s = (1 : Int32) <<< (r &&& 31)) (e2 : y = T23 n ||| s) (hr : 0 ≤ r.toInt) (hr2 : r < T14 n) : IB T14 T18 T20 (upd T23 n y) A1 B1 A2 B2 A3 B3 C n c := by
  obtain ⟨⟨h1, h2⟩, h3⟩ := h
  have q14 := h14 n
  have q23 := h23 n
  unfold iR at q14 q23
  have z := Int32.lt_iff_toInt_lt.mp hr2
  have q1 := sh_lt e1 hr ⟨z, q14.2⟩
  refine ⟨⟨?_, h2⟩, h3⟩
  rw [i_upeq]
  exact (or_lt e2 ⟨q23.1, h1⟩ q1 q14.2).2
theorem PF_keep {z c' : Nat} {a : Int} (pf : PF C' c' n z a C) (hz : (z : Int) = c) (ha : a ≤ 1600) {A B : Nat → Int32} (h : SEG A B C n c) : SEG A B C' n (c' : Int) := by
  obtain ⟨p1, p2, p3, p4⟩ := pf
  exact SEG_keep h rfl rfl (fun k k1 k2 => p4 k (by omega)) (by omega) (by omega)
theorem PF_new {z c' : Nat} {a : Int} (pf : PF C' c' n z a C) (ha : a ≤ 1600) {A B : Nat → Int32} {x y : Int32} (hx : x.toInt = (z : Int)) (hy : y.toInt = (c' : Int)) : SEG (upd A n x) (upd B n y) C' n (c' : Int) :=
  SEG_new pf (by rw [i_upeq]; exact hx) (by rw [i_upeq]; exact hy) ha
theorem IB_code1 {z c' : Nat} {a : Int} {x y : Int32} (h : IB T14 T18 T20 T23 A1 B1 A2 B2 A3 B3 C n c) (pf : PF C' c' n z a C) (hz : (z : Int) = c) (ha : a ≤ 1600) (hx : x.toInt = (z : Int)) (hy : y.toInt = (c' : Int)) : IB T14 T18 T20 T23 (upd A1 n x) (upd B1 n y) A2 B2 A3 B3 C' n y.toInt := by
  rw [hy]
  exact ⟨h.1, PF_new pf ha hx hy, PF_keep pf hz ha h.2.2.1, PF_keep pf hz ha h.2.2.2⟩
theorem IB_code2 {z c' : Nat} {a : Int} {x y : Int32} (h : IB T14 T18 T20 T23 A1 B1 A2 B2 A3 B3 C n c) (pf : PF C' c' n z a C) (hz : (z : Int) = c) (ha : a ≤ 1600) (hx : x.toInt = (z : Int)) (hy : y.toInt = (c' : Int)) : IB T14 T18 T20 T23 A1 B1 (upd A2 n x) (upd B2 n y) A3 B3 C' n y.toInt := by
  rw [hy]
  exact ⟨h.1, PF_keep pf hz ha h.2.1, PF_new pf ha hx hy, PF_keep pf hz ha h.2.2.2⟩
theorem IB_code3 {z c' : Nat} {a : Int} {x y : Int32} (h : IB T14 T18 T20 T23 A1 B1 A2 B2 A3 B3 C n c) (pf : PF C' c' n z a C) (hz : (z : Int) = c) (ha : a ≤ 1600) (hx : x.toInt = (z : Int)) (hy : y.toInt = (c' : Int)) : IB T14 T18 T20 T23 A1 B1 A2 B2 (upd A3 n x) (upd B3 n y) C' n y.toInt := by
  rw [hy]
  exact ⟨h.1, PF_keep pf hz ha h.2.1, PF_keep pf hz ha h.2.2.1, PF_new pf ha hx hy⟩
theorem IB_0 (h23 : (T23 n).toInt = 0) (h18 : (T18 n).toInt = 0) (h14 : (T14 n).toInt = 0) (h1 : (A1 n).toInt = -1) (h2 : (A2 n).toInt = -1) (h3 : (A3 n).toInt = -1) : IB T14 T18 T20 T23 A1 B1 A2 B2 A3 B3 C n c :=
  ⟨⟨by rw [h23, h14]; decide, fun w hw => by omega⟩, Or.inl h1, Or.inl h2, Or.inl h3⟩
end IBL
/-- all that the model's state keeps, but for ranges -/
def ST (T14 T18 T20 T23 A1 B1 A2 B2 A3 B3 C H : Nat → Int32) (b : Nat) (uf un : Int32) : Prop := HB T14 T18 T20 T23 b ∧ SEG A1 B1 C b 1600 ∧ SEG A2 B2 C b 1600 ∧ SEG A3 B3 C b 1600 ∧ JH T14 H b uf un
theorem SEG_1600 {A B C : Nat → Int32} {n : Nat} {c : Int} (h : SEG A B C n c) : SEG A B C n 1600 := by
  rcases h with h | ⟨h1, h2, h3, h4, h5⟩
  · exact Or.inl h
  · exact Or.inr ⟨h1, h2, by omega, by omega, h5⟩
theorem SEG_fr {A A' B B' C C' : Nat → Int32} {b n : Nat} (h : SEG A B C b 1600) (hbn : b + n = 1) (hA : FRw 1 A' A n) (hB : FRw 1 B' B n) (hC : FRw 1600 C' C n) : SEG A' B' C' b 1600 :=
  SEG_keep h (hA b (by omega)) (hB b (by omega)) (fun k k1 k2 => hC k (by omega)) (Int.le_refl _) (Int.le_refl _)
theorem HB_fr {T14 T18 T20 T23 U14 U18 U20 U23 : Nat → Int32} {b n : Nat} (h : HB T14 T18 T20 T23 b) (hbn : b + n = 1) (h18 : aR T18 0 12) (p14 : FRw 1 U14 T14 n) (p18 : FRw 1 U18 T18 n) (p20 : FRw 12 U20 T20 n) (p23 : FRw 1 U23 T23 n) : HB U14 U18 U20 U23 b := by
  obtain ⟨h1, h2⟩ := h
  have q := h18 b
  unfold iR at q
  refine ⟨?_, fun w hw => ?_⟩
  · rw [p14 b (by omega), p23 b (by omega)]; exact h1
  · rw [p18 b (by omega)] at hw
    rw [p14 b (by omega), p20 (12 * b + w) (by omega)]
    exact h2 w hw
theorem JH_fr {T U H : Nat → Int32} {b n : Nat} {uf un : Int32} (h : JH T H b uf un) (hbn : b + n = 1) (p14 : FRw 1 U T n) : JH U H b uf un := by
  refine ⟨?_, fun k hk => ?_⟩
  · unfold HV; rw [p14 b (by omega)]; exact h.1
  · unfold HV; rw [p14 b (by omega)]; exact h.2 k hk
