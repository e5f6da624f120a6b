/-! STATEMENTS: the reference -/
section
variable {t : Nat → Int32} {n : Nat} {sg sa se vl lx fk f1 : Int32} {wd : Int64}
theorem mk_b (l : LSG t n sg sa se vl lx wd) (x : LXQ lx fk f1) (z : fk = 0) (h : ¬ f1 = 0) : kB t n sa.toNatClampNeg = true := by
  rcases x with x | x
  · exact absurd (x.2.trans z) h
  · cases c : kB t n sa.toNatClampNeg with
    | true => rfl
    | false => exact absurd (l.2.2.2.2.2.2.2.mpr c) x.1
theorem mk_g (l : LSG t n sg sa se vl lx wd) (x : LXQ lx fk f1) (z : fk = 0) (h : f1 = 0) : kB t n sa.toNatClampNeg = false := by
  rcases x with x | x
  · exact l.2.2.2.2.2.2.2.mp x.1
  · exact absurd h (f_ne (x.2 z))
/-- a sign, a word that must be there -/
theorem mm_b {c : Int32} (h : kB t n sa.toNatClampNeg = true) : sMust t n c sa.toNatClampNeg = none := sMust_bad h
theorem mm_n {c : Int32} (h : tq t n sa.toNatClampNeg c = false) : sMust t n c sa.toNatClampNeg = none := by
  unfold sMust
  split
  · rfl
  · first | rfl | rw [if_pos h]
theorem mm_y {c : Int32} {a' : Nat} (b : kB t n sa.toNatClampNeg = false) (h : tq t n sa.toNatClampNeg c = true) (e : a' = nx t n sa.toNatClampNeg) : sMust t n c sa.toNatClampNeg = some a' := by
  unfold sMust
  rw [if_neg (by rw [b]; decide), if_neg (by rw [h]; decide), e]
/-- a number -/
theorem mn_t {lo hi : Int32} (h : tq t n sa.toNatClampNeg 257 = false) : sNum t n lo hi sa.toNatClampNeg = none := by
  unfold sNum
  split
  · rfl
  · first | rfl | rw [if_pos h]
theorem mn_r {lo hi : Int32} (l : LSG t n sg sa se vl lx wd) (e : sg = 2) (h : decide (lo ≤ vl ∧ vl ≤ hi) = false) : sNum t n lo hi sa.toNatClampNeg = none := by
  have v := l.2.2.2.2.2.1 e
  have h := of_decide_eq_false h
  rw [v] at h
  unfold sNum
  split
  · rfl
  · split
    · rfl
    · first | rfl | rw [if_neg h]
theorem mn_y {lo hi : Int32} {a' : Nat} (l : LSG t n sg sa se vl lx wd) (b : kB t n sa.toNatClampNeg = false) (e : sg = 2) (q : tq t n sa.toNatClampNeg 257 = true) (h : decide (lo ≤ vl ∧ vl ≤ hi) = true) (ea : a' = nx t n sa.toNatClampNeg) : sNum t n lo hi sa.toNatClampNeg = some (vl, a') := by
  have v := l.2.2.2.2.2.1 e
  have h := of_decide_eq_true h
  rw [v] at h
  unfold sNum
  rw [if_neg (by rw [b]; decide), if_neg (by rw [q]; decide), if_pos h, v, ea]
/-- names -/
def RMN (en : EN) (th wi : Int32) (gT gW : Nat → Int64) (b : Nat) : Prop := en.1 = th.toNatClampNeg ∧ en.2.2.1 = wi.toNatClampNeg ∧ (∀ j, j < en.1 → gT (10 * b + j) = en.2.1 j) ∧ (∀ j, j < en.2.2.1 → gW (12 * b + j) = en.2.2.2.1 j)
theorem IXN_eq {c : Nat} {f g : Nat → Int64} {w : Int64} {r : Int32} (h : IXN c f w r) (e : ∀ j, j < c → f j = g j) : IXN c g w r := by
  rcases h with ⟨h1, h2⟩ | ⟨h1, h2, h3, h4⟩
  · exact Or.inl ⟨h1, fun j q z => h2 j q ((e j q).trans z)⟩
  · exact Or.inr ⟨h1, h2, (e _ h2).symm.trans h3, fun j q z => h4 j q ((e j (by omega)).trans z)⟩
theorem mf_t {en : EN} (h : tq t n sa.toNatClampNeg 258 = false) : eNew t n en sa.toNatClampNeg = none := by
  unfold eNew sNew
  split
  · rfl
  · first | rfl | rw [if_pos h]
theorem mf_0 {en : EN} (l : LSG t n sg sa se vl lx wd) (ht : aR t 0 255) (h : ¬ sg = 1) : eNew t n en sa.toNatClampNeg = none := mf_t (by rw [← LS_m l ht, decide_eq_false h]; rfl)
theorem mf_1 {en : EN} (l : LSG t n sg sa se vl lx wd) (ht : aR t 0 255) (h : own wd = true) : eNew t n en sa.toNatClampNeg = none := mf_t (by rw [← LS_m l ht, h]; simp)
theorem mf_w (l : LSG t n sg sa se vl lx wd) (ht : aR t 0 255) (h : sg = 1) (o : own wd = false) : tq t n sa.toNatClampNeg 258 = true ∧ wd = kW t n sa.toNatClampNeg := ⟨by rw [← LS_m l ht, decide_eq_true h, o]; rfl, l.2.2.2.2.1 h⟩
theorem mf_2 {en : EN} {th wi q1 q2 : Int32} {gT gW : Nat → Int64} {b : Nat} (l : LSG t n sg sa se vl lx wd) (hs : sg = 1) (hm : RMN en th wi gT gW b) (c : (IXN th.toNatClampNeg (fun j => gT (10 * b + j)) wd q1 ∧ ¬ q1 = -1) ∨ (IXN wi.toNatClampNeg (fun j => gW (12 * b + j)) wd q2 ∧ ¬ q2 = -1)) : eNew t n en sa.toNatClampNeg = none := by
  have w := l.2.2.2.2.1 hs
  unfold eNew sNew
  split
  · rfl
  · split
    · rfl
    · rw [if_neg]
      rintro ⟨a1, a2⟩
      rcases c with ⟨c1, c2⟩ | ⟨c1, c2⟩
      · rw [w, ← hm.1] at c1
        rcases IXN_fnd (IXN_eq c1 (fun j q => hm.2.2.1 j q)) with d | d
        · exact c2 d.1
        · rw [a1] at d; exact absurd d.2.2 (by simp)
      · rw [w, ← hm.2.1] at c1
        rcases IXN_fnd (IXN_eq c1 (fun j q => hm.2.2.2 j q)) with d | d
        · exact c2 d.1
        · rw [a2] at d; exact absurd d.2.2 (by simp)
theorem mf_y {en : EN} {th wi q1 q2 : Int32} {gT gW : Nat → Int64} {b a' : Nat} (l : LSG t n sg sa se vl lx wd) (ht : aR t 0 255) (kb : kB t n sa.toNatClampNeg = false) (hs : sg = 1) (o : own wd = false) (hm : RMN en th wi gT gW b) (c1 : IXN th.toNatClampNeg (fun j => gT (10 * b + j)) wd q1) (d1 : q1 = -1) (c2 : IXN wi.toNatClampNeg (fun j => gW (12 * b + j)) wd q2) (d2 : q2 = -1) (ea : a' = nx t n sa.toNatClampNeg) : eNew t n en sa.toNatClampNeg = some (wd, a') := by
  obtain ⟨q, w⟩ := mf_w l ht hs o
  have c1 := c1
  rw [w, ← hm.1] at c1
  rw [w, ← hm.2.1] at c2
  have f1 : fnd en.1 en.2.1 (kW t n sa.toNatClampNeg) = none := by
    rcases IXN_fnd (IXN_eq c1 (fun j q => hm.2.2.1 j q)) with d | d
    · exact d.2
    · rw [d1] at d; exact absurd d.1 (by decide)
  have f2 : fnd en.2.2.1 en.2.2.2.1 (kW t n sa.toNatClampNeg) = none := by
    rcases IXN_fnd (IXN_eq c2 (fun j q => hm.2.2.2 j q)) with d | d
    · exact d.2
    · rw [d2] at d; exact absurd d.1 (by decide)
  unfold eNew sNew
  rw [if_neg (by rw [kb]; decide), if_neg (by rw [q]; decide), if_pos ⟨f1, f2⟩, w, ea]
/-- a THING that is looked at -/
def RMT (th : Int32) (gT : Nat → Int64) (b : Nat) (f : Nat → Int64) : Prop := ∀ j, j < th.toNatClampNeg → gT (10 * b + j) = f j
theorem ml_t {c : Nat} {f : Nat → Int64} (h : tq t n sa.toNatClampNeg 258 = false) : sLook t n c f sa.toNatClampNeg = none := by
  unfold sLook
  split
  · rfl
  · first | rfl | rw [if_pos h]
theorem ml_0 {c : Nat} {f : Nat → Int64} (l : LSG t n sg sa se vl lx wd) (ht : aR t 0 255) (h : ¬ sg = 1) : sLook t n c f sa.toNatClampNeg = none := ml_t (by rw [← LS_m l ht, decide_eq_false h]; rfl)
theorem ml_1 {c : Nat} {f : Nat → Int64} (l : LSG t n sg sa se vl lx wd) (ht : aR t 0 255) (h : own wd = true) : sLook t n c f sa.toNatClampNeg = none := ml_t (by rw [← LS_m l ht, h]; simp)
theorem ml_2 {th q1 : Int32} {gT f : Nat → Int64} {b : Nat} (l : LSG t n sg sa se vl lx wd) (hs : sg = 1) (hm : RMT th gT b f) (c1 : IXN th.toNatClampNeg (fun j => gT (10 * b + j)) wd q1) (d1 : q1 = -1) : sLook t n th.toNatClampNeg f sa.toNatClampNeg = none := by
  have w := l.2.2.2.2.1 hs
  rw [w] at c1
  unfold sLook
  split
  · rfl
  · split
    · rfl
    · rcases IXN_fnd (IXN_eq c1 (fun j q => hm j q)) with d | d
      · exact d.2
      · rw [d1] at d; exact absurd d.1 (by decide)
theorem ml_y {th q1 : Int32} {gT f : Nat → Int64} {b : Nat} (l : LSG t n sg sa se vl lx wd) (ht : aR t 0 255) (kb : kB t n sa.toNatClampNeg = false) (hs : sg = 1) (o : own wd = false) (hm : RMT th gT b f) (c1 : IXN th.toNatClampNeg (fun j => gT (10 * b + j)) wd q1) (d1 : ¬ q1 = -1) (hth : iR th 0 10) : kB t n sa.toNatClampNeg = false ∧ tq t n sa.toNatClampNeg 258 = true ∧ ∃ k, k < th.toNatClampNeg ∧ sLook t n th.toNatClampNeg f sa.toNatClampNeg = some k ∧ q1 = nI k := by
  obtain ⟨q, w⟩ := mf_w l ht hs o
  rw [w] at c1
  rcases IXN_fnd (IXN_eq c1 (fun j q => hm j q)) with d | d
  · exact absurd d.1 d1
  · refine ⟨kb, q, q1.toNatClampNeg, d.2.1, ?_, (i_idx d.1 d.2.1 hth).2⟩
    unfold sLook
    rw [if_neg (by rw [kb]; decide), if_neg (by rw [q]; decide)]
    exact d.2.2
end
/-- rows of THINGS: at the loop's head -/
def MRo (t : Nat → Int32) (n : Nat) (E0 : Option Nat) (th : Int32) (f : Nat → Int64) (but set more fk : Int32) (a : Nat) : Prop := (0 < fk ∧ E0 = none ∧ more = 0) ∨ (fk = 0 ∧ ¬ more = 0 ∧ ∃ S, BS (set ||| but) S ∧ E0 = sRow t n th.toNatClampNeg f S a) ∨ (fk = 0 ∧ more = 0 ∧ E0 = some a ∧ kB t n a = false)
section
variable {t : Nat → Int32} {n : Nat} {sg sa se vl lx fk f1 f2 sg' sa' se' vl' lx' th but set set' bit r more E0f : Int32} {wd wd' : Int64} {E0 : Option Nat} {f : Nat → Int64}
/-- a step of it: looked at, not barred, passed -/
theorem mr_s {S : Nat → Bool} {k : Nat} (ha : sa.toNatClampNeg ≤ n) (hS : BS (set ||| but) S) (e : E0 = sRow t n th.toNatClampNeg f S sa.toNatClampNeg) (hk : sLook t n th.toNatClampNeg f sa.toNatClampNeg = some k) : E0 = if S k = true then none else if kB t n (nx t n sa.toNatClampNeg) = true then none else if tq t n (nx t n sa.toNatClampNeg) 258 = true then sRow t n th.toNatClampNeg f (ins k S) (nx t n sa.toNatClampNeg) else some (nx t n sa.toNatClampNeg) := by
  rw [e, sRow_eq ha]
  unfold sRowK
  rw [hk]
theorem mr_n {S : Nat → Bool} (ha : sa.toNatClampNeg ≤ n) (e : E0 = sRow t n th.toNatClampNeg f S sa.toNatClampNeg) (hk : sLook t n th.toNatClampNeg f sa.toNatClampNeg = none) : E0 = none := by
  rw [e, sRow_eq ha]
  unfold sRowK
  rw [hk]
end
/-- what a THING looked at comes to -/
def LKo (t : Nat → Int32) (n : Nat) (th : Int32) (f : Nat → Int64) (a : Nat) (r f1 : Int32) : Prop := (0 < f1 ∧ sLook t n th.toNatClampNeg f a = none) ∨ (f1 = 0 ∧ kB t n a = false ∧ tq t n a 258 = true ∧ ∃ k, k < th.toNatClampNeg ∧ sLook t n th.toNatClampNeg f a = some k ∧ r = nI k)
section
variable {t : Nat → Int32} {n a a' : Nat} {fk f1 th but set set' b2 r more : Int32} {E0 : Option Nat} {f : Nat → Int64}
theorem mr_A (h : MRo t n E0 th f but set more fk a) (hm : ¬ more = 0) (ha : a ≤ n) (hl : fk = 0 → LKo t n th f a r f1) (hf : ¬ f1 = 0) : E0 = none := by
  rcases h with h | ⟨h1, h2, S, h3, h4⟩ | h
  · exact absurd h.2.2 hm
  · rcases hl h1 with q | q
    · rw [h4, sRow_eq ha]
      unfold sRowK
      rw [q.2]
    · exact absurd q.1 hf
  · exact absurd h.2.1 hm
theorem mr_C (h : MRo t n E0 th f but set more fk a) (hm : ¬ more = 0) (ha : a ≤ n) (hl : fk = 0 → LKo t n th f a r f1) (hf : f1 = 0) (ht : iR th 0 10) : ∃ k S, k < 10 ∧ r = nI k ∧ a < n ∧ BS (set ||| but) S ∧ E0 = if S k = true then none else if kB t n (nx t n a) = true then none else if tq t n (nx t n a) 258 = true then sRow t n th.toNatClampNeg f (ins k S) (nx t n a) else some (nx t n a) := by
  have c := iR_cn ht (by decide)
  have c2 := ht.2
  rcases h with h | ⟨h1, h2, S, h3, h4⟩ | h
  · exact absurd h.2.2 hm
  · rcases hl h1 with q | ⟨q1, q2, q3, k, q4, q5, q6⟩
    · exact absurd hf (f_ne q.1)
    · refine ⟨k, S, by omega, q6, tq_lt q3 (by decide), h3, ?_⟩
      rw [h4, sRow_eq ha]
      unfold sRowK
      rw [q5]
  · exact absurd h.2.1 hm
theorem mr_B (h : MRo t n E0 th f but set more fk a) (hm : ¬ more = 0) (ha : a ≤ n) (hl : fk = 0 → LKo t n th f a r f1) (hf : f1 = 0) (ht : iR th 0 10) (hb : ((set ||| but) >>> (r &&& 31)) &&& 1 = 1) : E0 = none := by
  obtain ⟨k, S, k10, er, al, hS, e⟩ := mr_C h hm ha hl hf ht
  rw [er] at hb
  have q := (hbit (by omega)).mp hb
  rw [hS k k10] at q
  rw [e, if_pos q]
theorem mr_D (h : MRo t n E0 th f but set more fk a) (hm : ¬ more = 0) (ha : a ≤ n) (hl : fk = 0 → LKo t n th f a r f1) (hf : f1 = 0) (ht : iR th 0 10) (hb : ¬ ((set ||| but) >>> (r &&& 31)) &&& 1 = 1) (e2 : b2 = (1 : Int32) <<< (r &&& 31)) (es : set' = set ||| b2) : a < n ∧ ∃ S', BS (set' ||| but) S' ∧ E0 = if kB t n (nx t n a) = true then none else if tq t n (nx t n a) 258 = true then sRow t n th.toNatClampNeg f S' (nx t n a) else some (nx t n a) := by
  obtain ⟨k, S, k10, er, al, hS, e⟩ := mr_C h hm ha hl hf ht
  have sk : S k = false := by
    cases z : S k with
    | false => rfl
    | true =>
      rw [← hS k k10] at z
      rw [er] at hb
      exact absurd ((hbit (by omega)).mpr z) hb
  refine ⟨al, ins k S, ?_, by rw [e, if_neg (by rw [sk]; decide)]⟩
  rw [es]
  rw [er] at e2
  exact BS_or3 (BS_ins hS k10 e2)
/-- where the row goes on, ends, is wrong -/
theorem mr_x (d : a < n ∧ ∃ S', BS (set' ||| but) S' ∧ E0 = if kB t n (nx t n a) = true then none else if tq t n (nx t n a) 258 = true then sRow t n th.toNatClampNeg f S' (nx t n a) else some (nx t n a)) (ea : a' = nx t n a) (h : kB t n a' = true) : E0 = none := by
  obtain ⟨-, S', -, e⟩ := d
  rw [e, ← ea, if_pos h]
theorem mr_e (d : a < n ∧ ∃ S', BS (set' ||| but) S' ∧ E0 = if kB t n (nx t n a) = true then none else if tq t n (nx t n a) 258 = true then sRow t n th.toNatClampNeg f S' (nx t n a) else some (nx t n a)) (ea : a' = nx t n a) (h : kB t n a' = false) (q : tq t n a' 258 = false) : E0 = some a' := by
  obtain ⟨-, S', -, e⟩ := d
  rw [e, ← ea, if_neg (by rw [h]; decide), if_neg (by rw [q]; decide)]
theorem mr_g (d : a < n ∧ ∃ S', BS (set' ||| but) S' ∧ E0 = if kB t n (nx t n a) = true then none else if tq t n (nx t n a) 258 = true then sRow t n th.toNatClampNeg f S' (nx t n a) else some (nx t n a)) (ea : a' = nx t n a) (h : kB t n a' = false) (q : tq t n a' 258 = true) : ∃ S', BS (set' ||| but) S' ∧ E0 = sRow t n th.toNatClampNeg f S' a' := by
  obtain ⟨-, S', hS, e⟩ := d
  rw [← ea, if_neg (by rw [h]; decide), if_pos q] at e
  exact ⟨S', hS, e⟩
theorem mr_0 {S : Nat → Bool} (hS : BS but S) : MRo t n (sRow t n th.toNatClampNeg f S a) th f but 0 1 0 a := Or.inr (Or.inl ⟨rfl, by decide, S, fun j hj => by rw [b_or, b_0, hS j hj]; rfl, rfl⟩)
end
/-- a THING's STATEMENT up to the word brief -/
theorem mT5 {t : Nat → Int32} {n a : Nat} {en : EN} {w1 : Int64} {fk f1 f2 f3 f4 f5 r3 r5 : Int32} {a1 a2 a3 a4 a5 : Nat}
    (h1 : fk = 0 → (0 < f1 ∧ eNew t n en a = none) ∨ (f1 = 0 ∧ eNew t n en a = some (w1, a1))) (h2 : f1 = 0 → (0 < f2 ∧ sMust t n 301 a1 = none) ∨ (f2 = 0 ∧ sMust t n 301 a1 = some a2)) (h3 : f2 = 0 → (0 < f3 ∧ sNum t n 0 99 a2 = none) ∨ (f3 = 0 ∧ sNum t n 0 99 a2 = some (r3, a3))) (h4 : f3 = 0 → (0 < f4 ∧ sMust t n 302 a3 = none) ∨ (f4 = 0 ∧ sMust t n 302 a3 = some a4)) (h5 : f4 = 0 → (0 < f5 ∧ sNum t n 1 9 a4 = none) ∨ (f5 = 0 ∧ sNum t n 1 9 a4 = some (r5, a5)))
    (x1 : 0 < f1 → 0 < f2) (x2 : 0 < f2 → 0 < f3) (x3 : 0 < f3 → 0 < f4) (x4 : 0 < f4 → 0 < f5) (z : fk = 0) : (0 < f5 ∧ eT5 t n en a = none) ∨ (f5 = 0 ∧ eT5 t n en a = if kB t n a5 = true then none else some (w1, a5)) := by
  unfold eT5
  rcases h1 z with q | ⟨q, e1⟩
  · rw [q.2]; exact Or.inl ⟨x4 (x3 (x2 (x1 q.1))), rfl⟩
  · rw [e1]
    rcases h2 q with u | ⟨u, e2⟩
    · refine Or.inl ⟨x4 (x3 (x2 u.1)), ?_⟩
      show ((sMust t n 301 a1).bind fun b => _) = none
      rw [u.2]; rfl
    · rcases h3 u with v | ⟨v, e3⟩
      · refine Or.inl ⟨x4 (x3 v.1), ?_⟩
        show ((sMust t n 301 a1).bind fun b => _) = none
        rw [e2]
        show ((sNum t n 0 99 a2).bind fun b => _) = none
        rw [v.2]; rfl
      · rcases h4 v with s | ⟨s, e4⟩
        · refine Or.inl ⟨x4 s.1, ?_⟩
          show ((sMust t n 301 a1).bind fun b => _) = none
          rw [e2]
          show ((sNum t n 0 99 a2).bind fun b => _) = none
          rw [e3]
          show ((sMust t n 302 a3).bind fun b => _) = none
          rw [s.2]; rfl
        · rcases h5 s with p | ⟨p, e5⟩
          · refine Or.inl ⟨p.1, ?_⟩
            show ((sMust t n 301 a1).bind fun b => _) = none
            rw [e2]
            show ((sNum t n 0 99 a2).bind fun b => _) = none
            rw [e3]
            show ((sMust t n 302 a3).bind fun b => _) = none
            rw [e4]
            show ((sNum t n 1 9 a4).bind fun b => _) = none
            rw [p.2]; rfl
          · refine Or.inr ⟨p, ?_⟩
            show ((sMust t n 301 a1).bind fun b => _) = _
            rw [e2]
            show ((sNum t n 0 99 a2).bind fun b => _) = _
            rw [e3]
            show ((sMust t n 302 a3).bind fun b => _) = _
            rw [e4]
            show ((sNum t n 1 9 a4).bind fun b => _) = _
            rw [e5]; rfl
/-- the word brief, or none; f6: what the look at the token told -/
theorem mT6 {t : Nat → Int32} {n a a5 a6 : Nat} {en : EN} {w1 : Int64} {f5 f6 : Int32} (h : (0 < f5 ∧ eT5 t n en a = none) ∨ (f5 = 0 ∧ eT5 t n en a = if kB t n a5 = true then none else some (w1, a5))) (kb : f5 = 0 → (0 < f6 ∧ kB t n a5 = true) ∨ (f6 = 0 ∧ kB t n a5 = false)) (x : 0 < f5 → 0 < f6) (e : (tq t n a5 303 = true ∧ a6 = nx t n a5) ∨ (tq t n a5 303 = false ∧ a6 = a5)) : (0 < f6 ∧ sThing t n en a = none) ∨ (f6 = 0 ∧ sThing t n en a = some (addT en w1, a6)) := by
  rw [sThing_5]
  rcases h with h | ⟨h1, h2⟩
  · rw [h.2]; exact Or.inl ⟨x h.1, rfl⟩
  · rcases kb h1 with k | ⟨k1, k2⟩
    · rw [if_pos k.2] at h2
      rw [h2]; exact Or.inl ⟨k.1, rfl⟩
    · rw [if_neg (by rw [k2]; decide)] at h2
      rw [h2]
      refine Or.inr ⟨k1, ?_⟩
      show some (addT en w1, if tq t n a5 303 = true then nx t n a5 else a5) = _
      rcases e with ⟨e1, e2⟩ | ⟨e1, e2⟩
      · rw [if_pos e1, e2]
      · rw [if_neg (by rw [e1]; decide), e2]
theorem mT6' {t : Nat → Int32} {n a a5 : Nat} {en : EN} {w1 : Int64} {f5 f6 : Int32} (h : (0 < f5 ∧ eT5 t n en a = none) ∨ (f5 = 0 ∧ eT5 t n en a = if kB t n a5 = true then none else some (w1, a5))) (kb : f5 = 0 → (0 < f6 ∧ kB t n a5 = true) ∨ (f6 = 0 ∧ kB t n a5 = false)) (x : 0 < f5 → 0 < f6) (p : 0 < f6) : sThing t n en a = none := by
  rcases mT6 (a6 := if tq t n a5 303 = true then nx t n a5 else a5) h kb x (by
    cases z : tq t n a5 303 with
    | true => exact Or.inl ⟨rfl, if_pos rfl⟩
    | false => exact Or.inr ⟨rfl, if_neg (by decide)⟩) with q | q
  · exact q.2
  · exact absurd q.1 (f_ne p)
theorem RMN_T {en : EN} {th wi th' : Int32} {gT gW : Nat → Int64} {b k : Nat} {w : Int64} (h : RMN en th wi gT gW b) (e : th'.toNatClampNeg = th.toNatClampNeg + 1) (ek : k = 10 * b + th.toNatClampNeg) : RMN (addT en w) th' wi (vp_updL gT k w) gW b := by
  obtain ⟨h1, h2, h3, h4⟩ := h
  refine ⟨?_, h2, ?_, h4⟩
  · show en.1 + 1 = th'.toNatClampNeg
    rw [e, h1]
  · intro j hj
    have hj : j < en.1 + 1 := hj
    show vp_updL gT k w (10 * b + j) = if j = en.1 then w else en.2.1 j
    unfold vp_updL
    by_cases c : j = en.1
    · rw [if_pos c, if_pos (by rw [ek, c, h1])]
    · rw [if_neg c, if_neg (by rw [ek, ← h1]; omega)]; exact h3 j (by omega)
theorem RMN_W {en : EN} {th wi wi' : Int32} {gT gW : Nat → Int64} {b k : Nat} {w : Int64} (h : RMN en th wi gT gW b) (e : wi'.toNatClampNeg = wi.toNatClampNeg + 1) (ek : k = 12 * b + wi.toNatClampNeg) : RMN (addW en w) th wi' gT (vp_updL gW k w) b := by
  obtain ⟨h1, h2, h3, h4⟩ := h
  refine ⟨h1, ?_, h3, ?_⟩
  · show en.2.2.1 + 1 = wi'.toNatClampNeg
    rw [e, h2]
  · intro j hj
    have hj : j < en.2.2.1 + 1 := hj
    show vp_updL gW k w (12 * b + j) = if j = en.2.2.1 then w else en.2.2.2.1 j
    unfold vp_updL
    by_cases c : j = en.2.2.1
    · rw [if_pos c, if_pos (by rw [ek, c, h2])]
    · rw [if_neg c, if_neg (by rw [ek, ← h2]; omega)]; exact h4 j (by omega)
/-- a WISH's STATEMENT up to what it gives -/
def eW5 (t : Nat → Int32) (n : Nat) (en : EN) (a : Nat) : Option (Int64 × Nat × Nat) :=
  (eNew t n en a).bind fun x => (sMust t n 305 x.2).bind fun b => (sNum t n 0 9 b).bind fun y => (sMust t n 306 y.2).bind fun b => (sLook t n en.1 en.2.1 b).bind fun k => some (x.1, k, nx t n b)
def eW7 (t : Nat → Int32) (n : Nat) (en : EN) (x : Int64 × Nat × Nat) : Option (EN × Nat) := (sNeeds t n en.1 en.2.1 307 none9 x.2.2).bind fun b => (sNeeds t n en.1 en.2.1 308 (ins x.2.1 none9) b).bind fun b => some (addW en x.1, b)
theorem ob_a {α β γ : Type} {x : Option α} {f : α → Option β} {g : β → Option γ} : (x.bind f).bind g = x.bind (fun y => (f y).bind g) := by cases x <;> rfl
theorem sWish_5 {t : Nat → Int32} {n a : Nat} {en : EN} : sWish t n en a = (eW5 t n en a).bind (eW7 t n en) := by
  unfold sWish eW5 eNew
  rw [ob_a]; congr 1; funext x
  rw [ob_a]; congr 1; funext b
  rw [ob_a]; congr 1; funext y
  rw [ob_a]; congr 1; funext b
  rw [ob_a]; congr 1
theorem mW5 {t : Nat → Int32} {n a : Nat} {en : EN} {w1 : Int64} {fk f1 f2 f3 f4 f5 r3 r5 th : Int32} {a1 a2 a3 a4 : Nat}
    (h1 : fk = 0 → (0 < f1 ∧ eNew t n en a = none) ∨ (f1 = 0 ∧ eNew t n en a = some (w1, a1))) (h2 : f1 = 0 → (0 < f2 ∧ sMust t n 305 a1 = none) ∨ (f2 = 0 ∧ sMust t n 305 a1 = some a2)) (h3 : f2 = 0 → (0 < f3 ∧ sNum t n 0 9 a2 = none) ∨ (f3 = 0 ∧ sNum t n 0 9 a2 = some (r3, a3))) (h4 : f3 = 0 → (0 < f4 ∧ sMust t n 306 a3 = none) ∨ (f4 = 0 ∧ sMust t n 306 a3 = some a4)) (h5 : f4 = 0 → LKo t n th en.2.1 a4 r5 f5) (et : en.1 = th.toNatClampNeg)
    (x1 : 0 < f1 → 0 < f2) (x2 : 0 < f2 → 0 < f3) (x3 : 0 < f3 → 0 < f4) (x4 : 0 < f4 → 0 < f5) (z : fk = 0) : (0 < f5 ∧ eW5 t n en a = none) ∨ (f5 = 0 ∧ ∃ k, k < th.toNatClampNeg ∧ r5 = nI k ∧ eW5 t n en a = some (w1, k, nx t n a4)) := by
  unfold eW5
  rcases h1 z with q | ⟨q, e1⟩
  · rw [q.2]; exact Or.inl ⟨x4 (x3 (x2 (x1 q.1))), rfl⟩
  · rw [e1]
    rcases h2 q with u | ⟨u, e2⟩
    · refine Or.inl ⟨x4 (x3 (x2 u.1)), ?_⟩
      show ((sMust t n 305 a1).bind fun b => _) = none
      rw [u.2]; rfl
    · rcases h3 u with v | ⟨v, e3⟩
      · refine Or.inl ⟨x4 (x3 v.1), ?_⟩
        show ((sMust t n 305 a1).bind fun b => _) = none
        rw [e2]
        show ((sNum t n 0 9 a2).bind fun b => _) = none
        rw [v.2]; rfl
      · rcases h4 v with s | ⟨s, e4⟩
        · refine Or.inl ⟨x4 s.1, ?_⟩
          show ((sMust t n 305 a1).bind fun b => _) = none
          rw [e2]
          show ((sNum t n 0 9 a2).bind fun b => _) = none
          rw [e3]
          show ((sMust t n 306 a3).bind fun b => _) = none
          rw [s.2]; rfl
        · have fin : ∀ X, ((sLook t n en.1 en.2.1 a4).bind fun k => some (w1, k, nx t n a4)) = X → ((some (w1, a1)).bind fun x => (sMust t n 305 x.2).bind fun b => (sNum t n 0 9 b).bind fun y => (sMust t n 306 y.2).bind fun b => (sLook t n en.1 en.2.1 b).bind fun k => some (x.1, k, nx t n b)) = X := by
            intro X hX
            show ((sMust t n 305 a1).bind fun b => _) = X
            rw [e2]
            show ((sNum t n 0 9 a2).bind fun b => _) = X
            rw [e3]
            show ((sMust t n 306 a3).bind fun b => _) = X
            rw [e4]
            exact hX
          have h6 := h5 s
          unfold LKo at h6
          rw [← et] at h6
          rcases h6 with p | ⟨p1, p2, p3, k, p4, p5, p6⟩
          · exact Or.inl ⟨p.1, fin _ (by rw [p.2]; rfl)⟩
          · exact Or.inr ⟨p1, k, by rw [← et]; exact p4, p6, fin _ (by rw [p5]; rfl)⟩

section
variable {t : Nat → Int32} {n a b c d : Nat} {en : EN} {w1 : Int64} {f5 f6 f7 f8 f9 r5 th : Int32} {S : Nat → Bool} {k9 : Int32}
theorem mN_n {cT : Nat} {nT : Nat → Int64} (h : kB t n b = false) (q : tq t n b k9 = false) : sNeeds t n cT nT k9 S b = some b := by
  unfold sNeeds; rw [if_neg (by rw [h]; decide), if_neg (by rw [q]; decide)]
theorem mN_y {cT : Nat} {nT : Nat → Int64} (h : kB t n b = false) (q : tq t n b k9 = true) : sNeeds t n cT nT k9 S b = sRow t n cT nT S (nx t n b) := by
  unfold sNeeds; rw [if_neg (by rw [h]; decide), if_pos q]
def W5o (t : Nat → Int32) (n : Nat) (en : EN) (a b : Nat) (w1 : Int64) (th r5 f5 : Int32) : Prop := (0 < f5 ∧ eW5 t n en a = none) ∨ (f5 = 0 ∧ ∃ k, k < th.toNatClampNeg ∧ r5 = nI k ∧ eW5 t n en a = some (w1, k, b))
theorem mW_a (h : W5o t n en a b w1 th r5 f5) (kb : f5 = 0 → kB t n b = true) : sWish t n en a = none := by
  rw [sWish_5]
  rcases h with h | ⟨h1, k, h2, h3, h4⟩
  · rw [h.2]; rfl
  · rw [h4]
    show ((sNeeds t n en.1 en.2.1 307 none9 b).bind fun b => (sNeeds t n en.1 en.2.1 308 (ins k none9) b).bind fun b => some (addW en w1, b)) = none
    rw [sNeeds_bad (kb h1)]; rfl
theorem mW_n (h : W5o t n en a b w1 th r5 f5) (hN : f5 = 0 → sNeeds t n en.1 en.2.1 307 none9 b = none) : sWish t n en a = none := by
  rw [sWish_5]
  rcases h with h | ⟨h1, k, h2, h3, h4⟩
  · rw [h.2]; rfl
  · rw [h4]
    show ((sNeeds t n en.1 en.2.1 307 none9 b).bind fun b => (sNeeds t n en.1 en.2.1 308 (ins k none9) b).bind fun b => some (addW en w1, b)) = none
    rw [hN h1]; rfl
theorem mW_u (h : W5o t n en a b w1 th r5 f5) (hN : sNeeds t n en.1 en.2.1 307 none9 b = some c) (hU : ∀ k, k < th.toNatClampNeg → r5 = nI k → sNeeds t n en.1 en.2.1 308 (ins k none9) c = none) : sWish t n en a = none := by
  rw [sWish_5]
  rcases h with h | ⟨h1, k, h2, h3, h4⟩
  · rw [h.2]; rfl
  · rw [h4]
    show ((sNeeds t n en.1 en.2.1 307 none9 b).bind fun b => (sNeeds t n en.1 en.2.1 308 (ins k none9) b).bind fun b => some (addW en w1, b)) = none
    rw [hN]
    show ((sNeeds t n en.1 en.2.1 308 (ins k none9) c).bind fun b => some (addW en w1, b)) = none
    rw [hU k h2 h3]; rfl
theorem mW_y (h : W5o t n en a b w1 th r5 f5) (z : f5 = 0) (hN : sNeeds t n en.1 en.2.1 307 none9 b = some c) (hU : ∀ k, k < th.toNatClampNeg → r5 = nI k → sNeeds t n en.1 en.2.1 308 (ins k none9) c = some d) : sWish t n en a = some (addW en w1, d) := by
  rw [sWish_5]
  rcases h with h | ⟨h1, k, h2, h3, h4⟩
  · exact absurd z (f_ne h.1)
  · rw [h4]
    show ((sNeeds t n en.1 en.2.1 307 none9 b).bind fun b => (sNeeds t n en.1 en.2.1 308 (ins k none9) b).bind fun b => some (addW en w1, b)) = _
    rw [hN]
    show ((sNeeds t n en.1 en.2.1 308 (ins k none9) c).bind fun b => some (addW en w1, b)) = _
    rw [hU k h2 h3]; rfl
end
/-! which THING is first -/
theorem mF_n {t : Nat → Int32} {n a : Nat} {en : EN} (h : sLook t n en.1 en.2.1 a = none) : sFirst t n en a = none := by unfold sFirst; rw [h]; rfl
theorem mF_b {t : Nat → Int32} {n a k : Nat} {en : EN} {fb r : Int32} (h : sLook t n en.1 en.2.1 a = some k) (hb : BS fb en.2.2.2.2.1) (hk : k < 10) (er : r = nI k) (q : (fb >>> (r &&& 31)) &&& 1 = 1) : sFirst t n en a = none := by
  rw [er] at q
  have z := (hbit (by omega)).mp q
  rw [hb k hk] at z
  unfold sFirst
  rw [h]
  show (if en.2.2.2.2.1 k = true then none else _) = none
  rw [if_pos z]
def setF (en : EN) (k : Nat) : EN := (en.1, en.2.1, en.2.2.1, en.2.2.2.1, ins k en.2.2.2.2.1, en.2.2.2.2.2)
theorem mF_y {t : Nat → Int32} {n a a' k : Nat} {en : EN} {fb r : Int32} (h : sLook t n en.1 en.2.1 a = some k) (hb : BS fb en.2.2.2.2.1) (hk : k < 10) (er : r = nI k) (q : ¬ (fb >>> (r &&& 31)) &&& 1 = 1) (ea : a' = nx t n a) : sFirst t n en a = some (setF en k, a') := by
  have z : ¬ en.2.2.2.2.1 k = true := by
    intro w
    rw [← hb k hk] at w
    rw [er] at q
    exact q ((hbit (by omega)).mpr w)
  unfold sFirst
  rw [h]
  show (if en.2.2.2.2.1 k = true then none else some (_, nx t n a)) = _
  rw [if_neg z, ea]; rfl
/-! the reference's bank, and what a text has told -/
def RM (en : EN) (th wi fb dF rF cF be : Int32) (gT gW : Nat → Int64) (b : Nat) : Prop := RMN en th wi gT gW b ∧ BS fb en.2.2.2.2.1 ∧ en.2.2.2.2.2.1 = decide (¬ dF = -1) ∧ en.2.2.2.2.2.2.1 = decide (¬ rF = -1) ∧ en.2.2.2.2.2.2.2.1 = decide (¬ cF = -1) ∧ be = en.2.2.2.2.2.2.2.2
/-- at the head of the reference's loop over STATEMENTS -/
def SMo (t : Nat → Int32) (n : Nat) (E0 : Option (EN × Nat)) (fk ns : Int32) (a : Nat) (th wi fb dF rF cF be : Int32) (gT gW : Nat → Int64) (b : Nat) : Prop := (0 < fk ∧ E0 = none) ∨ (fk = 0 ∧ ns.toNatClampNeg ≤ 80 ∧ (ns.toNatClampNeg = 80 → n ≤ a) ∧ ∃ en, E0 = sSh t n en ns.toNatClampNeg a ∧ RM en th wi fb dF rF cF be gT gW b)
def MSo (t : Nat → Int32) (n : Nat) (en : EN) (a : Nat) (fk' : Int32) (a' : Nat) (th wi fb dF rF cF be : Int32) (gT gW : Nat → Int64) (b : Nat) : Prop := (0 < fk' ∧ (kB t n a = true ∨ sBody t n en a = none)) ∨ (fk' = 0 ∧ kB t n a = false ∧ ∃ en', sBody t n en a = some (en', a') ∧ RM en' th wi fb dF rF cF be gT gW b)
def FIo (t : Nat → Int32) (n : Nat) (ns : Int32) (a : Nat) (fk' : Int32) (a' : Nat) : Prop := (0 < fk' ∧ (sMust t n 59 a = none ∨ (ns.toNatClampNeg = 80 ∧ ∃ b, sMust t n 59 a = some b ∧ b < n))) ∨ (fk' = 0 ∧ sMust t n 59 a = some a' ∧ (ns.toNatClampNeg = 80 → n ≤ a'))
section
variable {t : Nat → Int32} {n a a1 a2 : Nat} {E0 : Option (EN × Nat)} {fk f1 f2 ns ns' : Int32} {th wi fb dF rF cF be th' wi' fb' dF' rF' cF' be' : Int32} {gT gW gT' gW' : Nat → Int64} {b : Nat}
theorem m_h1 (h : SMo t n E0 fk ns a th wi fb dF rF cF be gT gW b) (c : fk = 0) (hn : a < n) (h1 : ∀ en, RM en th wi fb dF rF cF be gT gW b → MSo t n en a f1 a1 th' wi' fb' dF' rF' cF' be' gT' gW' b) (h2 : f1 = 0 → FIo t n ns' a1 f2 a2) (x : 0 < f1 → 0 < f2) (es : ns'.toNatClampNeg = ns.toNatClampNeg + 1) : SMo t n E0 f2 ns' a2 th' wi' fb' dF' rF' cF' be' gT' gW' b := by
  rcases h with h | ⟨z, h3, h4, en, h5, h6⟩
  · exact absurd c (f_ne h.1)
  · have s80 : ns.toNatClampNeg < 80 := by
      by_cases q : ns.toNatClampNeg = 80
      · have := h4 q; omega
      · omega
    rw [sSh_eq h3] at h5
    rcases h1 en h6 with ⟨q1, q2⟩ | ⟨q1, q2, en', q3, q4⟩
    · refine Or.inl ⟨x q1, ?_⟩
      rcases q2 with q2 | q2
      · rw [h5, if_pos q2]
      · rw [h5]
        split
        · rfl
        · rw [if_neg (by omega)]
          unfold sStmt
          rw [q2]
          split
          · rfl
          · split <;> rfl
    · rw [if_neg (by rw [q2]; decide), if_neg (by omega)] at h5
      have e : sStmt t n en ns.toNatClampNeg a = (sMust t n 59 a1).bind fun b => some (en', b) := by
        unfold sStmt
        rw [if_neg (by rw [q2]; decide), if_neg (by omega), q3]
        rfl
      rw [e] at h5
      rcases h2 q1 with ⟨u1, u2⟩ | ⟨u1, u2, u3⟩
      · refine Or.inl ⟨u1, ?_⟩
        rw [h5]
        rcases u2 with u2 | ⟨u2, b9, u3, u4⟩
        · rw [u2]; rfl
        · rw [u3]
          show sSh t n en' (ns.toNatClampNeg + 1) b9 = none
          rw [sSh_eq (by omega)]
          split
          · rfl
          · rw [if_neg (by omega)]
            unfold sStmt
            split
            · rfl
            · rw [if_pos (by omega)]; rfl
      · rw [u2] at h5
        have h5 : E0 = sSh t n en' (ns.toNatClampNeg + 1) a2 := h5
        exact Or.inr ⟨u1, by omega, u3, en', by rw [es]; exact h5, q4⟩
theorem m_h2 (h : SMo t n E0 fk ns a th wi fb dF rF cF be gT gW b) (c : ¬ fk = 0 ∨ (n ≤ a ∧ kB t n a = false)) : (0 < fk ∧ E0 = none) ∨ (fk = 0 ∧ ∃ en, E0 = some (en, ns.toNatClampNeg) ∧ RM en th wi fb dF rF cF be gT gW b) := by
  rcases h with h | ⟨z, h3, h4, en, h5, h6⟩
  · exact Or.inl h
  · rcases c with c | c
    · exact absurd z c
    · rw [sSh_eq h3, if_neg (by rw [c.2]; decide), if_pos c.1] at h5
      exact Or.inr ⟨z, en, h5, h6⟩
end
/-- a WISH's STATEMENT behind what it needs; behind what it uses up -/
def W7o (t : Nat → Int32) (n : Nat) (en : EN) (a cur : Nat) (w1 : Int64) (th r5 fk : Int32) : Prop := (0 < fk ∧ sWish t n en a = none) ∨ (fk = 0 ∧ kB t n cur = false ∧ ∃ b k, k < th.toNatClampNeg ∧ r5 = nI k ∧ eW5 t n en a = some (w1, k, b) ∧ sNeeds t n en.1 en.2.1 307 none9 b = some cur)
def W9o (t : Nat → Int32) (n : Nat) (en : EN) (a cur : Nat) (w1 : Int64) (fk : Int32) : Prop := (0 < fk ∧ sWish t n en a = none) ∨ (fk = 0 ∧ sWish t n en a = some (addW en w1, cur))
/-- what rowOf tells -/
def ROo (t : Nat → Int32) (n : Nat) (th : Int32) (f : Nat → Int64) (S : Nat → Bool) (a : Nat) (fk' : Int32) (a' : Nat) : Prop := (0 < fk' ∧ sRow t n th.toNatClampNeg f S a = none) ∨ (fk' = 0 ∧ sRow t n th.toNatClampNeg f S a = some a' ∧ kB t n a' = false)
section
variable {t : Nat → Int32} {n a b c cur : Nat} {en : EN} {w1 : Int64} {f5 f6 f7 f8 f9 r5 th but : Int32}
theorem w7_n (h : W5o t n en a b w1 th r5 f5) (z : f5 = 0) (kb : kB t n b = false) (q : tq t n b 307 = false) (f6z : f6 = 0) : W7o t n en a b w1 th r5 f6 := by
  rcases h with h | ⟨h1, k, h2, h3, h4⟩
  · exact absurd z (f_ne h.1)
  · exact Or.inr ⟨f6z, kb, b, k, h2, h3, h4, mN_n kb q⟩
theorem w7_y (h : W5o t n en a b w1 th r5 f5) (z : f5 = 0) (kb : kB t n b = false) (q : tq t n b 307 = true) (et : en.1 = th.toNatClampNeg) (hr : ROo t n th en.2.1 none9 (nx t n b) f6 c) : W7o t n en a c w1 th r5 f6 := by
  have e := mN_y (cT := en.1) (nT := en.2.1) (S := none9) kb q
  rcases h with h | ⟨h1, k, h2, h3, h4⟩
  · exact absurd z (f_ne h.1)
  · rcases hr with hr | ⟨r1, r2, r3⟩
    · exact Or.inl ⟨hr.1, mW_n (Or.inr ⟨h1, k, h2, h3, h4⟩) (fun _ => by rw [e, et]; exact hr.2)⟩
    · exact Or.inr ⟨r1, r3, b, k, h2, h3, h4, by rw [e, et]; exact r2⟩
theorem w9_n (h : W7o t n en a cur w1 th r5 f6) (z : f6 = 0) (q : tq t n cur 308 = false) (z9 : f9 = 0) : W9o t n en a cur w1 f9 := by
  rcases h with h | ⟨h1, h2, b, k, h3, h4, h5, h6⟩
  · exact absurd z (f_ne h.1)
  · exact Or.inr ⟨z9, mW_y (Or.inr ⟨z, k, h3, h4, h5⟩) z h6 (fun k' q1 q2 => mN_n h2 q)⟩
theorem w9_y {d : Nat} (h : W7o t n en a cur w1 th r5 f6) (z : f6 = 0) (q : tq t n cur 308 = true) (ht : iR th 0 10) (et : en.1 = th.toNatClampNeg) (eb : but = (1 : Int32) <<< (r5 &&& 31)) (hr : ∀ S, BS but S → ROo t n th en.2.1 S (nx t n cur) f9 d) : W9o t n en a d w1 f9 := by
  have cn := iR_cn ht (by decide)
  have c2 := ht.2
  rcases h with h | ⟨h1, h2, b, k, h3, h4, h5, h6⟩
  · exact absurd z (f_ne h.1)
  · have bs : BS but (ins k none9) := BS_1 (by omega) (by rw [eb, h4])
    have e := mN_y (cT := en.1) (nT := en.2.1) (S := ins k none9) h2 q
    have uq : ∀ k', k' < th.toNatClampNeg → r5 = nI k' → k' = k := fun k' q1 q2 => (nI_eq (by omega) (by omega)).mp (q2.symm.trans h4)
    rcases hr _ bs with hr | ⟨r1, r2, r3⟩
    · refine Or.inl ⟨hr.1, mW_u (f5 := f6) (Or.inr ⟨z, k, h3, h4, h5⟩) h6 (fun k' q1 q2 => ?_)⟩
      rw [uq k' q1 q2, e, et]; exact hr.2
    · refine Or.inr ⟨r1, mW_y (f5 := f6) (Or.inr ⟨z, k, h3, h4, h5⟩) z h6 (fun k' q1 q2 => ?_)⟩
      rw [uq k' q1 q2, e, et]; exact r2
theorem w7_f (h : W7o t n en a cur w1 th r5 f6) (x : ¬ f6 = 0) : sWish t n en a = none := by
  rcases h with h | h
  · exact h.2
  · exact absurd h.1 x
theorem w7_k (h : W7o t n en a cur w1 th r5 f6) (z : f6 = 0) : kB t n cur = false := by
  rcases h with h | h
  · exact absurd z (f_ne h.1)
  · exact h.2.1
end
theorem i_pos {f : Int32} {b : Int} (r : iR f 0 b) (h : ¬ f = 0) : 0 < f := by
  have q := r.1
  apply Int32.lt_iff_toInt_lt.mpr
  have z : (0 : Int32).toInt = 0 := by decide
  by_cases c : f.toInt = 0
  · exact absurd (Int32.toInt_inj.mp (by omega)) h
  · omega
theorem MRo_end {t : Nat → Int32} {n a a0 : Nat} {th but set more fk : Int32} {f : Nat → Int64} {S : Nat → Bool} (h : MRo t n (sRow t n th.toNatClampNeg f S a0) th f but set more fk a) (hm : more = 0) : ROo t n th f S a0 fk a := by
  rcases h with h | h | h
  · exact Or.inl ⟨h.1, h.2.1⟩
  · exact absurd hm h.2.1
  · exact Or.inr ⟨h.1, h.2.2.1, h.2.2.2⟩
section
variable {t : Nat → Int32} {n a a1 a6 : Nat} {en en' : EN} {w1 : Int64} {f6 : Int32} {th wi th' wi' : Int32} {gT gW gT' gW' : Nat → Int64} {b : Nat}
theorem tq_e {c : Int32} (h : tq t n a c = true) : tkc t n a = c := of_decide_eq_true h
theorem mB_T0 (h : tq t n a 300 = true) (hm : RMN en th wi gT gW b) (e : th = 10) : sBody t n en a = none := by
  rw [sB_300 (tq_e h), if_pos (by rw [hm.1, e]; decide)]
theorem mB_T (h : tq t n a 300 = true) (hm : RMN en th wi gT gW b) (e : ¬ th = 10) (ht : iR th 0 10) (ea : a1 = nx t n a) : sBody t n en a = sThing t n en a1 := by
  have c := iR_cn ht (by decide)
  have ne : ¬ en.1 = 10 := fun q => e (by
    rw [hm.1] at q
    apply Int32.toInt_inj.mp
    have z : (10 : Int32).toInt = 10 := by decide
    omega)
  rw [sB_300 (tq_e h), if_neg ne, ea]
theorem mB_W0 (h : tq t n a 304 = true) (hm : RMN en th wi gT gW b) (e : wi = 12) : sBody t n en a = none := by
  rw [sB_304 (tq_e h), if_pos (by rw [hm.2.1, e]; decide)]
theorem mB_W (h : tq t n a 304 = true) (hm : RMN en th wi gT gW b) (e : ¬ wi = 12) (ht : iR wi 0 12) (ea : a1 = nx t n a) : sBody t n en a = sWish t n en a1 := by
  have c := iR_cn ht (by decide)
  have ne : ¬ en.2.2.1 = 12 := fun q => e (by
    rw [hm.2.1] at q
    apply Int32.toInt_inj.mp
    have z : (12 : Int32).toInt = 12 := by decide
    omega)
  rw [sB_304 (tq_e h), if_neg ne, ea]
end
theorem LXQ_d {t : Nat → Int32} {n : Nat} {sg sa se vl lx f f' : Int32} {wd : Int64} (l : LSG t n sg sa se vl lx wd) (x : LXQ lx f f') (z : f = 0) : (0 < f' ∧ kB t n sa.toNatClampNeg = true) ∨ (f' = 0 ∧ kB t n sa.toNatClampNeg = false) := by
  rcases x with x | x
  · exact Or.inr ⟨x.2.trans z, l.2.2.2.2.2.2.2.mp x.1⟩
  · refine Or.inl ⟨x.2 z, ?_⟩
    cases c : kB t n sa.toNatClampNeg with
    | true => rfl
    | false => exact absurd (l.2.2.2.2.2.2.2.mpr c) x.1
