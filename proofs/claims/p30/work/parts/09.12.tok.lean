/-! the token at a: one for both readers. kS its sort (0 none, 1 word, 2 number, 3 sign), kE its end, kW the word, kV the number, kB whether it is wrong in itself -/
def kS (t : Nat → Int32) (n a : Nat) : Int32 := if n ≤ a then 0 else if cL (t a) = true then 1 else if cD (t a) = true then 2 else 3
def kE (t : Nat → Int32) (n a : Nat) : Nat := if n ≤ a then a else if cL (t a) = true then rn cL t n a else if cD (t a) = true then rn cD t n a else a + 1
def kW (t : Nat → Int32) (n a : Nat) : Int64 := fd cL (gw true) t n 0 a 0
def kV (t : Nat → Int32) (n a : Nat) : Int32 := fd cD (gv false) t n 0 a 0
def kB (t : Nat → Int32) (n a : Nat) : Bool := decide (a < n) && (aJ t n a || (if cL (t a) = true then decide (6 < kE t n a - a) && !(decide (kE t n a - a ≤ 8) && own (kW t n a)) else if cD (t a) = true then decide (4 < kE t n a - a) else false))
/-- what comes of the word hangs on no fault's place -/
theorem fdT_w (b : Bool) (a0 : Int32) (t : Nat → Int32) (n : Nat) : ∀ f k p lx w v, (fdF (cP b) (gT b a0) t n f k p (lx, w, v)).2.1 = fdF (cP b) (gw b) t n f k p w := by
  intro f
  induction f with
  | zero => intro k p lx w v; rfl
  | succ f ih =>
    intro k p lx w v
    show (if p < n ∧ cP b (t p) = true then fdF (cP b) (gT b a0) t n f (k + 1) (p + 1) (gT b a0 k (t p) (lx, w, v)) else (lx, w, v)).2.1 = if p < n ∧ cP b (t p) = true then fdF (cP b) (gw b) t n f (k + 1) (p + 1) (gw b k (t p) w) else w
    split
    · exact ih _ _ _ _ _
    · rfl
theorem fdT_v (b : Bool) (a0 : Int32) (t : Nat → Int32) (n : Nat) : ∀ f k p lx w v, (fdF (cP b) (gT b a0) t n f k p (lx, w, v)).2.2 = fdF (cP b) (gv b) t n f k p v := by
  intro f
  induction f with
  | zero => intro k p lx w v; rfl
  | succ f ih =>
    intro k p lx w v
    show (if p < n ∧ cP b (t p) = true then fdF (cP b) (gT b a0) t n f (k + 1) (p + 1) (gT b a0 k (t p) (lx, w, v)) else (lx, w, v)).2.2 = if p < n ∧ cP b (t p) = true then fdF (cP b) (gv b) t n f (k + 1) (p + 1) (gv b k (t p) v) else v
    split
    · exact ih _ _ _ _ _
    · rfl
theorem fdT_l (b : Bool) (a0 : Int32) (t : Nat → Int32) (n : Nat) : ∀ f k p lx w v, (fdF (cP b) (gT b a0) t n f k p (lx, w, v)).1 = if lx = -1 ∧ k ≤ mst b ∧ mst b < k + (rnF (cP b) t n f p - p) then a0 + mo b else lx := by
  intro f
  induction f with
  | zero =>
    intro k p lx w v
    show lx = if lx = -1 ∧ k ≤ mst b ∧ mst b < k + (p - p) then a0 + mo b else lx
    rw [if_neg (fun q => by omega)]
  | succ f ih =>
    intro k p lx w v
    show (if p < n ∧ cP b (t p) = true then fdF (cP b) (gT b a0) t n f (k + 1) (p + 1) (gT b a0 k (t p) (lx, w, v)) else (lx, w, v)).1 = if lx = -1 ∧ k ≤ mst b ∧ mst b < k + ((if p < n ∧ cP b (t p) = true then rnF (cP b) t n f (p + 1) else p) - p) then a0 + mo b else lx
    by_cases h : p < n ∧ cP b (t p) = true
    · rw [if_pos h, if_pos h]
      have r := rnF_le (cP b) t n f (p + 1)
      have e := ih (k + 1) (p + 1) (gx b a0 k lx) (gw b k (t p) w) (gv b k (t p) v)
      refine e.trans ?_
      by_cases hl : lx = -1
      · by_cases hk : k = mst b
        · have e1 : gx b a0 k lx = a0 + mo b := gx_y hk hl
          rw [e1, if_neg (fun q => by omega), if_pos ⟨hl, by omega, by omega⟩]
        · have e1 : gx b a0 k lx = lx := gx_n hk
          rw [e1]
          by_cases q : lx = -1 ∧ k + 1 ≤ mst b ∧ mst b < k + 1 + (rnF (cP b) t n f (p + 1) - (p + 1))
          · rw [if_pos q, if_pos ⟨hl, by omega, by omega⟩]
          · rw [if_neg q, if_neg (fun z => q ⟨hl, by omega, by omega⟩)]
      · have e1 : gx b a0 k lx = lx := gx_l hl
        rw [e1, if_neg (fun q => hl q.1), if_neg (fun q => hl q.1)]
    · rw [if_neg h, if_neg h, if_neg (fun q => by omega)]
theorem fT_l {b : Bool} {a0 : Int32} {t : Nat → Int32} {n a : Nat} {lx : Int32} : (fT b a0 t n 0 a lx 0 0).1 = if lx = -1 ∧ mst b < rn (cP b) t n a - a then a0 + mo b else lx := by
  have h := fdT_l b a0 t n (n - a) 0 a lx 0 0
  refine h.trans ?_
  show (if lx = -1 ∧ 0 ≤ mst b ∧ mst b < 0 + (rn (cP b) t n a - a) then _ else _) = _
  by_cases q : lx = -1 ∧ mst b < rn (cP b) t n a - a
  · rw [if_pos q, if_pos ⟨q.1, by omega, by omega⟩]
  · rw [if_neg q, if_neg (fun z => q ⟨z.1, by omega⟩)]
theorem fT_w {a0 : Int32} {t : Nat → Int32} {n a : Nat} {lx : Int32} : (fT true a0 t n 0 a lx 0 0).2.1 = kW t n a := fdT_w true a0 t n (n - a) 0 a lx 0 0
theorem fT_v {a0 : Int32} {t : Nat → Int32} {n a : Nat} {lx : Int32} : (fT false a0 t n 0 a lx 0 0).2.2 = kV t n a := fdT_v false a0 t n (n - a) 0 a lx 0 0
theorem kE_1 {t : Nat → Int32} {n a : Nat} (h : a < n) (c : cL (t a) = true) : kE t n a = rn cL t n a := by unfold kE; rw [if_neg (by omega), if_pos c]
theorem kE_2 {t : Nat → Int32} {n a : Nat} (h : a < n) (c : cL (t a) = false) (d : cD (t a) = true) : kE t n a = rn cD t n a := by unfold kE; rw [if_neg (by omega), if_neg (by rw [c]; decide), if_pos d]
theorem kE_3 {t : Nat → Int32} {n a : Nat} (h : a < n) (c : cL (t a) = false) (d : cD (t a) = false) : kE t n a = a + 1 := by unfold kE; rw [if_neg (by omega), if_neg (by rw [c]; decide), if_neg (by rw [d]; decide)]
theorem kE_0 {t : Nat → Int32} {n a : Nat} (h : n ≤ a) : kE t n a = a := by unfold kE; rw [if_pos h]
theorem cLD {c : Int32} (h : cD c = true) : cL c = false := by
  unfold cL cD at *
  have q := of_decide_eq_true h
  exact decide_eq_false (by omega)
theorem i_off {a : Int32} {b k : Int} {c : Int32} {m : Int} (h : iR a 0 b) (hc : c.toInt = m) (hm : 0 < m ∧ b + m < 1000000) : ¬ a + c = -1 ∧ ¬ a = -1 ∧ ¬ a = a + c := by
  have e := i_add (rfl : a + c = a + c) h (iR_c (x := c) (n := m) (a := m) (b := m) hc (by omega)) (by omega)
  have z : (-1 : Int32).toInt = -1 := by decide
  have h1 := h.1
  refine ⟨fun q => ?_, fun q => ?_, fun q => ?_⟩
  · rw [q, z] at e; omega
  · rw [q, z] at h1; omega
  · have e2 := congrArg Int32.toInt q; omega
/-- the reference's sign, by the token -/
theorem AH_k {t : Nat → Int32} {sz p v0 sg sa se vl lx : Int32} {w0 wd : Int64} (h : AH t sz p v0 w0 sg sa se vl lx wd) (hz : iR sz 0 1600) (ha : iR sa 0 1600) :
    sa.toNatClampNeg = rn cB t sz.toNatClampNeg p.toNatClampNeg ∧ sg = kS t sz.toNatClampNeg sa.toNatClampNeg ∧ se.toNatClampNeg = kE t sz.toNatClampNeg sa.toNatClampNeg ∧
    (sg = 1 → wd = kW t sz.toNatClampNeg sa.toNatClampNeg) ∧ (sg = 2 → vl = kV t sz.toNatClampNeg sa.toNatClampNeg) ∧ (sg = 3 → vl = t sa.toNatClampNeg) ∧
    (lx = -1 ↔ kB t sz.toNatClampNeg sa.toNatClampNeg = false) := by
  obtain ⟨h0, h⟩ := h
  refine ⟨h0, ?_⟩
  rcases h with ⟨c, rfl, rfl, -, -, rfl⟩ | ⟨c, b, hb, hs, he, l0, l1, hl0, hX, hlx⟩ | ⟨c, hl, hd, rfl, rfl, rfl, -, rfl⟩
  · have cn := i_leN c hz ha (by decide)
    refine ⟨by unfold kS; rw [if_pos cn], by rw [kE_0 cn], fun q => absurd q (by decide), fun q => absurd q (by decide), fun q => absurd q (by decide), fun _ => ?_, fun _ => rfl⟩
    unfold kB; rw [decide_eq_false (by omega)]; rfl
  · have cn := i_ltN c ha hz (by decide)
    have e1 := congrArg (fun q => q.1) hX
    have e2 := congrArg (fun q => q.2.1) hX
    have e3 := congrArg (fun q => q.2.2) hX
    have e1 : l1 = _ := e1.trans fT_l
    cases b with
    | true =>
      have hb : cL (t sa.toNatClampNeg) = true := hb
      have he : se.toNatClampNeg = rn cL t sz.toNatClampNeg sa.toNatClampNeg := he
      have e2 : wd = kW t sz.toNatClampNeg sa.toNatClampNeg := e2.trans fT_w
      have hs : sg = 1 := hs
      have o := i_off (k := 0) (c := 6) (m := 6) ha (by decide) (by decide)
      refine ⟨by unfold kS; rw [if_neg (by omega), if_pos hb]; exact hs, by rw [kE_1 cn hb]; exact he, fun _ => e2, fun q => absurd (hs.symm.trans q) (by decide), fun q => absurd (hs.symm.trans q) (by decide), ?_⟩
      have e1 : l1 = if l0 = -1 ∧ 6 < rn cL t sz.toNatClampNeg sa.toNatClampNeg - sa.toNatClampNeg then sa + 6 else l0 := e1
      have hkB : kB t sz.toNatClampNeg sa.toNatClampNeg = (aJ t sz.toNatClampNeg sa.toNatClampNeg || (decide (6 < rn cL t sz.toNatClampNeg sa.toNatClampNeg - sa.toNatClampNeg) && !(decide (rn cL t sz.toNatClampNeg sa.toNatClampNeg - sa.toNatClampNeg ≤ 8) && own wd))) := by
        unfold kB; rw [decide_eq_true cn, if_pos hb, kE_1 cn hb, ← e2]; rfl
      rw [hkB, hlx, he]
      cases hj : aJ t sz.toNatClampNeg sa.toNatClampNeg with
      | true =>
        have z0 : l0 = sa := hl0.trans (by rw [hj]; rfl)
        rw [z0, if_neg (fun q => o.2.1 q.1)] at e1
        rw [e1, if_neg (fun q => o.2.2 q.2.2.1)]
        exact ⟨fun q => absurd q o.2.1, fun q => absurd q (by simp)⟩
      | false =>
        have z0 : l0 = -1 := hl0.trans (by rw [hj]; rfl)
        rw [z0] at e1
        by_cases h6 : 6 < rn cL t sz.toNatClampNeg sa.toNatClampNeg - sa.toNatClampNeg
        · rw [if_pos ⟨rfl, h6⟩] at e1
          rw [e1, decide_eq_true h6]
          by_cases h8 : rn cL t sz.toNatClampNeg sa.toNatClampNeg - sa.toNatClampNeg ≤ 8
          · rw [decide_eq_true h8]
            cases ho : own wd with
            | true => rw [if_pos ⟨rfl, h8, rfl, rfl⟩]; exact ⟨fun _ => rfl, fun _ => rfl⟩
            | false => rw [if_neg (fun q => absurd q.2.2.2 (by decide))]; exact ⟨fun q => absurd q o.1, fun q => absurd q (by simp)⟩
          · rw [decide_eq_false h8, if_neg (fun q => h8 q.2.1)]; exact ⟨fun q => absurd q o.1, fun q => absurd q (by simp)⟩
        · rw [if_neg (fun q => h6 q.2)] at e1
          rw [e1, decide_eq_false h6, if_neg (fun q => o.1 q.2.2.1.symm)]
          exact ⟨fun _ => rfl, fun _ => rfl⟩
    | false =>
      have hb : cD (t sa.toNatClampNeg) = true := hb
      have he : se.toNatClampNeg = rn cD t sz.toNatClampNeg sa.toNatClampNeg := he
      have e3 : vl = kV t sz.toNatClampNeg sa.toNatClampNeg := e3.trans fT_v
      have hs : sg = 2 := hs
      have hc := cLD hb
      have o := i_off (k := 0) (c := 4) (m := 4) ha (by decide) (by decide)
      refine ⟨by unfold kS; rw [if_neg (by omega), if_neg (by rw [hc]; decide), if_pos hb]; exact hs, by rw [kE_2 cn hc hb]; exact he, fun q => absurd (hs.symm.trans q) (by decide), fun _ => e3, fun q => absurd (hs.symm.trans q) (by decide), ?_⟩
      have e1 : l1 = if l0 = -1 ∧ 4 < rn cD t sz.toNatClampNeg sa.toNatClampNeg - sa.toNatClampNeg then sa + 4 else l0 := e1
      have hkB : kB t sz.toNatClampNeg sa.toNatClampNeg = (aJ t sz.toNatClampNeg sa.toNatClampNeg || decide (4 < rn cD t sz.toNatClampNeg sa.toNatClampNeg - sa.toNatClampNeg)) := by
        unfold kB; rw [decide_eq_true cn, if_neg (by rw [hc]; decide), if_pos hb, kE_2 cn hc hb]; rfl
      rw [if_neg (fun q => absurd q.1 (by decide))] at hlx
      rw [hkB, hlx]
      cases hj : aJ t sz.toNatClampNeg sa.toNatClampNeg with
      | true =>
        have z0 : l0 = sa := hl0.trans (by rw [hj]; rfl)
        rw [z0, if_neg (fun q => o.2.1 q.1)] at e1
        rw [e1]
        exact ⟨fun q => absurd q o.2.1, fun q => absurd q (by simp)⟩
      | false =>
        have z0 : l0 = -1 := hl0.trans (by rw [hj]; rfl)
        rw [z0] at e1
        by_cases h6 : 4 < rn cD t sz.toNatClampNeg sa.toNatClampNeg - sa.toNatClampNeg
        · rw [if_pos ⟨rfl, h6⟩] at e1
          rw [e1, decide_eq_true h6]; exact ⟨fun q => absurd q o.1, fun q => absurd q (by simp)⟩
        · rw [if_neg (fun q => h6 q.2)] at e1
          rw [e1, decide_eq_false h6]; exact ⟨fun _ => rfl, fun _ => rfl⟩
  · have cn := i_ltN c ha hz (by decide)
    have ee : (sa + 1).toNatClampNeg = sa.toNatClampNeg + 1 := i_succ rfl ha (by decide)
    refine ⟨by unfold kS; rw [if_neg (by omega), if_neg (by rw [hl]; decide), if_neg (by rw [hd]; decide)], by rw [kE_3 cn hl hd, ee], fun q => absurd q (by decide), fun q => absurd q (by decide), fun _ => rfl, fun _ => ?_, fun _ => rfl⟩
    unfold kB; rw [decide_eq_true cn, if_neg (by rw [hl]; decide), if_neg (by rw [hd]; decide), aJ_f1 hl hd]; rfl
