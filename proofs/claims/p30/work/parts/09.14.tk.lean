/-! the token at a place, one code for both readers: 256 the end, 257 a number, 258 a name, 300 and on an own word, else the sign itself -/
def tkc (t : Nat → Int32) (n a : Nat) : Int32 := if n ≤ a then 256 else if cL (t a) = true then tw (kW t n a) else if cD (t a) = true then 257 else t a
/-- the next token's place -/
def nx (t : Nat → Int32) (n a : Nat) : Nat := rn cB t n (kE t n a)
def tq (t : Nat → Int32) (n a : Nat) (c : Int32) : Bool := decide (tkc t n a = c)
theorem rnF_stop (P : Int32 → Bool) (t : Nat → Int32) (n : Nat) : ∀ k p, n - p ≤ k → n ≤ rnF P t n k p ∨ P (t (rnF P t n k p)) = false := by
  intro k
  induction k with
  | zero => intro p h; exact Or.inl (show n ≤ p by omega)
  | succ k ih =>
    intro p h
    show n ≤ (if p < n ∧ P (t p) = true then rnF P t n k (p + 1) else p) ∨ P (t (if p < n ∧ P (t p) = true then rnF P t n k (p + 1) else p)) = false
    by_cases c : p < n ∧ P (t p) = true
    · rw [if_pos c]; exact ih (p + 1) (by omega)
    · rw [if_neg c]
      by_cases z : p < n
      · refine Or.inr ?_
        cases q : P (t p) with
        | false => rfl
        | true => exact absurd ⟨z, q⟩ c
      · exact Or.inl (by omega)
theorem rn_stop (P : Int32 → Bool) (t : Nat → Int32) (n p : Nat) : n ≤ rn P t n p ∨ P (t (rn P t n p)) = false := rnF_stop P t n (n - p) p (Nat.le_refl _)
theorem rn_idem (P : Int32 → Bool) (t : Nat → Int32) (n p : Nat) : rn P t n (rn P t n p) = rn P t n p := rn_e (rn_stop P t n p)
theorem rn_gt {P : Int32 → Bool} {t : Nat → Int32} {n p : Nat} (h : p < n) (b : P (t p) = true) : p < rn P t n p := by
  have e := rn_s h b
  have l := rn_le P t n (p + 1)
  omega
theorem kE_gt {t : Nat → Int32} {n a : Nat} (h : a < n) : a < kE t n a := by
  unfold kE
  rw [if_neg (by omega)]
  split
  · next c => exact rn_gt h c
  · split
    · next c => exact rn_gt h c
    · omega
theorem kE_le {t : Nat → Int32} {n a : Nat} (h : a ≤ n) : kE t n a ≤ n := by
  unfold kE
  split
  · exact h
  · split
    · exact rn_top h
    · split
      · exact rn_top h
      · omega
theorem nx_gt {t : Nat → Int32} {n a : Nat} (h : a < n) : a < nx t n a := by
  have q := kE_gt (t := t) h
  have r := rn_le cB t n (kE t n a)
  unfold nx; omega
theorem nx_le {t : Nat → Int32} {n a : Nat} (h : a ≤ n) : nx t n a ≤ n := rn_top (kE_le h)
theorem nx_ok (t : Nat → Int32) (n a : Nat) : rn cB t n (nx t n a) = nx t n a := rn_idem cB t n _
theorem tkc_end {t : Nat → Int32} {n a : Nat} (h : n ≤ a) : tkc t n a = 256 := by unfold tkc; rw [if_pos h]
theorem tkc_lt {t : Nat → Int32} {n a : Nat} {c : Int32} (h : tkc t n a = c) (hc : ¬ c = 256) : a < n := by
  by_cases z : n ≤ a
  · rw [tkc_end z] at h; exact absurd h.symm hc
  · omega
theorem tq_lt {t : Nat → Int32} {n a : Nat} {c : Int32} (h : tq t n a c = true) (hc : ¬ c = 256) : a < n := tkc_lt (of_decide_eq_true h) hc
theorem kB_lt {t : Nat → Int32} {n a : Nat} (h : n ≤ a) : kB t n a = false := by unfold kB; rw [decide_eq_false (by omega)]; rfl
/-- the codes that a token may have -/
theorem tkc_L {t : Nat → Int32} {n a : Nat} (h : a < n) (c : cL (t a) = true) : tkc t n a = tw (kW t n a) := by unfold tkc; rw [if_neg (by omega), if_pos c]
theorem tkc_D {t : Nat → Int32} {n a : Nat} (h : a < n) (c : cL (t a) = false) (d : cD (t a) = true) : tkc t n a = 257 := by unfold tkc; rw [if_neg (by omega), if_neg (by rw [c]; decide), if_pos d]
theorem tkc_S {t : Nat → Int32} {n a : Nat} (h : a < n) (c : cL (t a) = false) (d : cD (t a) = false) : tkc t n a = t a := by unfold tkc; rw [if_neg (by omega), if_neg (by rw [c]; decide), if_neg (by rw [d]; decide)]
theorem tw_ge (w : Int64) : (tw w).toInt = 258 ∨ (300 ≤ (tw w).toInt ∧ (tw w).toInt ≤ 324) := by
  rcases tw_c w with ⟨i, hi, e, q⟩ | ⟨-, q⟩
  · right
    rw [q, nI_toInt (by omega)]
    omega
  · left; rw [q]; decide
/-! the reference's sign -/
def LSG (t : Nat → Int32) (n : Nat) (sg sa se vl lx : Int32) (wd : Int64) : Prop :=
  sa.toNatClampNeg ≤ n ∧ rn cB t n sa.toNatClampNeg = sa.toNatClampNeg ∧ sg = kS t n sa.toNatClampNeg ∧ se.toNatClampNeg = kE t n sa.toNatClampNeg ∧
  (sg = 1 → wd = kW t n sa.toNatClampNeg) ∧ (sg = 2 → vl = kV t n sa.toNatClampNeg) ∧ (sg = 3 → vl = t sa.toNatClampNeg) ∧ (lx = -1 ↔ kB t n sa.toNatClampNeg = false)
theorem LS_of {t : Nat → Int32} {sz p v0 sg sa se vl lx : Int32} {w0 wd : Int64} (h : AH t sz p v0 w0 sg sa se vl lx wd) (hz : iR sz 0 1600) (ha : iR sa 0 1600) (hp : p.toNatClampNeg ≤ sz.toNatClampNeg) : LSG t sz.toNatClampNeg sg sa se vl lx wd := by
  obtain ⟨q0, q1, q2, q3, q4, q5, q6⟩ := AH_k h hz ha
  exact ⟨by rw [q0]; exact rn_top hp, by rw [q0]; exact rn_idem _ _ _ _, q1, q2, q3, q4, q5, q6⟩
theorem LS_se {t : Nat → Int32} {n : Nat} {sg sa se vl lx : Int32} {wd : Int64} (h : LSG t n sg sa se vl lx wd) : se.toNatClampNeg ≤ n := by
  rw [h.2.2.2.1]; exact kE_le h.1
theorem kS_c (t : Nat → Int32) (n a : Nat) : (n ≤ a ∧ kS t n a = 0) ∨ (a < n ∧ cL (t a) = true ∧ kS t n a = 1) ∨ (a < n ∧ cL (t a) = false ∧ cD (t a) = true ∧ kS t n a = 2) ∨ (a < n ∧ cL (t a) = false ∧ cD (t a) = false ∧ kS t n a = 3) := by
  unfold kS
  by_cases h : n ≤ a
  · exact Or.inl ⟨h, if_pos h⟩
  · rw [if_neg h]
    refine Or.inr ?_
    cases c : cL (t a) with
    | true => exact Or.inl ⟨by omega, rfl, if_pos rfl⟩
    | false =>
      refine Or.inr ?_
      rw [if_neg (by decide)]
      cases d : cD (t a) with
      | true => exact Or.inl ⟨by omega, rfl, rfl, if_pos rfl⟩
      | false => exact Or.inr ⟨by omega, rfl, rfl, if_neg (by decide)⟩
/-- a word that is looked for -/
theorem LS_w {t : Nat → Int32} {n : Nat} {sg sa se vl lx : Int32} {wd : Int64} (h : LSG t n sg sa se vl lx wd) (ht : aR t 0 255) {i : Nat} (hi : i < 25) : decide (sg = 1 ∧ wd = owC i) = tq t n sa.toNatClampNeg (nI (300 + i)) := by
  obtain ⟨h1, h2, h3, h4, h5, h6, h7, h8⟩ := h
  unfold tq
  apply decide_eq_decide.mpr
  have z : (nI (300 + i)).toInt = ((300 + i : Nat) : Int) := nI_toInt (by omega)
  rcases kS_c t n sa.toNatClampNeg with ⟨c, k⟩ | ⟨c, cl, k⟩ | ⟨c, cl, cd, k⟩ | ⟨c, cl, cd, k⟩
  · rw [tkc_end c]
    constructor
    · intro q; rw [h3, k] at q; exact absurd q.1 (by decide)
    · intro q; have e := congrArg Int32.toInt q; rw [z] at e; have z2 : (256 : Int32).toInt = 256 := by decide
      omega
  · rw [tkc_L c cl, tw_i hi]
    have e := h5 (h3.trans k)
    constructor
    · intro q; rw [← e]; exact q.2
    · intro q; exact ⟨h3.trans k, e.trans q⟩
  · rw [tkc_D c cl cd]
    constructor
    · intro q; rw [h3, k] at q; exact absurd q.1 (by decide)
    · intro q; have e := congrArg Int32.toInt q; rw [z] at e; have z2 : (257 : Int32).toInt = 257 := by decide
      omega
  · rw [tkc_S c cl cd]
    constructor
    · intro q; rw [h3, k] at q; exact absurd q.1 (by decide)
    · intro q; have e := congrArg Int32.toInt q; rw [z] at e; have z2 := ht sa.toNatClampNeg
      unfold iR at z2
      omega
/-- a sign that is looked for -/
theorem LS_s {t : Nat → Int32} {n : Nat} {sg sa se vl lx : Int32} {wd : Int64} (h : LSG t n sg sa se vl lx wd) {c : Int32} (hc : 0 ≤ c.toInt ∧ c.toInt ≤ 255 ∧ cL c = false ∧ cD c = false) : decide (sg = 3 ∧ vl = c) = tq t n sa.toNatClampNeg c := by
  obtain ⟨h1, h2, h3, h4, h5, h6, h7, h8⟩ := h
  unfold tq
  apply decide_eq_decide.mpr
  rcases kS_c t n sa.toNatClampNeg with ⟨a, k⟩ | ⟨a, cl, k⟩ | ⟨a, cl, cd, k⟩ | ⟨a, cl, cd, k⟩
  · rw [tkc_end a]
    constructor
    · intro q; rw [h3, k] at q; exact absurd q.1 (by decide)
    · intro q; have e := congrArg Int32.toInt q; have z2 : (256 : Int32).toInt = 256 := by decide
      omega
  · rw [tkc_L a cl]
    constructor
    · intro q; rw [h3, k] at q; exact absurd q.1 (by decide)
    · intro q; have e := congrArg Int32.toInt q; have z2 := tw_ge (kW t n sa.toNatClampNeg)
      omega
  · rw [tkc_D a cl cd]
    constructor
    · intro q; rw [h3, k] at q; exact absurd q.1 (by decide)
    · intro q; have e := congrArg Int32.toInt q; have z2 : (257 : Int32).toInt = 257 := by decide
      omega
  · rw [tkc_S a cl cd]
    have e := h7 (h3.trans k)
    constructor
    · intro q; rw [← e]; exact q.2
    · intro q; exact ⟨h3.trans k, e.trans q⟩
/-- a number -/
theorem LS_n {t : Nat → Int32} {n : Nat} {sg sa se vl lx : Int32} {wd : Int64} (h : LSG t n sg sa se vl lx wd) (ht : aR t 0 255) : decide (sg = 2) = tq t n sa.toNatClampNeg 257 := by
  obtain ⟨h1, h2, h3, h4, h5, h6, h7, h8⟩ := h
  unfold tq
  apply decide_eq_decide.mpr
  have z : (257 : Int32).toInt = 257 := by decide
  rcases kS_c t n sa.toNatClampNeg with ⟨a, k⟩ | ⟨a, cl, k⟩ | ⟨a, cl, cd, k⟩ | ⟨a, cl, cd, k⟩
  · rw [tkc_end a, h3, k]; decide
  · rw [tkc_L a cl, h3, k]
    constructor
    · intro q; exact absurd q (by decide)
    · intro q; have e := congrArg Int32.toInt q; have z2 := tw_ge (kW t n sa.toNatClampNeg)
      omega
  · rw [tkc_D a cl cd, h3, k]; decide
  · rw [tkc_S a cl cd, h3, k]
    constructor
    · intro q; exact absurd q (by decide)
    · intro q; have e := congrArg Int32.toInt q; have z2 := ht sa.toNatClampNeg
      unfold iR at z2
      omega
/-- a name -/
theorem LS_m {t : Nat → Int32} {n : Nat} {sg sa se vl lx : Int32} {wd : Int64} (h : LSG t n sg sa se vl lx wd) (ht : aR t 0 255) : (decide (sg = 1) && !own wd) = tq t n sa.toNatClampNeg 258 := by
  obtain ⟨h1, h2, h3, h4, h5, h6, h7, h8⟩ := h
  unfold tq
  have z : (258 : Int32).toInt = 258 := by decide
  rcases kS_c t n sa.toNatClampNeg with ⟨a, k⟩ | ⟨a, cl, k⟩ | ⟨a, cl, cd, k⟩ | ⟨a, cl, cd, k⟩
  · rw [tkc_end a, h3, k]; rfl
  · rw [tkc_L a cl]
    have e := h5 (h3.trans k)
    rw [decide_eq_true (h3.trans k), e]
    cases o : own (kW t n sa.toNatClampNeg) with
    | false => rw [decide_eq_true ((own_tw _).mp o)]; rfl
    | true =>
      rw [decide_eq_false]
      · rfl
      · intro q; rw [(own_tw _).mpr q] at o; exact absurd o (by decide)
  · rw [tkc_D a cl cd, h3, k]; rfl
  · rw [tkc_S a cl cd, h3, k]
    have z2 := ht sa.toNatClampNeg
    unfold iR at z2
    rw [decide_eq_false (show ¬ t sa.toNatClampNeg = 258 from fun q => by have e := congrArg Int32.toInt q; omega)]
    rfl
/-- the end -/
theorem LS_0 {t : Nat → Int32} {n : Nat} {sg sa se vl lx : Int32} {wd : Int64} (h : LSG t n sg sa se vl lx wd) : sg = 0 ↔ n ≤ sa.toNatClampNeg := by
  obtain ⟨h1, h2, h3, h4, h5, h6, h7, h8⟩ := h
  rw [h3]
  rcases kS_c t n sa.toNatClampNeg with ⟨a, k⟩ | ⟨a, cl, k⟩ | ⟨a, cl, cd, k⟩ | ⟨a, cl, cd, k⟩
  · exact ⟨fun _ => a, fun _ => k⟩
  · rw [k]; exact ⟨fun q => absurd q (by decide), fun q => by omega⟩
  · rw [k]; exact ⟨fun q => absurd q (by decide), fun q => by omega⟩
  · rw [k]; exact ⟨fun q => absurd q (by decide), fun q => by omega⟩
/-! the class' token -/
def TK (t : Nat → Int32) (n : Nat) (p s tok v : Int32) : Prop :=
  s.toNatClampNeg ≤ n ∧ rn cB t n s.toNatClampNeg = s.toNatClampNeg ∧ kB t n s.toNatClampNeg = false ∧ tok = tkc t n s.toNatClampNeg ∧ p.toNatClampNeg = kE t n s.toNatClampNeg ∧
  (tok = 257 → v = kV t n s.toNatClampNeg) ∧ (tok = 258 → NK v (kW t n s.toNatClampNeg))
def LD (t : Nat → Int32) (p : Nat) : Prop := 0 < p ∧ (cL (t (p - 1)) || cD (t (p - 1))) = true
def WH (t : Nat → Int32) (n : Nat) (p tok : Int32) : Prop := p.toNatClampNeg ≤ n ∧ (p.toNatClampNeg < n → (wh tok = true ↔ LD t p.toNatClampNeg))
theorem wh_tw (w : Int64) : wh (tw w) = true := by
  unfold wh
  apply decide_eq_true
  rcases tw_ge w with h | h
  · exact Or.inr (Or.inl (Int32.toInt_inj.mp (by rw [h]; decide)))
  · refine Or.inr (Or.inr (Int32.le_iff_toInt_le.mpr ?_))
    have z : (300 : Int32).toInt = 300 := by decide
    omega
theorem wh_lo {x : Int32} (h : x.toInt ≤ 256) : wh x = false := by
  unfold wh
  apply decide_eq_false
  rintro (q | q | q)
  · rw [q] at h; exact absurd h (by decide)
  · rw [q] at h; exact absurd h (by decide)
  · have q := Int32.le_iff_toInt_le.mp q
    have z : (300 : Int32).toInt = 300 := by decide
    omega
theorem TK_WH {t : Nat → Int32} {n : Nat} {p s tok v : Int32} (h : TK t n p s tok v) (ht : aR t 0 255) : WH t n p tok := by
  obtain ⟨h1, h2, h3, h4, h5, h6, h7⟩ := h
  refine ⟨by rw [h5]; exact kE_le h1, fun hp => ?_⟩
  have hs : s.toNatClampNeg < n := by
    by_cases z : n ≤ s.toNatClampNeg
    · rw [h5, kE_0 z] at hp; omega
    · omega
  have g := kE_gt (t := t) hs
  cases c : cL (t s.toNatClampNeg) with
  | true =>
    have e := kE_1 hs c
    rw [h4, tkc_L hs c, h5]
    refine ⟨fun _ => ⟨by omega, ?_⟩, fun _ => wh_tw _⟩
    rw [e] at g ⊢
    exact oL (rn_in (P := cL) (n := n) (p := s.toNatClampNeg) (by omega) (by omega))
  | false =>
    cases d : cD (t s.toNatClampNeg) with
    | true =>
      have e := kE_2 hs c d
      rw [h4, tkc_D hs c d, h5]
      refine ⟨fun _ => ⟨by omega, ?_⟩, fun _ => by decide⟩
      rw [e] at g ⊢
      exact oR (rn_in (P := cD) (n := n) (p := s.toNatClampNeg) (by omega) (by omega))
    | false =>
      have e := kE_3 hs c d
      rw [h4, tkc_S hs c d, h5, e]
      have q := ht s.toNatClampNeg
      unfold iR at q
      rw [wh_lo (by omega)]
      refine ⟨fun z => absurd z (by decide), fun z => ?_⟩
      have z2 := z.2
      rw [Nat.add_sub_cancel, c, d] at z2
      exact absurd z2 (by decide)
theorem cB_LD {c : Int32} (h : cB c = true) : (cL c || cD c) = false := by
  unfold cB cL cD at *
  have q := of_decide_eq_true h
  rw [decide_eq_false (by omega), decide_eq_false (by omega)]; rfl
/-- a token right behind one: what the class and the reference call so -/
theorem aJ_wh {t : Nat → Int32} {n : Nat} {p s tok : Int32} (hw : WH t n p tok) (hs : s.toNatClampNeg = rn cB t n p.toNatClampNeg) (hl : s.toNatClampNeg < n) {a b c d : Int} (rp : iR p a b) (rs : iR s c d) (ra : 0 ≤ a ∧ 0 ≤ c)
    (hb : (cL (t s.toNatClampNeg) || cD (t s.toNatClampNeg)) = true) : aJ t n s.toNatClampNeg = true ↔ (wh tok = true ∧ s = p) := by
  have l := rn_le cB t n p.toNatClampNeg
  have ep : s = p ↔ s.toNatClampNeg = p.toNatClampNeg := by
    have c1 := iR_cn rp ra.1
    have c2 := iR_cn rs ra.2
    exact ⟨fun q => by rw [q], fun q => Int32.toInt_inj.mp (by omega)⟩
  by_cases e : s.toNatClampNeg = p.toNatClampNeg
  · have w := hw.2 (by omega)
    rw [w, ep]
    unfold aJ LD
    rw [hb, e]
    by_cases z : 0 < p.toNatClampNeg
    · rw [decide_eq_true ⟨by omega, z⟩]
      simp [z]
    · rw [decide_eq_false (fun q => z q.2)]
      simp [z]
  · constructor
    · intro q
      exfalso
      have b := rn_in (P := cB) (t := t) (n := n) (p := p.toNatClampNeg) (j := s.toNatClampNeg - 1) (by omega) (by omega)
      unfold aJ at q
      rw [cB_LD b] at q
      simp at q
    · intro q; exact absurd (ep.mp q.2) e
theorem gN_gv : gN = gv false := by
  funext k c v
  unfold gN gv
  by_cases h : k < 4
  · rw [if_pos h, if_pos ⟨rfl, h⟩, Int32.mul_comm]
  · rw [if_neg h, if_neg (fun q => h q.2)]
theorem fN_kV (t : Nat → Int32) (n a : Nat) : fN t n 0 a 0 = kV t n a := by unfold fN kV; rw [gN_gv]
theorem kB_L {t : Nat → Int32} {n a : Nat} (h : a < n) (c : cL (t a) = true) : kB t n a = (aJ t n a || (decide (6 < rn cL t n a - a) && !(decide (rn cL t n a - a ≤ 8) && own (kW t n a)))) := by
  unfold kB; rw [decide_eq_true h, if_pos c, kE_1 h c]; rfl
theorem kB_D {t : Nat → Int32} {n a : Nat} (h : a < n) (c : cL (t a) = false) (d : cD (t a) = true) : kB t n a = (aJ t n a || decide (4 < rn cD t n a - a)) := by
  unfold kB; rw [decide_eq_true h, if_neg (by rw [c]; decide), if_pos d, kE_2 h c d]; rfl
theorem kB_S {t : Nat → Int32} {n a : Nat} (h : a < n) (c : cL (t a) = false) (d : cD (t a) = false) : kB t n a = false := by
  unfold kB; rw [decide_eq_true h, if_neg (by rw [c]; decide), if_neg (by rw [d]; decide), aJ_f1 c d]; rfl
/-- the class' next token -/
theorem XT_TK {t : Nat → Int32} {g : Nat → Int64} {n : Nat} {p tok v plc p' s' tok' v' flt' plc' : Int32} (h : XT t g n p tok v plc p' s' tok' v' flt' plc') (hk : KY g) (ht : aR t 0 255) (hw : WH t n p tok)
    (rp : iR p 0 1600) (rs : iR s' 0 1600) : s'.toNatClampNeg = rn cB t n p.toNatClampNeg ∧ ((¬ flt' = 0 ∧ kB t n s'.toNatClampNeg = true) ∨ (flt' = 0 ∧ TK t n p' s' tok' v')) := by
  obtain ⟨hs, tok1, flt1, plc1, hr, ho⟩ := h
  refine ⟨hs, ?_⟩
  have hsn : s'.toNatClampNeg ≤ n := by rw [hs]; exact rn_top hw.1
  have hfx : rn cB t n s'.toNatClampNeg = s'.toNatClampNeg := by rw [hs]; exact rn_idem _ _ _ _
  have n1 : ∀ {x y : Int32}, wh x = false → ((wh tok = true ∧ s' = p ∧ wh x = true ∧ BL x flt1 plc1 1 s' tok' flt' plc') ∨ (¬ (wh tok = true ∧ s' = p ∧ wh x = true) ∧ tok' = x ∧ flt' = flt1 ∧ plc' = plc1)) → tok' = x ∧ flt' = flt1 := by
    intro x y hx q
    rcases q with q | q
    · rw [hx] at q; exact absurd q.2.2.1 (by decide)
    · exact ⟨q.2.1, q.2.2.1⟩
  rcases hr with ⟨c, e1, e2, e3, e4, e5⟩ | ⟨c, cl, hx⟩ | ⟨c, cl, cd, hx⟩ | ⟨c, cl, cd, e1, e2, e3, e4, e5⟩
  · subst e2
    obtain ⟨q1, q2⟩ := n1 (y := 0) (by decide) ho
    refine Or.inr ⟨q2.trans e4, hsn, hfx, kB_lt c, by rw [q1, tkc_end c], by rw [e1, kE_0 c], fun z => absurd (q1.symm.trans z) (by decide), fun z => absurd (q1.symm.trans z) (by decide)⟩
  · obtain ⟨hp, own', hown, hx⟩ := hx
    obtain ⟨l, hl⟩ := WD t n s'.toNatClampNeg
    have hm := hl.2.2.2.1
    have jw := aJ_wh hw hs c rp rs (by decide) (oL cl)
    have kb := kB_L c cl
    have tk := tkc_L c cl
    have ek := kE_1 c cl
    rw [hp] at hx hown
    -- whether it is an own word
    have ow : (0 ≤ own' → own'.toNatClampNeg < 25 ∧ rn cL t n s'.toNatClampNeg - s'.toNatClampNeg ≤ 7 ∧ kW t n s'.toNatClampNeg = owC own'.toNatClampNeg) ∧ (own' < 0 → ∀ i, i < 25 → ¬ kW t n s'.toNatClampNeg = owC i) := by
      rcases hown with ⟨e, k7⟩ | ⟨k7, ⟨e, hj⟩ | ⟨h0, h25, hg, -⟩⟩
      · refine ⟨fun q => ?_, fun _ i hi q => ?_⟩
        · rw [e] at q; exact absurd q (by decide)
        · have := ((WI_own hl hi).mp q).1; omega
      · refine ⟨fun q => ?_, fun _ i hi q => ?_⟩
        · rw [e] at q; exact absurd q (by decide)
        · have z := ((WI_own hl hi).mp q).2
          exact hj i hi (by rw [hk i hi]; exact z.symm)
      · refine ⟨fun _ => ⟨h25, k7, (WI_own hl h25).mpr ⟨k7, by rw [← hg, hk _ h25]⟩⟩, fun q => ?_⟩
        have q1 := Int32.lt_iff_toInt_lt.mp q
        have q2 := Int32.le_iff_toInt_le.mp h0
        omega
    -- a whole token: wrong just if it stands right behind one
    have fin : wh tok1 = true → flt1 = 0 → tok1 = tkc t n s'.toNatClampNeg → kB t n s'.toNatClampNeg = aJ t n s'.toNatClampNeg → (tok1 = 257 → v' = kV t n s'.toNatClampNeg) → (tok1 = 258 → NK v' (kW t n s'.toNatClampNeg)) → (¬ flt' = 0 ∧ kB t n s'.toNatClampNeg = true) ∨ (flt' = 0 ∧ TK t n p' s' tok' v') := by
      intro w1 f1 t1 k1 v1 v2
      rcases ho with ⟨a1, a2, a3, b⟩ | ⟨a1, a2, a3, a4⟩
      · left
        rcases b with ⟨b1, b2, b3, b4⟩ | ⟨b1, -⟩
        · refine ⟨by rw [b3]; decide, ?_⟩
          rw [k1]; exact jw.mpr ⟨a1, a2⟩
        · exact absurd f1 b1
      · right
        refine ⟨a3.trans f1, hsn, hfx, ?_, a2.trans t1, by rw [hp, ek], fun z => v1 (a2.symm.trans z), fun z => v2 (a2.symm.trans z)⟩
        rw [k1]
        cases z : aJ t n s'.toNatClampNeg with
        | false => rfl
        | true => exact absurd ⟨(jw.mp z).1, (jw.mp z).2, w1⟩ a1
    rcases hx with ⟨h0, e1, e2, e3, e4⟩ | ⟨h0, h6, e1, e2, e3, e4⟩ | ⟨h0, h6, e1, e2, e3, e4⟩
    · obtain ⟨i25, k7, ew⟩ := ow.1 h0
      have et : tok1 = tkc t n s'.toNatClampNeg := by
        rw [tk, ew, tw_y i25, e1]
        have c0 := Int32.le_iff_toInt_le.mp h0
        have z0 : (0 : Int32).toInt = 0 := by decide
        have c1 := iR_cn (x := own') (a := 0) (b := 2147483647) ⟨by omega, k_rhi9 _⟩ (by decide)
        have c2 := i_add (rfl : 300 + own' = 300 + own') (iR_c (x := 300) (n := 300) (a := 300) (b := 300) (by decide) (by decide)) (show iR own' 0 24 from ⟨by omega, by omega⟩) (by decide)
        have z3 : (300 : Int32).toInt = 300 := by decide
        apply Int32.toInt_inj.mp
        rw [c2, nI_toInt (by omega), z3]
        omega
      refine fin (by rw [et, tk]; exact wh_tw _) e3 et ?_ (fun z => ?_) (fun z => ?_)
      · rw [kb]
        have o := (own_i (kW t n s'.toNatClampNeg)).mpr ⟨_, i25, ew⟩
        rw [o, decide_eq_true (show rn cL t n s'.toNatClampNeg - s'.toNatClampNeg ≤ 8 by omega)]
        simp
      · have z2 := tw_ge (kW t n s'.toNatClampNeg)
        rw [← tk, ← et, z] at z2
        exact absurd z2 (by decide)
      · have z2 := et.symm.trans z
        rw [tk, ew, tw_y i25] at z2
        have z2 : nI (300 + own'.toNatClampNeg) = nI 258 := z2
        have z2 := (nI_eq (by omega) (by omega)).mp z2
        omega
    · subst e1
      obtain ⟨q1, q2⟩ := n1 (y := 0) (by decide) ho
      left
      refine ⟨by rw [q2, e3]; decide, ?_⟩
      have o : own (kW t n s'.toNatClampNeg) = false := (own_tw _).mpr (tw_n (ow.2 h0))
      rw [kb, o, decide_eq_true h6]
      simp
    · have o := tw_n (ow.2 h0)
      have et : tok1 = tkc t n s'.toNatClampNeg := by rw [tk, o, e1]
      refine fin (by rw [et, tk]; exact wh_tw _) e3 et ?_ (fun z => ?_) (fun _ => ?_)
      · rw [kb, decide_eq_false (show ¬ 6 < rn cL t n s'.toNatClampNeg - s'.toNatClampNeg by omega)]
        simp
      · rw [e1] at z; exact absurd z (by decide)
      · have g1 := rn_gt c cl
        have len : l.length = rn cL t n s'.toNatClampNeg - s'.toNatClampNeg := hl.2.1 (by omega)
        refine ⟨l, hl.1, by omega, by omega, ?_, hl.2.2.2.2⟩
        rw [e2, hm (by omega)]
        exact lN_i _
  · obtain ⟨hp, hx⟩ := hx
    have jw := aJ_wh hw hs c rp rs (by decide) (oR cd)
    have kb := kB_D c cl cd
    have tk := tkc_D c cl cd
    have ek := kE_2 c cl cd
    rw [hp] at hx
    rcases hx with ⟨h4, e1, e2, e3, e4⟩ | ⟨h4, e1, e2, e3, e4⟩
    · subst e1
      obtain ⟨q1, q2⟩ := n1 (y := 0) (by decide) ho
      left
      refine ⟨by rw [q2, e3]; decide, ?_⟩
      rw [kb, decide_eq_true h4]
      simp
    · have k1 : kB t n s'.toNatClampNeg = aJ t n s'.toNatClampNeg := by
        rw [kb, decide_eq_false (show ¬ 4 < rn cD t n s'.toNatClampNeg - s'.toNatClampNeg by omega)]
        simp
      rcases ho with ⟨a1, a2, a3, b⟩ | ⟨a1, a2, a3, a4⟩
      · left
        rcases b with ⟨b1, b2, b3, b4⟩ | ⟨b1, -⟩
        · refine ⟨by rw [b3]; decide, ?_⟩
          rw [k1]; exact jw.mpr ⟨a1, a2⟩
        · exact absurd e3 b1
      · right
        refine ⟨a3.trans e3, hsn, hfx, ?_, by rw [a2, e1, tk], by rw [hp, ek], fun _ => by rw [e2]; exact fN_kV _ _ _, fun z => ?_⟩
        · rw [k1]
          cases z : aJ t n s'.toNatClampNeg with
          | false => rfl
          | true => exact absurd ⟨(jw.mp z).1, (jw.mp z).2, by rw [e1]; decide⟩ a1
        · rw [a2, e1] at z; exact absurd z (by decide)
  · have q := ht s'.toNatClampNeg
    unfold iR at q
    obtain ⟨q1, q2⟩ := n1 (y := 0) (by rw [e2]; exact wh_lo (by omega)) ho
    refine Or.inr ⟨q2.trans e4, hsn, hfx, kB_S c cl cd, by rw [q1, e2, tkc_S c cl cd], by rw [e1, kE_3 c cl cd, i_succ rfl rs (by decide)], fun z => ?_, fun z => ?_⟩
    · rw [q1, e2] at z; rw [z] at q; exact absurd q (by decide)
    · rw [q1, e2] at z; rw [z] at q; exact absurd q (by decide)
