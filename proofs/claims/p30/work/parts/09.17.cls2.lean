/-! loops of the class' reader: PRODUCTS and SUMS -/
def LX (Q : Nat → Bool) (t : Nat → Int32) (n : Nat) (o : Int) (a : Nat) (c j p s tok v flt c' : Int32) : Prop := (0 < flt ∧ fX t n o a) ∨ (flt = 0 ∧ TK t n p s tok v ∧ eX t n o a s.toNatClampNeg ∧ Q s.toNatClampNeg = false ∧ CG a c s.toNatClampNeg c' ∧ j.toNatClampNeg < s.toNatClampNeg)
def LSUM (Q : Nat → Bool) (o : Int) (t : Nat → Int32) (g : Nat → Int64) (n : Nat) (p s tok v flt c j p' s' tok' v' flt' c' : Int32) : Prop := IN t g n p s tok v flt → c.toNatClampNeg ≤ s.toNatClampNeg → LX Q t n o s.toNatClampNeg c j p' s' tok' v' flt' c'
theorem l_l0 {Q : Nat → Bool} {o : Int} {t : Nat → Int32} {g : Nat → Int64} {n : Nat} {p s tok v flt c p' s' tok' v' flt' c' : Int32} (h : RSUM Q o t g n p s tok v flt c p' s' tok' v' flt' c') : LSUM Q o t g n p s tok v flt c 0 p' s' tok' v' flt' c' := by
  intro i hc
  rcases h i hc with q | ⟨q1, q2, q3, q4, q5⟩
  · exact Or.inl q
  · refine Or.inr ⟨q1, q2, q3, q4, q5, ?_⟩
    have z : (0 : Int32).toNatClampNeg = 0 := by decide
    have := q5.1
    omega
theorem l_lx {Q Q' : Nat → Bool} {o : Int} {t : Nat → Int32} {g : Nat → Int64} {n : Nat} {p s tok v flt c j p' s' tok' v' flt' c' : Int32} (h : LSUM Q o t g n p s tok v flt c j p' s' tok' v' flt' c') (k : n ≤ j.toNatClampNeg) : RSUM Q' o t g n p s tok v flt c p' s' tok' v' flt' c' := by
  intro i hc
  rcases h i hc with q | ⟨q1, q2, q3, q4, q5, q6⟩
  · exact Or.inl q
  · have := q2.1
    omega
theorem l_le {Q Q' : Nat → Bool} {o : Int} {t : Nat → Int32} {g : Nat → Int64} {n : Nat} {p s tok v flt c j p' s' tok' v' flt' c' : Int32} (h : LSUM Q o t g n p s tok v flt c j p' s' tok' v' flt' c') (k : ∀ a, tok' = tkc t n a → Q a = false → Q' a = false) : RSUM Q' o t g n p s tok v flt c p' s' tok' v' flt' c' := by
  intro i hc
  rcases h i hc with q | ⟨q1, q2, q3, q4, q5, q6⟩
  · exact Or.inl q
  · exact Or.inr ⟨q1, q2, q3, k _ q2.2.2.2.1 q4, q5⟩
theorem l_leP {t : Nat → Int32} {n : Nat} {tok : Int32} (h1 : ¬ tok = 42) (h2 : ¬ tok = 47) (h3 : ¬ tok = 37) : ∀ a, tok = tkc t n a → Q0 a = false → tM t n a = false := by
  intro a e _
  rw [e] at h1 h2 h3
  unfold tM
  rw [tq_x h1, tq_x h2, tq_x h3]; rfl
theorem l_leS {t : Nat → Int32} {n : Nat} {tok : Int32} (h1 : ¬ tok = 43) (h2 : ¬ tok = 45) : ∀ a, tok = tkc t n a → tM t n a = false → tO t n a = false := by
  intro a e h
  rw [e] at h1 h2
  unfold tM at h
  unfold tO
  rw [tq_x h1, tq_x h2]
  cases x : tq t n a 42 with
  | true => rw [x] at h; exact absurd h (by simp)
  | false =>
    cases y : tq t n a 47 with
    | true => rw [x, y] at h; exact absurd h (by simp)
    | false =>
      cases z : tq t n a 37 with
      | true => rw [x, y, z] at h; exact absurd h (by simp)
      | false => rfl
theorem tO_of {t : Nat → Int32} {n a : Nat} (h : tkc t n a = 43 ∨ tkc t n a = 45 ∨ tkc t n a = 42 ∨ tkc t n a = 47 ∨ tkc t n a = 37) : tO t n a = true := by
  unfold tO tq
  rcases h with h | h | h | h | h <;> (rw [h]; decide)
theorem eX_tr {t : Nat → Int32} {n a s : Nat} {o : Int} (hs : s ≤ n) (b : kB t n s = false) (e : eX t n o a s) (h : tO t n s = true) : ∀ k ph o0 r, (ph = 0 ∨ ph = 1) → EV t n false o ((k, ph, 0, o0) :: r) a = EV t n false o ((k, ph, 0, o0) :: r) (nx t n s) := by
  intro k ph o0 r hp
  rw [e k ph o0 r hp, EV_op hs b hp h]
theorem l_lb {Q : Nat → Bool} {o : Int} {t : Nat → Int32} {g : Nat → Int64} {n : Nat} {p s tok v flt c j p1 s1 tok1 v1 flt1 c1 p2 s2 tok2 v2 flt2 p3 s3 tok3 v3 flt3 c3 c4 j' : Int32} (h : LSUM Q o t g n p s tok v flt c j p1 s1 tok1 v1 flt1 c1) (h2 : RSTEP t g n p1 s1 tok1 v1 flt1 p2 s2 tok2 v2 flt2) (h3 : RSUM Q o t g n p2 s2 tok2 v2 flt2 c1 p3 s3 tok3 v3 flt3 c3) (hw : WRT c3 c4)
    (x : 0 < flt2 → 0 < flt3) (gd : flt1 = 0 ∨ tok1 = 259) (e : tok1 = 43 ∨ tok1 = 45 ∨ tok1 = 42 ∨ tok1 = 47 ∨ tok1 = 37) (ej : j'.toNatClampNeg = j.toNatClampNeg + 1) : LSUM Q o t g n p s tok v flt c j' p3 s3 tok3 v3 flt3 c4 := by
  intro i hc
  rcases h i hc with q | ⟨q1, q2, q3, q4, q5, q6⟩
  · exfalso
    rcases gd with z | z
    · exact f_ne q.1 z
    · rw [z] at e; revert e; decide
  · have et : tkc t n s1.toNatClampNeg = 43 ∨ tkc t n s1.toNatClampNeg = 45 ∨ tkc t n s1.toNatClampNeg = 42 ∨ tkc t n s1.toNatClampNeg = 47 ∨ tkc t n s1.toNatClampNeg = 37 := by rw [← q2.2.2.2.1]; exact e
    have to := tO_of et
    have al := tO_lt to
    have gt := nx_gt (t := t) al
    have tr := eX_tr q2.1 q2.2.2.1 q3 to
    rcases h2 (IN_of i q1 q2) with r | r
    · exact Or.inl ⟨x r.1, fun k ph o0 r' hp => by rw [tr k ph o0 r' hp, EV_bad (nx_le q2.1) r.2]⟩
    · unfold CG at q5
      rcases h3 (IN_of i r.1 r.2.1) (by rw [r.2.2]; omega) with u | ⟨u1, u2, u3, u4, u5⟩
      · exact Or.inl ⟨u.1, fun k ph o0 r' hp => by rw [tr k ph o0 r' hp, ← r.2.2, u.2 k ph o0 r' hp]⟩
      · unfold CG at u5
        rw [r.2.2] at u5
        have k5 := u2.1
        have w := hw (by have := i.2.2.1; omega)
        refine Or.inr ⟨u1, u2, fun k ph o0 r' hp => by rw [tr k ph o0 r' hp, ← r.2.2, u3 k ph o0 r' hp], u4, ?_, by omega⟩
        unfold CG
        rw [w]
        omega
/-! FACTS -/
theorem stO_not {t : Nat → Int32} {n a : Nat} {op : Int} {k ph : Int32} {o0 : Int} {r : List Fr} {K : KT} (b : kB t n a = false) (hk : isT k = true) (h : tkc t n a = 321) : stO t n op k ph 1 o0 r a K = if op = 7 then none else K false (op + 1) ((k, ph, 1, o0) :: r) (nx t n a) := by
  unfold stO
  rw [if_neg (by rw [b]; decide), fi_1 hk, tq_t h, if_pos (by decide)]
theorem stO_bk {t : Nat → Int32} {n a : Nat} {op : Int} {k ph : Int32} {o0 : Int} {r : List Fr} {K : KT} (b : kB t n a = false) (hk : isT k = true) (h : tkc t n a = 91) : stO t n op k ph 1 o0 r a K = if op = 7 then none else K false (op + 1) ((5, 0, 1, op + 1) :: (k, ph, 0, o0) :: r) (nx t n a) := by
  unfold stO
  rw [if_neg (by rw [b]; decide), fi_1 hk, tq_f (d := 321) h (by decide), if_neg (by decide), tq_t h, if_pos (by decide)]
theorem stO_all {t : Nat → Int32} {n a : Nat} {op : Int} {k ph : Int32} {o0 : Int} {r : List Fr} {K : KT} (b : kB t n a = false) (hk : isT k = true) (h : tkc t n a = 322) : stO t n op k ph 1 o0 r a K = K true op ((k, 2, 0, o0) :: r) (nx t n a) := by
  unfold stO
  rw [if_neg (by rw [b]; decide), fi_1 hk, tq_f (d := 321) h (by decide), if_neg (by decide), tq_f (d := 91) h (by decide), if_neg (by decide), tq_t h, if_pos (by decide)]
def tAn (t : Nat → Int32) (n a : Nat) : Bool := tq t n a 320
def tAO (t : Nat → Int32) (n a : Nat) : Bool := tq t n a 320 || tq t n a 319
theorem l_f1 {o o1 : Int} {t : Nat → Int32} {g : Nat → Int64} {n : Nat} {p s tok v flt c p1 s1 tok1 v1 flt1 p2 s2 tok2 v2 flt2 c2 c' : Int32} (h1 : ROPEN o t g n p s tok v flt p1 s1 tok1 v1 flt1) (h2 : RFACT o1 t g n p1 s1 tok1 v1 flt1 c p2 s2 tok2 v2 flt2 c2) (hw : WRT c2 c') (x1 : 0 < flt1 → 0 < flt2) (e : tok = 321) (eo : o1 = o + 1) : RFACT o t g n p s tok v flt c p2 s2 tok2 v2 flt2 c' := by
  intro i hc
  subst eo
  have hs := i.2.2.2.2.1
  have b := i.2.2.2.2.2.2.1
  have et : tkc t n s.toNatClampNeg = 321 := i.2.2.2.2.2.2.2.1.symm.trans e
  have al := tkc_lt et (by decide)
  have gt := nx_gt (t := t) al
  have nl := nx_le (t := t) hs
  have a := h1 i
  by_cases o7 : o = 7
  · exact Or.inl ⟨x1 (a.1 o7), fun k o0 r hk => by rw [EV_o hs, stO_not b hk et, if_pos o7]⟩
  · have st : ∀ k o0 r, isT k = true → EV t n false o ((k, 0, 1, o0) :: r) s.toNatClampNeg = EV t n false (o + 1) ((k, 0, 1, o0) :: r) (nx t n s.toNatClampNeg) := fun k o0 r hk => by rw [EV_o hs, stO_not b hk et, if_neg o7]
    rcases a.2 o7 with q | q
    · exact Or.inl ⟨x1 q.1, fun k o0 r hk => by rw [st k o0 r hk, EV_bad nl q.2]⟩
    · rcases h2 (IN_of i q.1 q.2.1) (by rw [q.2.2]; omega) with r2 | ⟨f2, k2, ⟨w, fq, e2⟩, g2⟩
      · exact Or.inl ⟨r2.1, fun k o0 r hk => by rw [st k o0 r hk, ← q.2.2, r2.2 k o0 r hk]⟩
      · unfold CG at g2
        rw [q.2.2] at g2
        have k5 := k2.1
        have w9 := hw (by have := i.2.2.1; omega)
        refine Or.inr ⟨f2, k2, ⟨w, fq, fun k o0 r u hk => by rw [st k o0 r hk, ← q.2.2, e2 k o0 r u hk]⟩, ?_⟩
        unfold CG
        rw [w9]
        omega
theorem l_f2 {o o1 : Int} {t : Nat → Int32} {g : Nat → Int64} {n : Nat} {p s tok v flt c p1 s1 tok1 v1 flt1 p2 s2 tok2 v2 flt2 c' p' s' tok' v' flt' : Int32} (h1 : ROPEN o t g n p s tok v flt p1 s1 tok1 v1 flt1) (h2 : RBOTH (tAO t n) o1 t g n p1 s1 tok1 v1 flt1 c p2 s2 tok2 v2 flt2 c') (h3 : RPASS 93 t g n p2 s2 tok2 v2 flt2 p' s' tok' v' flt') (x1 : 0 < flt1 → 0 < flt2) (x2 : 0 < flt2 → 0 < flt') (e : tok = 91) (eo : o1 = o + 1) : RFACT o t g n p s tok v flt c p' s' tok' v' flt' c' := by
  intro i hc
  subst eo
  have hs := i.2.2.2.2.1
  have b := i.2.2.2.2.2.2.1
  have et : tkc t n s.toNatClampNeg = 91 := i.2.2.2.2.2.2.2.1.symm.trans e
  have al := tkc_lt et (by decide)
  have gt := nx_gt (t := t) al
  have nl := nx_le (t := t) hs
  have a := h1 i
  by_cases o7 : o = 7
  · exact Or.inl ⟨x2 (x1 (a.1 o7)), fun k o0 r hk => by rw [EV_o hs, stO_bk b hk et, if_pos o7]⟩
  have st : ∀ k o0 r, isT k = true → EV t n false o ((k, 0, 1, o0) :: r) s.toNatClampNeg = EV t n false (o + 1) ((5, 0, 1, o + 1) :: (k, 0, 0, o0) :: r) (nx t n s.toNatClampNeg) := fun k o0 r hk => by rw [EV_o hs, stO_bk b hk et, if_neg o7]
  rcases a.2 o7 with q | q
  · exact Or.inl ⟨x2 (x1 q.1), fun k o0 r hk => by rw [st k o0 r hk, EV_bad nl q.2]⟩
  rcases h2 (IN_of i q.1 q.2.1) (by rw [q.2.2]; omega) with r2 | ⟨f2, k2, ⟨w, fq, e2⟩, to2, g2⟩
  · exact Or.inl ⟨x2 r2.1, fun k o0 r hk => by rw [st k o0 r hk, ← q.2.2, r2.2 5 ((k, 0, 0, o0) :: r) (by decide)]⟩
  have e1 : o + 1 - 1 = o := by omega
  have fin : ∀ k o0 r, isT k = true → EV t n false o ((k, 0, 1, o0) :: r) s.toNatClampNeg = if tq t n s2.toNatClampNeg 93 = false then none else EV t n true o ((k, 2, 0, o0) :: r) (nx t n s2.toNatClampNeg) := by
    intro k o0 r hk
    rw [st k o0 r hk, ← q.2.2, e2 5 ((k, 0, 0, o0) :: r) 0 (by decide), EV_fact k2.1 k2.2.2.1 (by decide) fq, if_neg (by rw [show (tq t n s2.toNatClampNeg 320 || tq t n s2.toNatClampNeg 319) = false from to2]; decide), if_neg (by decide)]
    show (if tq t n s2.toNatClampNeg 93 = false then none else EV t n true (o + 1 - 1) ((k, (if (5 : Int32) = 5 then 2 else 0), 0, o0) :: r) (nx t n s2.toNatClampNeg)) = _
    rw [if_pos rfl, e1]
  rcases h3 (IN_of i f2 k2) with r3 | r3
  · refine Or.inl ⟨r3.1, fun k o0 r hk => ?_⟩
    rw [fin k o0 r hk]
    rcases r3.2 with z | z
    · rw [if_pos (tq_x z)]
    · split
      · rfl
      · rw [EV_bad (nx_le k2.1) z]
  · refine Or.inr ⟨r3.2.1, r3.2.2.1, ⟨2, Or.inl rfl, fun k o0 r u hk => ?_⟩, ?_⟩
    · rw [fin k o0 r hk, if_neg (by rw [tq_t r3.1]; decide), r3.2.2.2, EV_u (v := u) (nx_le k2.1) hk (Or.inl rfl)]
    · have gg := nx_gt (t := t) (tkc_lt r3.1 (by decide))
      unfold CG at g2 ⊢
      rw [r3.2.2.2]
      rw [q.2.2] at g2
      omega
theorem l_f3 {o : Int} {t : Nat → Int32} {g : Nat → Int64} {n : Nat} {p s tok v flt c c' p' s' tok' v' flt' : Int32} (hw : WRT c c') (h : RSTEP t g n p s tok v flt p' s' tok' v' flt') (e : tok = 322) : RFACT o t g n p s tok v flt c p' s' tok' v' flt' c' := by
  intro i hc
  have hs := i.2.2.2.2.1
  have b := i.2.2.2.2.2.2.1
  have et : tkc t n s.toNatClampNeg = 322 := i.2.2.2.2.2.2.2.1.symm.trans e
  have al := tkc_lt et (by decide)
  have gt := nx_gt (t := t) al
  have st : ∀ k o0 r, isT k = true → EV t n false o ((k, 0, 1, o0) :: r) s.toNatClampNeg = EV t n true o ((k, 2, 0, o0) :: r) (nx t n s.toNatClampNeg) := fun k o0 r hk => by rw [EV_o hs, stO_all b hk et]
  rcases h i with q | q
  · exact Or.inl ⟨q.1, fun k o0 r hk => by rw [st k o0 r hk, EV_bad (nx_le hs) q.2]⟩
  · have w := hw (by have := i.2.2.1; omega)
    refine Or.inr ⟨q.1, q.2.1, ⟨2, Or.inl rfl, fun k o0 r u hk => by rw [st k o0 r hk, q.2.2, EV_u (v := u) (nx_le hs) hk (Or.inl rfl)]⟩, ?_⟩
    unfold CG
    rw [q.2.2]
    omega
theorem l_fs {o : Int} {t : Nat → Int32} {g : Nat → Int64} {n : Nat} {p s tok v flt : Int32} (i : IN t g n p s tok v flt) (h1 : ¬ tok = 321) (h2 : ¬ tok = 91) (h3 : ¬ tok = 322) : ∀ k o0 r, EV t n false o ((k, 0, 1, o0) :: r) s.toNatClampNeg = EV t n false o ((k, 0, 0, o0) :: r) s.toNatClampNeg := by
  intro k o0 r
  have et := i.2.2.2.2.2.2.2.1
  rw [et] at h1 h2 h3
  exact EV_bg i.2.2.2.2.1 (Or.inr ⟨h1, h2, h3⟩)
theorem stB_cmp {t : Nat → Int32} {n a : Nat} {op : Int} {k bg : Int32} {o0 : Int} {r : List Fr} (ha : a ≤ n) (b : kB t n a = false) (hk : isT k = true) (h : tO t n a = false) (c : tC t n a = true) : EV t n true op ((k, 0, bg, o0) :: r) a = EV t n false op ((k, 1, bg, o0) :: r) (nx t n a) := by
  rw [EV_b ha]
  unfold stB
  rw [if_neg (by rw [b]; decide), h, if_neg (by simp), hk, c, if_pos (by decide)]
theorem stB_ncmp {t : Nat → Int32} {n a : Nat} {op : Int} {k bg : Int32} {o0 : Int} {r : List Fr} (ha : a ≤ n) (hk : isT k = true) (h : tO t n a = false) (c : tC t n a = false) : EV t n true op ((k, 0, bg, o0) :: r) a = none := by
  rw [EV_b ha]
  unfold stB
  split
  · rfl
  · rw [h, if_neg (by simp), hk, c, if_neg (by simp)]
    split
    · rw [if_pos rfl]
    · rw [if_pos (by decide)]
theorem l_f4 {o : Int} {t : Nat → Int32} {g : Nat → Int64} {n : Nat} {p s tok v flt c p1 s1 tok1 v1 flt1 c1 p' s' tok' v' flt' c' : Int32} (h1 : RSUM (tO t n) o t g n p s tok v flt c p1 s1 tok1 v1 flt1 c1) (x1 : 0 < flt1 → 0 < flt') (x2 : flt1 = 0 → 0 < flt') (n1 : ¬ tok = 321) (n2 : ¬ tok = 91) (n3 : ¬ tok = 322) (m1 : ¬ tok1 = 60) (m2 : ¬ tok1 = 62) (m3 : ¬ tok1 = 61) : RFACT o t g n p s tok v flt c p' s' tok' v' flt' c' := by
  intro i hc
  have fs := l_fs (o := o) i n1 n2 n3
  rcases h1 i hc with q | ⟨q1, q2, q3, q4, q5⟩
  · exact Or.inl ⟨x1 q.1, fun k o0 r hk => by rw [fs, q.2 k 0 o0 r (Or.inl rfl)]⟩
  · refine Or.inl ⟨x2 q1, fun k o0 r hk => ?_⟩
    rw [q2.2.2.2.1] at m1 m2 m3
    have c0 : tC t n s1.toNatClampNeg = false := by unfold tC; rw [tq_x m1, tq_x m2, tq_x m3]; rfl
    rw [fs, q3 k 0 o0 r (Or.inl rfl), stB_ncmp q2.1 hk q4 c0]
theorem l_f5 {o : Int} {t : Nat → Int32} {g : Nat → Int64} {n : Nat} {p s tok v flt c p1 s1 tok1 v1 flt1 c1 p2 s2 tok2 v2 flt2 p3 s3 tok3 v3 flt3 c3 c' : Int32} (h1 : RSUM (tO t n) o t g n p s tok v flt c p1 s1 tok1 v1 flt1 c1) (h2 : RSTEP t g n p1 s1 tok1 v1 flt1 p2 s2 tok2 v2 flt2) (h3 : RSUM (tO t n) o t g n p2 s2 tok2 v2 flt2 c1 p3 s3 tok3 v3 flt3 c3) (hw : WRT c3 c') (x1 : 0 < flt1 → 0 < flt2) (x2 : 0 < flt2 → 0 < flt3)
    (n1 : ¬ tok = 321) (n2 : ¬ tok = 91) (n3 : ¬ tok = 322) (m : tok1 = 60 ∨ tok1 = 62 ∨ tok1 = 61) : RFACT o t g n p s tok v flt c p3 s3 tok3 v3 flt3 c' := by
  intro i hc
  have fs := l_fs (o := o) i n1 n2 n3
  rcases h1 i hc with q | ⟨q1, q2, q3, q4, q5⟩
  · exact Or.inl ⟨x2 (x1 q.1), fun k o0 r hk => by rw [fs, q.2 k 0 o0 r (Or.inl rfl)]⟩
  rw [q2.2.2.2.1] at m
  have c0 : tC t n s1.toNatClampNeg = true := by unfold tC tq; rcases m with m | m | m <;> (rw [m]; decide)
  have al := tC_lt c0
  have gt := nx_gt (t := t) al
  have st : ∀ k o0 r, isT k = true → EV t n false o ((k, 0, 1, o0) :: r) s.toNatClampNeg = EV t n false o ((k, 1, 0, o0) :: r) (nx t n s1.toNatClampNeg) := fun k o0 r hk => by
    rw [fs, q3 k 0 o0 r (Or.inl rfl), stB_cmp q2.1 q2.2.2.1 hk q4 c0]
  unfold CG at q5
  rcases h2 (IN_of i q1 q2) with r | r
  · exact Or.inl ⟨x2 r.1, fun k o0 r' hk => by rw [st k o0 r' hk, EV_bad (nx_le q2.1) r.2]⟩
  rcases h3 (IN_of i r.1 r.2.1) (by rw [r.2.2]; omega) with u | ⟨u1, u2, u3, u4, u5⟩
  · exact Or.inl ⟨u.1, fun k o0 r' hk => by rw [st k o0 r' hk, ← r.2.2, u.2 k 1 o0 r' (Or.inr rfl)]⟩
  · unfold CG at u5
    rw [r.2.2] at u5
    have k5 := u2.1
    have w := hw (by have := i.2.2.1; omega)
    refine Or.inr ⟨u1, u2, ⟨1, Or.inr ⟨rfl, u4⟩, fun k o0 r' u hk => ?_⟩, ?_⟩
    · rw [st k o0 r' hk, ← r.2.2, u3 k 1 o0 r' (Or.inr rfl), EV_u (v := u) u2.1 hk (Or.inr ⟨rfl, u4⟩)]
    · unfold CG
      rw [w]
      omega
/-! BOTHS and TESTS -/
def LB9 (Q : Nat → Bool) (t : Nat → Int32) (n : Nat) (o : Int) (a : Nat) (c j p s tok v flt c' : Int32) : Prop := (0 < flt ∧ fB t n o a) ∨ (flt = 0 ∧ TK t n p s tok v ∧ eB t n o a s.toNatClampNeg ∧ Q s.toNatClampNeg = false ∧ CG a c s.toNatClampNeg c' ∧ j.toNatClampNeg < s.toNatClampNeg)
def LBOTH (Q : Nat → Bool) (o : Int) (t : Nat → Int32) (g : Nat → Int64) (n : Nat) (p s tok v flt c j p' s' tok' v' flt' c' : Int32) : Prop := IN t g n p s tok v flt → c.toNatClampNeg ≤ s.toNatClampNeg → LB9 Q t n o s.toNatClampNeg c j p' s' tok' v' flt' c'
theorem l_b0 {o : Int} {t : Nat → Int32} {g : Nat → Int64} {n : Nat} {p s tok v flt c p' s' tok' v' flt' c' : Int32} (h : RFACT o t g n p s tok v flt c p' s' tok' v' flt' c') : LBOTH Q0 o t g n p s tok v flt c 0 p' s' tok' v' flt' c' := by
  intro i hc
  rcases h i hc with q | ⟨q1, q2, ⟨w, q3, q4⟩, q5⟩
  · exact Or.inl ⟨q.1, fun k r hk => q.2 k o r hk⟩
  · refine Or.inr ⟨q1, q2, ⟨w, q3, fun k r u hk => q4 k o r u hk⟩, rfl, q5, ?_⟩
    have z : (0 : Int32).toNatClampNeg = 0 := by decide
    have := q5.1
    omega
theorem l_t0 {Q : Nat → Bool} {o : Int} {t : Nat → Int32} {g : Nat → Int64} {n : Nat} {p s tok v flt c p' s' tok' v' flt' c' : Int32} (h : RBOTH Q o t g n p s tok v flt c p' s' tok' v' flt' c') : LBOTH Q o t g n p s tok v flt c 0 p' s' tok' v' flt' c' := by
  intro i hc
  rcases h i hc with q | ⟨q1, q2, q3, q4, q5⟩
  · exact Or.inl q
  · refine Or.inr ⟨q1, q2, q3, q4, q5, ?_⟩
    have z : (0 : Int32).toNatClampNeg = 0 := by decide
    have := q5.1
    omega
theorem l_bx {Q Q' : Nat → Bool} {o : Int} {t : Nat → Int32} {g : Nat → Int64} {n : Nat} {p s tok v flt c j p' s' tok' v' flt' c' : Int32} (h : LBOTH Q o t g n p s tok v flt c j p' s' tok' v' flt' c') (k : n ≤ j.toNatClampNeg) : RBOTH Q' o t g n p s tok v flt c p' s' tok' v' flt' c' := by
  intro i hc
  rcases h i hc with q | ⟨q1, q2, q3, q4, q5, q6⟩
  · exact Or.inl q
  · have := q2.1
    omega
theorem l_be {Q Q' : Nat → Bool} {o : Int} {t : Nat → Int32} {g : Nat → Int64} {n : Nat} {p s tok v flt c j p' s' tok' v' flt' c' : Int32} (h : LBOTH Q o t g n p s tok v flt c j p' s' tok' v' flt' c') (k : ∀ a, tok' = tkc t n a → Q a = false → Q' a = false) : RBOTH Q' o t g n p s tok v flt c p' s' tok' v' flt' c' := by
  intro i hc
  rcases h i hc with q | ⟨q1, q2, q3, q4, q5, q6⟩
  · exact Or.inl q
  · exact Or.inr ⟨q1, q2, q3, k _ q2.2.2.2.1 q4, q5⟩
theorem l_leA {t : Nat → Int32} {n : Nat} {tok : Int32} (h1 : ¬ tok = 320) : ∀ a, tok = tkc t n a → Q0 a = false → tAn t n a = false := by
  intro a e _
  rw [e] at h1
  exact tq_x h1
theorem l_leO {t : Nat → Int32} {n : Nat} {tok : Int32} (h1 : ¬ tok = 319) : ∀ a, tok = tkc t n a → tAn t n a = false → tAO t n a = false := by
  intro a e h
  rw [e] at h1
  unfold tAn at h
  unfold tAO
  rw [h, tq_x h1]; rfl
theorem eB_tr {t : Nat → Int32} {n a s : Nat} {o : Int} (hs : s ≤ n) (b : kB t n s = false) (e : eB t n o a s) (h : (tq t n s 320 || tq t n s 319) = true) : ∀ k r, isT k = true → EV t n false o ((k, 0, 1, o) :: r) a = EV t n false o ((k, 0, 1, o) :: r) (nx t n s) := by
  intro k r hk
  obtain ⟨w, q3, q4⟩ := e
  rw [q4 k r 0 hk, EV_fact hs b hk q3, if_pos h]
theorem l_bb {Q Q2 : Nat → Bool} {o : Int} {t : Nat → Int32} {g : Nat → Int64} {n : Nat} {p s tok v flt c j p1 s1 tok1 v1 flt1 c1 p2 s2 tok2 v2 flt2 p3 s3 tok3 v3 flt3 c3 c4 j' : Int32} (h : LBOTH Q o t g n p s tok v flt c j p1 s1 tok1 v1 flt1 c1) (h2 : RSTEP t g n p1 s1 tok1 v1 flt1 p2 s2 tok2 v2 flt2) (h3 : RBOTH Q2 o t g n p2 s2 tok2 v2 flt2 c1 p3 s3 tok3 v3 flt3 c3) (hq : ∀ a, Q2 a = false → Q a = false) (hw : WRT c3 c4)
    (x : 0 < flt2 → 0 < flt3) (gd : flt1 = 0 ∨ tok1 = 259) (e : tok1 = 320 ∨ tok1 = 319) (ej : j'.toNatClampNeg = j.toNatClampNeg + 1) : LBOTH Q o t g n p s tok v flt c j' p3 s3 tok3 v3 flt3 c4 := by
  intro i hc
  rcases h i hc with q | ⟨q1, q2, q3, q4, q5, q6⟩
  · exfalso
    rcases gd with z | z
    · exact f_ne q.1 z
    · rw [z] at e; revert e; decide
  · have et : tkc t n s1.toNatClampNeg = 320 ∨ tkc t n s1.toNatClampNeg = 319 := by rw [← q2.2.2.2.1]; exact e
    have to : (tq t n s1.toNatClampNeg 320 || tq t n s1.toNatClampNeg 319) = true := by
      rcases et with z | z
      · exact oL (tq_t z)
      · exact oR (tq_t z)
    have al : s1.toNatClampNeg < n := by
      rcases et with z | z
      · exact tkc_lt z (by decide)
      · exact tkc_lt z (by decide)
    have gt := nx_gt (t := t) al
    have tr := eB_tr q2.1 q2.2.2.1 q3 to
    rcases h2 (IN_of i q1 q2) with r | r
    · exact Or.inl ⟨x r.1, fun k r' hk => by rw [tr k r' hk, EV_bad (nx_le q2.1) r.2]⟩
    · unfold CG at q5
      rcases h3 (IN_of i r.1 r.2.1) (by rw [r.2.2]; omega) with u | ⟨u1, u2, ⟨w, u3, u6⟩, u4, u5⟩
      · exact Or.inl ⟨u.1, fun k r' hk => by rw [tr k r' hk, ← r.2.2, u.2 k r' hk]⟩
      · unfold CG at u5
        rw [r.2.2] at u5
        have k5 := u2.1
        have w9 := hw (by have := i.2.2.1; omega)
        refine Or.inr ⟨u1, u2, ⟨w, u3, fun k r' z hk => by rw [tr k r' hk, ← r.2.2, u6 k r' z hk]⟩, hq _ u4, ?_, by omega⟩
        unfold CG
        rw [w9]
        omega
theorem RF_RB {o : Int} {t : Nat → Int32} {g : Nat → Int64} {n : Nat} {p s tok v flt c p' s' tok' v' flt' c' : Int32} (h : RFACT o t g n p s tok v flt c p' s' tok' v' flt' c') : RBOTH Q0 o t g n p s tok v flt c p' s' tok' v' flt' c' := by
  intro i hc
  rcases h i hc with q | ⟨q1, q2, ⟨w, q3, q4⟩, q5⟩
  · exact Or.inl ⟨q.1, fun k r hk => q.2 k o r hk⟩
  · exact Or.inr ⟨q1, q2, ⟨w, q3, fun k r u hk => q4 k o r u hk⟩, rfl, q5⟩
/-! a SUM, a TEST as a statement's: where it ends -/
def SUMr (t : Nat → Int32) (n a : Nat) : Option Nat := EV t n false 0 [(0, 0, 1, 0)] a
def TESTr (t : Nat → Int32) (n a : Nat) : Option Nat := EV t n false 0 [(1, 0, 1, 0)] a
theorem l_sumS {t : Nat → Int32} {g : Nat → Int64} {n : Nat} {p s tok v flt c p' s' tok' v' flt' c' : Int32} (h : RSUM (tO t n) 0 t g n p s tok v flt c p' s' tok' v' flt' c') (i : IN t g n p s tok v flt) (hc : c.toNatClampNeg ≤ s.toNatClampNeg) : (0 < flt' ∧ SUMr t n s.toNatClampNeg = none) ∨ (flt' = 0 ∧ TK t n p' s' tok' v' ∧ SUMr t n s.toNatClampNeg = some s'.toNatClampNeg ∧ CG s.toNatClampNeg c s'.toNatClampNeg c') := by
  have hs := i.2.2.2.2.1
  unfold SUMr
  rw [EV_bg hs (Or.inl (fi_n (by decide) 1))]
  rcases h i hc with q | ⟨q1, q2, q3, q4, q5⟩
  · exact Or.inl ⟨q.1, q.2 0 0 0 [] (Or.inl rfl)⟩
  · refine Or.inr ⟨q1, q2, ?_, q5⟩
    rw [q3 0 0 0 [] (Or.inl rfl), EV_end q2.1 q2.2.2.1 (by decide) q4, if_pos (by decide)]
theorem l_test {t : Nat → Int32} {g : Nat → Int64} {n : Nat} {p s tok v flt c p' s' tok' v' flt' c' : Int32} (h : RBOTH (tAO t n) 0 t g n p s tok v flt c p' s' tok' v' flt' c') (i : IN t g n p s tok v flt) (hc : c.toNatClampNeg ≤ s.toNatClampNeg) : (0 < flt' ∧ TESTr t n s.toNatClampNeg = none) ∨ (flt' = 0 ∧ TK t n p' s' tok' v' ∧ TESTr t n s.toNatClampNeg = some s'.toNatClampNeg ∧ CG s.toNatClampNeg c s'.toNatClampNeg c') := by
  unfold TESTr
  rcases h i hc with q | ⟨q1, q2, ⟨w, q3, q6⟩, q4, q5⟩
  · exact Or.inl ⟨q.1, q.2 1 [] (by decide)⟩
  · refine Or.inr ⟨q1, q2, ?_, q5⟩
    rw [q6 1 [] 0 (by decide), EV_fact q2.1 q2.2.2.1 (by decide) q3, if_neg (by rw [show (tq t n s'.toNatClampNeg 320 || tq t n s'.toNatClampNeg 319) = false from q4]; decide), if_pos (by decide)]
/-! seven are open: one more is a FAULT -/
theorem l_p27 {o : Int} {t : Nat → Int32} {g : Nat → Int64} {n : Nat} {p s tok v flt c p' s' tok' v' flt' c' : Int32} (x : 0 < flt') (e : tok = 40) (o7 : o = 7) : RSUM Q0 o t g n p s tok v flt c p' s' tok' v' flt' c' := by
  intro i hc
  have et : tkc t n s.toNatClampNeg = 40 := i.2.2.2.2.2.2.2.1.symm.trans e
  exact Or.inl ⟨x, fun k ph o0 r _ => by rw [EV_o i.2.2.2.2.1, stO_br i.2.2.2.2.2.2.1 et, if_pos o7]⟩
theorem l_p47 {o : Int} {t : Nat → Int32} {g : Nat → Int64} {n : Nat} {p s tok v flt c pa sa toka va flta p' s' tok' v' flt' c' : Int32} (h0 : RSTEP t g n p s tok v flt pa sa toka va flta) (x : 0 < flt') (ea : toka = 40) (e : tok = 323 ∨ tok = 324) (o7 : o = 7) : RSUM Q0 o t g n p s tok v flt c p' s' tok' v' flt' c' := by
  intro i hc
  have hs := i.2.2.2.2.1
  have b := i.2.2.2.2.2.2.1
  rw [i.2.2.2.2.2.2.2.1] at e
  refine Or.inl ⟨x, fun k ph o0 r _ => ?_⟩
  rw [EV_o hs, stO_mm b e]
  split
  · rfl
  · split
    · rfl
    · first | rfl | rw [if_pos o7]
theorem l_f17 {o : Int} {t : Nat → Int32} {g : Nat → Int64} {n : Nat} {p s tok v flt c p' s' tok' v' flt' c' : Int32} (x : 0 < flt') (e : tok = 321) (o7 : o = 7) : RFACT o t g n p s tok v flt c p' s' tok' v' flt' c' := by
  intro i hc
  have et : tkc t n s.toNatClampNeg = 321 := i.2.2.2.2.2.2.2.1.symm.trans e
  exact Or.inl ⟨x, fun k o0 r hk => by rw [EV_o i.2.2.2.2.1, stO_not i.2.2.2.2.2.2.1 hk et, if_pos o7]⟩
theorem l_f27 {o : Int} {t : Nat → Int32} {g : Nat → Int64} {n : Nat} {p s tok v flt c p' s' tok' v' flt' c' : Int32} (x : 0 < flt') (e : tok = 91) (o7 : o = 7) : RFACT o t g n p s tok v flt c p' s' tok' v' flt' c' := by
  intro i hc
  have et : tkc t n s.toNatClampNeg = 91 := i.2.2.2.2.2.2.2.1.symm.trans e
  exact Or.inl ⟨x, fun k o0 r hk => by rw [EV_o i.2.2.2.2.1, stO_bk i.2.2.2.2.2.2.1 hk et, if_pos o7]⟩
