/-! the class' reader of SUMS and TESTS: what each method makes of a text, for any frames around it -/
/-- rows of a step, by what the token is -/
theorem stO_br {t : Nat → Int32} {n a : Nat} {op : Int} {k ph : Int32} {o0 : Int} {r : List Fr} {K : KT} (b : kB t n a = false) (h : tkc t n a = 40) : stO t n op k ph 0 o0 r a K = if op = 7 then none else K false (op + 1) ((2, 0, 1, op + 1) :: (k, ph, 0, o0) :: r) (nx t n a) := by
  unfold stO
  rw [if_neg (by rw [b]; decide), fi_0, if_neg (by simp), if_neg (by simp), if_neg (by simp), if_pos (tq_t h)]
theorem stO_mm {t : Nat → Int32} {n a : Nat} {op : Int} {k ph : Int32} {o0 : Int} {r : List Fr} {K : KT} (b : kB t n a = false) (h : tkc t n a = 323 ∨ tkc t n a = 324) : stO t n op k ph 0 o0 r a K = if kB t n (nx t n a) = true then none else if tq t n (nx t n a) 40 = false then none else if op = 7 then none else K false (op + 1) ((3, 0, 1, op + 1) :: (k, ph, 0, o0) :: r) (nx t n (nx t n a)) := by
  have h4 : tq t n a 40 = false := by rcases h with h | h <;> exact tq_f h (by decide)
  have h5 : (tq t n a 323 || tq t n a 324) = true := by rcases h with h | h; exact oL (tq_t h); exact oR (tq_t h)
  unfold stO
  rw [if_neg (by rw [b]; decide), fi_0, if_neg (by simp), if_neg (by simp), if_neg (by simp), if_neg (by rw [h4]; decide), if_pos h5]
theorem stO_pt {t : Nat → Int32} {n a : Nat} {op : Int} {k ph : Int32} {o0 : Int} {r : List Fr} {K : KT} (b : kB t n a = false) (h : tP t n a = true) (h4 : ¬ tkc t n a = 40) (h5 : ¬ tkc t n a = 323) (h6 : ¬ tkc t n a = 324) : stO t n op k ph 0 o0 r a K = K true op ((k, ph, 0, o0) :: r) (nx t n a) := by
  unfold stO
  rw [if_neg (by rw [b]; decide), fi_0, if_neg (by simp), if_neg (by simp), if_neg (by simp), if_neg (by rw [tq_x h4]; decide), if_neg (by rw [tq_x h5, tq_x h6]; decide), if_pos h]
theorem stO_no {t : Nat → Int32} {n a : Nat} {op : Int} {k ph : Int32} {o0 : Int} {r : List Fr} {K : KT} (h : tP t n a = false) (h4 : ¬ tkc t n a = 40) (h5 : ¬ tkc t n a = 323) (h6 : ¬ tkc t n a = 324) : stO t n op k ph 0 o0 r a K = none := by
  unfold stO
  split
  · rfl
  · rw [fi_0, if_neg (by simp), if_neg (by simp), if_neg (by simp), if_neg (by rw [tq_x h4]; decide), if_neg (by rw [tq_x h5, tq_x h6]; decide), if_neg (by rw [h]; decide)]
/-- where a FACT doesn't begin with its own signs, it begins as a SUM -/
theorem stO_bg {t : Nat → Int32} {n a : Nat} {op : Int} {k ph bg : Int32} {o0 : Int} {r : List Fr} {K : KT} (h : fi k bg = false ∨ (¬ tkc t n a = 321 ∧ ¬ tkc t n a = 91 ∧ ¬ tkc t n a = 322)) : stO t n op k ph bg o0 r a K = stO t n op k ph 0 o0 r a K := by
  have e : ∀ c : Int32, (c = 321 ∨ c = 91 ∨ c = 322) → (fi k bg && tq t n a c) = false := by
    intro c hc
    rcases h with h | ⟨h1, h2, h3⟩
    · rw [h]; rfl
    · have z : tq t n a c = false := by
        rcases hc with rfl | rfl | rfl
        · exact tq_x h1
        · exact tq_x h2
        · exact tq_x h3
      rw [z]; cases fi k bg <;> rfl
  unfold stO
  rw [e 321 (Or.inl rfl), e 91 (Or.inr (Or.inl rfl)), e 322 (Or.inr (Or.inr rfl)), fi_0]
  rfl
theorem EV_bg {t : Nat → Int32} {n a : Nat} {op : Int} {k ph bg : Int32} {o0 : Int} {r : List Fr} (ha : a ≤ n) (h : fi k bg = false ∨ (¬ tkc t n a = 321 ∧ ¬ tkc t n a = 91 ∧ ¬ tkc t n a = 322)) : EV t n false op ((k, ph, bg, o0) :: r) a = EV t n false op ((k, ph, 0, o0) :: r) a := by
  rw [EV_o ha, EV_o ha, stO_bg h]
/-- behind: an operator -/
theorem EV_op {t : Nat → Int32} {n a : Nat} {op : Int} {k ph bg : Int32} {o0 : Int} {r : List Fr} (ha : a ≤ n) (b : kB t n a = false) (hp : ph = 0 ∨ ph = 1) (h : tO t n a = true) : EV t n true op ((k, ph, bg, o0) :: r) a = EV t n false op ((k, ph, bg, o0) :: r) (nx t n a) := by
  have z : decide (ph < 2) = true := by rcases hp with rfl | rfl <;> decide
  rw [EV_b ha]
  unfold stB
  rw [if_neg (by rw [b]; decide), z, h, if_pos (by decide)]
/-- behind a SUM that is over: its frame's end -/
theorem EV_end {t : Nat → Int32} {n a : Nat} {op : Int} {k ph bg : Int32} {o0 : Int} {r : List Fr} (ha : a ≤ n) (b : kB t n a = false) (hk : isT k = false) (h : tO t n a = false) : EV t n true op ((k, ph, bg, o0) :: r) a = if k < 2 then some a else if k = 3 then (if tq t n a 44 = false then none else EV t n false o0 ((4, ph, bg, o0) :: r) (nx t n a)) else if tq t n a (if k = 5 then 93 else 41) = false then none else stC k o0 r (nx t n a) (EV t n) := by
  rw [EV_b ha]
  unfold stB
  rw [if_neg (by rw [b]; decide), h, hk, if_neg (by simp), if_neg (by simp), if_neg (by simp), if_neg (by simp)]
/-- behind a whole FACT -/
def FQ (t : Nat → Int32) (n a : Nat) (q : Int32) : Prop := q = 2 ∨ (q = 1 ∧ tO t n a = false)
theorem FQ_ne {t : Nat → Int32} {n a : Nat} {q : Int32} (h : FQ t n a q) : ¬ q = 0 ∧ (decide (q < 2) && tO t n a) = false := by
  rcases h with rfl | ⟨rfl, h⟩
  · exact ⟨by decide, by simp⟩
  · exact ⟨by decide, by rw [h]; rfl⟩
theorem EV_fact {t : Nat → Int32} {n a : Nat} {op : Int} {k q : Int32} {o0 : Int} {r : List Fr} (ha : a ≤ n) (b : kB t n a = false) (hk : isT k = true) (hq : FQ t n a q) : EV t n true op ((k, q, 0, o0) :: r) a = if (tq t n a 320 || tq t n a 319) = true then EV t n false o0 ((k, 0, 1, o0) :: r) (nx t n a) else if k < 2 then some a else if tq t n a 93 = false then none else stC k o0 r (nx t n a) (EV t n) := by
  have z := FQ_ne hq
  have e3 : ¬ k = 3 := by rintro rfl; exact absurd hk (by decide)
  rw [EV_b ha]
  unfold stB
  rw [if_neg (by rw [b]; decide), z.2, decide_eq_false z.1, hk, if_neg (by simp), if_neg (by simp)]
  by_cases c : (tq t n a 320 || tq t n a 319) = true
  · rw [c, if_pos (by decide), if_neg z.1, if_pos rfl]
  · rw [if_neg (show ¬ (true && (tq t n a 320 || tq t n a 319)) = true from c), if_neg (by simp), if_neg c, if_neg e3]
    by_cases k2 : k < 2
    · rw [if_pos k2, if_pos k2]
    · have k5 : k = 5 := by
        unfold isT at hk
        rcases of_decide_eq_true hk with h | h
        · rw [h] at k2; exact absurd (by decide) k2
        · exact h
      rw [if_neg k2, if_neg k2, if_pos k5]
/-- it hangs on nothing that is open -/
theorem EV_u {t : Nat → Int32} {n a : Nat} {u v : Int} {k q : Int32} {o0 : Int} {r : List Fr} (ha : a ≤ n) (hk : isT k = true) (hq : FQ t n a q) : EV t n true u ((k, q, 0, o0) :: r) a = EV t n true v ((k, q, 0, o0) :: r) a := by
  cases b : kB t n a with
  | true => rw [EV_bad ha b, EV_bad ha b]
  | false => rw [EV_fact ha b hk hq, EV_fact ha b hk hq]
/-! the posts -/
def IN (t : Nat → Int32) (g : Nat → Int64) (n : Nat) (p s tok v flt : Int32) : Prop := KY g ∧ aR t 0 255 ∧ n ≤ 1600 ∧ flt = 0 ∧ TK t n p s tok v
def SN (t : Nat → Int32) (n a : Nat) (p s tok v flt : Int32) : Prop := (0 < flt ∧ kB t n (nx t n a) = true) ∨ (flt = 0 ∧ TK t n p s tok v ∧ s.toNatClampNeg = nx t n a)
def RSTEP (t : Nat → Int32) (g : Nat → Int64) (n : Nat) (p s tok v flt p' s' tok' v' flt' : Int32) : Prop := IN t g n p s tok v flt → SN t n s.toNatClampNeg p' s' tok' v' flt'
def ROPEN (o : Int) (t : Nat → Int32) (g : Nat → Int64) (n : Nat) (p s tok v flt p' s' tok' v' flt' : Int32) : Prop := IN t g n p s tok v flt → (o = 7 → 0 < flt') ∧ (¬ o = 7 → SN t n s.toNatClampNeg p' s' tok' v' flt')
def PN (t : Nat → Int32) (n a : Nat) (due p s tok v flt : Int32) : Prop := (0 < flt ∧ (¬ tkc t n a = due ∨ kB t n (nx t n a) = true)) ∨ (tkc t n a = due ∧ flt = 0 ∧ TK t n p s tok v ∧ s.toNatClampNeg = nx t n a)
def RPASS (due : Int32) (t : Nat → Int32) (g : Nat → Int64) (n : Nat) (p s tok v flt p' s' tok' v' flt' : Int32) : Prop := IN t g n p s tok v flt → PN t n s.toNatClampNeg due p' s' tok' v' flt'
def eX (t : Nat → Int32) (n : Nat) (o : Int) (a b : Nat) : Prop := ∀ k ph o0 r, (ph = 0 ∨ ph = 1) → EV t n false o ((k, ph, 0, o0) :: r) a = EV t n true o ((k, ph, 0, o0) :: r) b
def fX (t : Nat → Int32) (n : Nat) (o : Int) (a : Nat) : Prop := ∀ k ph o0 r, (ph = 0 ∨ ph = 1) → EV t n false o ((k, ph, 0, o0) :: r) a = none
def CG (a : Nat) (c : Int32) (b : Nat) (c' : Int32) : Prop := a < b ∧ c.toNatClampNeg < c'.toNatClampNeg ∧ c'.toNatClampNeg + a ≤ c.toNatClampNeg + b
def RX (Q : Nat → Bool) (t : Nat → Int32) (n : Nat) (o : Int) (a : Nat) (c p s tok v flt c' : Int32) : Prop := (0 < flt ∧ fX t n o a) ∨ (flt = 0 ∧ TK t n p s tok v ∧ eX t n o a s.toNatClampNeg ∧ Q s.toNatClampNeg = false ∧ CG a c s.toNatClampNeg c')
def Q0 (_ : Nat) : Bool := false
def RSUM (Q : Nat → Bool) (o : Int) (t : Nat → Int32) (g : Nat → Int64) (n : Nat) (p s tok v flt c p' s' tok' v' flt' c' : Int32) : Prop := IN t g n p s tok v flt → c.toNatClampNeg ≤ s.toNatClampNeg → RX Q t n o s.toNatClampNeg c p' s' tok' v' flt' c'
def eF (t : Nat → Int32) (n : Nat) (o : Int) (a b : Nat) : Prop := ∃ q, FQ t n b q ∧ ∀ k o0 r u, isT k = true → EV t n false o ((k, 0, 1, o0) :: r) a = EV t n true u ((k, q, 0, o0) :: r) b
def fF (t : Nat → Int32) (n : Nat) (o : Int) (a : Nat) : Prop := ∀ k o0 r, isT k = true → EV t n false o ((k, 0, 1, o0) :: r) a = none
def RF (t : Nat → Int32) (n : Nat) (o : Int) (a : Nat) (c p s tok v flt c' : Int32) : Prop := (0 < flt ∧ fF t n o a) ∨ (flt = 0 ∧ TK t n p s tok v ∧ eF t n o a s.toNatClampNeg ∧ CG a c s.toNatClampNeg c')
def RFACT (o : Int) (t : Nat → Int32) (g : Nat → Int64) (n : Nat) (p s tok v flt c p' s' tok' v' flt' c' : Int32) : Prop := IN t g n p s tok v flt → c.toNatClampNeg ≤ s.toNatClampNeg → RF t n o s.toNatClampNeg c p' s' tok' v' flt' c'
def eB (t : Nat → Int32) (n : Nat) (o : Int) (a b : Nat) : Prop := ∃ q, FQ t n b q ∧ ∀ k r u, isT k = true → EV t n false o ((k, 0, 1, o) :: r) a = EV t n true u ((k, q, 0, o) :: r) b
def fB (t : Nat → Int32) (n : Nat) (o : Int) (a : Nat) : Prop := ∀ k r, isT k = true → EV t n false o ((k, 0, 1, o) :: r) a = none
def RB (Q : Nat → Bool) (t : Nat → Int32) (n : Nat) (o : Int) (a : Nat) (c p s tok v flt c' : Int32) : Prop := (0 < flt ∧ fB t n o a) ∨ (flt = 0 ∧ TK t n p s tok v ∧ eB t n o a s.toNatClampNeg ∧ Q s.toNatClampNeg = false ∧ CG a c s.toNatClampNeg c')
def RBOTH (Q : Nat → Bool) (o : Int) (t : Nat → Int32) (g : Nat → Int64) (n : Nat) (p s tok v flt c p' s' tok' v' flt' c' : Int32) : Prop := IN t g n p s tok v flt → c.toNatClampNeg ≤ s.toNatClampNeg → RB Q t n o s.toNatClampNeg c p' s' tok' v' flt' c'
/-- what is written: one more, if there is room -/
def WRT (c c' : Int32) : Prop := c.toNatClampNeg < 1600 → c'.toNatClampNeg = c.toNatClampNeg + 1
theorem TK_lt {t : Nat → Int32} {n : Nat} {p s tok v : Int32} (h : TK t n p s tok v) (k : ¬ tok = 256) : s.toNatClampNeg < n := tkc_lt h.2.2.2.1.symm k
theorem f_ne {f : Int32} (h : (0 : Int32) < f) : ¬ f = 0 := by rintro rfl; exact absurd h (by decide)
theorem SN_in {t : Nat → Int32} {g : Nat → Int64} {n a : Nat} {p s tok v flt p' s' tok' v' flt' : Int32} (i : IN t g n p s tok v flt) (h : SN t n a p' s' tok' v' flt') (k : flt' = 0) : IN t g n p' s' tok' v' flt' ∧ s'.toNatClampNeg = nx t n a := by
  rcases h with h | h
  · exact absurd k (f_ne h.1)
  · exact ⟨⟨i.1, i.2.1, i.2.2.1, h.1, h.2.1⟩, h.2.2⟩
/-- step -/
theorem l_step {t : Nat → Int32} {g : Nat → Int64} {n p s tok v flt plc p' s' tok' v' flt' plc' : Int32} (h : XTS t g n.toNatClampNeg p tok v flt plc p' s' tok' v' flt' plc') (rp : iR p 0 1600) (rs : iR s' 0 1600) (rf : iR flt' 0 6) : RSTEP t g n.toNatClampNeg p s tok v flt p' s' tok' v' flt' := by
  rintro ⟨i1, i2, i3, i4, i5⟩
  rcases h with h | ⟨-, h⟩
  · exact absurd i4 h.1
  · obtain ⟨q1, q2⟩ := XT_TK h i1 i2 (TK_WH i5 i2) rp rs
    have e : s'.toNatClampNeg = nx t n.toNatClampNeg s.toNatClampNeg := by rw [q1, i5.2.2.2.2.1]; rfl
    rcases q2 with ⟨a, b⟩ | ⟨a, b⟩
    · left
      refine ⟨?_, by rw [← e]; exact b⟩
      have r := rf.1
      apply Int32.lt_iff_toInt_lt.mpr
      have z : (0 : Int32).toInt = 0 := by decide
      by_cases c : flt'.toInt = 0
      · exact absurd (Int32.toInt_inj.mp (by omega)) a
      · omega
    · exact Or.inr ⟨a, b, e⟩
theorem bl_f {tok flt plc kind place tok' flt' plc' : Int32} (h : BL tok flt plc kind place tok' flt' plc') (f : flt = 0) (k : (0 : Int32) < kind) : (0 : Int32) < flt' := by
  rcases h with h | h
  · rw [h.2.2.1]; exact k
  · exact absurd f h.1
/-- open -/
theorem l_open {o : Int} {t : Nat → Int32} {g : Nat → Int64} {n : Nat} {p s tok v flt p' s' tok' v' flt' : Int32} (h : RSTEP t g n p s tok v flt p' s' tok' v' flt') (k : ¬ o = 7) : ROPEN o t g n p s tok v flt p' s' tok' v' flt' := fun i => ⟨fun q => absurd q k, fun _ => h i⟩
theorem l_open7 {o : Int} {t : Nat → Int32} {g : Nat → Int64} {n : Nat} {p s tok v flt p' s' tok' v' flt' : Int32} (h : flt = 0 → 0 < flt') (k : o = 7) : ROPEN o t g n p s tok v flt p' s' tok' v' flt' := fun i => ⟨fun _ => h i.2.2.2.1, fun q => absurd k q⟩
/-- pass -/
theorem l_pass {due : Int32} {t : Nat → Int32} {g : Nat → Int64} {n : Nat} {p s tok v flt p' s' tok' v' flt' : Int32} (h : RSTEP t g n p s tok v flt p' s' tok' v' flt') (e : tok = due) : RPASS due t g n p s tok v flt p' s' tok' v' flt' := by
  intro i
  rcases h i with q | q
  · exact Or.inl ⟨q.1, Or.inr q.2⟩
  · exact Or.inr ⟨by rw [← i.2.2.2.2.2.2.2.1]; exact e, q⟩
theorem l_pass0 {due : Int32} {t : Nat → Int32} {g : Nat → Int64} {n : Nat} {p s tok v flt p' s' tok' v' flt' : Int32} (h : flt = 0 → 0 < flt') (e : ¬ tok = due) : RPASS due t g n p s tok v flt p' s' tok' v' flt' := by
  intro i
  exact Or.inl ⟨h i.2.2.2.1, Or.inl (fun q => e (i.2.2.2.2.2.2.2.1.trans q))⟩
/-! a PART -/
theorem tP_of {t : Nat → Int32} {n a : Nat} (h : tkc t n a = 257 ∨ tkc t n a = 301 ∨ tkc t n a = 305 ∨ tkc t n a = 302 ∨ (315 ≤ tkc t n a ∧ tkc t n a ≤ 318)) : tP t n a = true ∧ ¬ tkc t n a = 40 ∧ ¬ tkc t n a = 323 ∧ ¬ tkc t n a = 324 ∧ ¬ tkc t n a = 256 := by
  have h : tkc t n a = 257 ∨ tkc t n a = 301 ∨ tkc t n a = 305 ∨ tkc t n a = 302 ∨ tkc t n a = 315 ∨ tkc t n a = 316 ∨ tkc t n a = 317 ∨ tkc t n a = 318 := by
    rcases h with h | h | h | h | ⟨h1, h2⟩
    · exact Or.inl h
    · exact Or.inr (Or.inl h)
    · exact Or.inr (Or.inr (Or.inl h))
    · exact Or.inr (Or.inr (Or.inr (Or.inl h)))
    · have q1 := Int32.le_iff_toInt_le.mp h1
      have q2 := Int32.le_iff_toInt_le.mp h2
      have z1 : (315 : Int32).toInt = 315 := by decide
      have z2 : (318 : Int32).toInt = 318 := by decide
      have c : (tkc t n a).toInt = 315 ∨ (tkc t n a).toInt = 316 ∨ (tkc t n a).toInt = 317 ∨ (tkc t n a).toInt = 318 := by omega
      rcases c with c | c | c | c
      · exact Or.inr (Or.inr (Or.inr (Or.inr (Or.inl (Int32.toInt_inj.mp (by rw [c]; decide))))))
      · exact Or.inr (Or.inr (Or.inr (Or.inr (Or.inr (Or.inl (Int32.toInt_inj.mp (by rw [c]; decide)))))))
      · exact Or.inr (Or.inr (Or.inr (Or.inr (Or.inr (Or.inr (Or.inl (Int32.toInt_inj.mp (by rw [c]; decide))))))))
      · exact Or.inr (Or.inr (Or.inr (Or.inr (Or.inr (Or.inr (Or.inr (Int32.toInt_inj.mp (by rw [c]; decide))))))))
  have k : ∀ c : Int32, tkc t n a = c → (c = 257 ∨ c = 301 ∨ c = 305 ∨ c = 302 ∨ c = 315 ∨ c = 316 ∨ c = 317 ∨ c = 318) → tP t n a = true ∧ ¬ tkc t n a = 40 ∧ ¬ tkc t n a = 323 ∧ ¬ tkc t n a = 324 ∧ ¬ tkc t n a = 256 := by
    intro c e hc
    refine ⟨?_, ?_⟩
    · unfold tP tq; rw [e]
      rcases hc with rfl | rfl | rfl | rfl | rfl | rfl | rfl | rfl <;> decide
    · rw [e]
      rcases hc with rfl | rfl | rfl | rfl | rfl | rfl | rfl | rfl <;> decide
  rcases h with h | h | h | h | h | h | h | h
  · exact k _ h (by decide)
  · exact k _ h (by decide)
  · exact k _ h (by decide)
  · exact k _ h (by decide)
  · exact k _ h (by decide)
  · exact k _ h (by decide)
  · exact k _ h (by decide)
  · exact k _ h (by decide)
/-- a number, or what is asked for by a word -/
theorem l_p1 {o : Int} {t : Nat → Int32} {g : Nat → Int64} {n : Nat} {p s tok v flt c c' p' s' tok' v' flt' : Int32} (hw : WRT c c') (h : RSTEP t g n p s tok v flt p' s' tok' v' flt') (e : tok = 257 ∨ tok = 301 ∨ tok = 305 ∨ tok = 302 ∨ (315 ≤ tok ∧ tok ≤ 318)) : RSUM Q0 o t g n p s tok v flt c p' s' tok' v' flt' c' := by
  intro i hc
  have et := i.2.2.2.2.2.2.2.1
  have hs := i.2.2.2.2.1
  have b := i.2.2.2.2.2.2.1
  rw [et] at e
  have tp := tP_of e
  have al := tkc_lt (t := t) (a := s.toNatClampNeg) rfl tp.2.2.2.2
  have gt := nx_gt (t := t) al
  have step : ∀ k ph o0 r, (ph = 0 ∨ ph = 1) → EV t n false o ((k, ph, 0, o0) :: r) s.toNatClampNeg = EV t n true o ((k, ph, 0, o0) :: r) (nx t n s.toNatClampNeg) := fun k ph o0 r _ => by
    rw [EV_o hs, stO_pt b tp.1 tp.2.1 tp.2.2.1 tp.2.2.2.1]
  rcases h i with q | q
  · exact Or.inl ⟨q.1, fun k ph o0 r hp => by rw [step k ph o0 r hp, EV_bad (nx_le hs) q.2]⟩
  · have w := hw (by have := i.2.2.1; omega)
    refine Or.inr ⟨q.1, q.2.1, fun k ph o0 r hp => by rw [step k ph o0 r hp, q.2.2], rfl, ?_⟩
    unfold CG
    rw [q.2.2]
    omega
/-- in brackets -/
theorem EV_br {t : Nat → Int32} {n a b : Nat} {o : Int} {j : Int32} (ha : a ≤ n) (hb : b ≤ n) (h1 : eX t n (o + 1) a b) (h2 : tO t n b = false) (b2 : kB t n b = false) (hj : j = 2 ∨ j = 4) : ∀ k ph o0 r, EV t n false (o + 1) ((j, 0, 1, o + 1) :: (k, ph, 0, o0) :: r) a = if tq t n b 41 = false then none else EV t n true o ((k, ph, 0, o0) :: r) (nx t n b) := by
  intro k ph o0 r
  have tj : isT j = false := by rcases hj with rfl | rfl <;> decide
  rw [EV_bg ha (Or.inl (fi_n tj 1)), h1 j 0 (o + 1) ((k, ph, 0, o0) :: r) (Or.inl rfl), EV_end hb b2 tj h2]
  have e1 : o + 1 - 1 = o := by omega
  rcases hj with rfl | rfl
  · rw [if_neg (by decide), if_neg (by decide), if_neg (show ¬ (2 : Int32) = 5 by decide)]
    show (if tq t n b 41 = false then none else EV t n true (o + 1 - 1) ((k, (if (2 : Int32) = 5 then 2 else ph), 0, o0) :: r) (nx t n b)) = _
    rw [if_neg (show ¬ (2 : Int32) = 5 by decide), e1]
  · rw [if_neg (by decide), if_neg (by decide), if_neg (show ¬ (4 : Int32) = 5 by decide)]
    show (if tq t n b 41 = false then none else EV t n true (o + 1 - 1) ((k, (if (4 : Int32) = 5 then 2 else ph), 0, o0) :: r) (nx t n b)) = _
    rw [if_neg (show ¬ (4 : Int32) = 5 by decide), e1]
theorem fX_br {t : Nat → Int32} {n a : Nat} {o : Int} {j : Int32} (ha : a ≤ n) (h1 : fX t n (o + 1) a) (hj : isT j = false) : ∀ k ph o0 r, EV t n false (o + 1) ((j, 0, 1, o + 1) :: (k, ph, 0, o0) :: r) a = none := by
  intro k ph o0 r
  rw [EV_bg ha (Or.inl (fi_n hj 1)), h1 j 0 (o + 1) ((k, ph, 0, o0) :: r) (Or.inl rfl)]
theorem IN_of {t : Nat → Int32} {g : Nat → Int64} {n : Nat} {p s tok v flt p' s' tok' v' flt' : Int32} (i : IN t g n p s tok v flt) (f : flt' = 0) (k : TK t n p' s' tok' v') : IN t g n p' s' tok' v' flt' := ⟨i.1, i.2.1, i.2.2.1, f, k⟩
theorem l_p2 {o o1 : Int} {t : Nat → Int32} {g : Nat → Int64} {n : Nat} {p s tok v flt c p1 s1 tok1 v1 flt1 p2 s2 tok2 v2 flt2 c' p' s' tok' v' flt' : Int32} (h1 : ROPEN o t g n p s tok v flt p1 s1 tok1 v1 flt1) (h2 : RSUM (tO t n) o1 t g n p1 s1 tok1 v1 flt1 c p2 s2 tok2 v2 flt2 c') (h3 : RPASS 41 t g n p2 s2 tok2 v2 flt2 p' s' tok' v' flt') (x1 : 0 < flt1 → 0 < flt2) (x2 : 0 < flt2 → 0 < flt') (e : tok = 40) (eo : o1 = o + 1) : RSUM Q0 o t g n p s tok v flt c p' s' tok' v' flt' c' := by
  intro i hc
  subst eo
  have hs := i.2.2.2.2.1
  have b := i.2.2.2.2.2.2.1
  have et : tkc t n s.toNatClampNeg = 40 := i.2.2.2.2.2.2.2.1.symm.trans e
  have al := tkc_lt et (by decide)
  have gt := nx_gt (t := t) al
  have nl := nx_le (t := t) hs
  have a := h1 i
  by_cases o7 : o = 7
  · exact Or.inl ⟨x2 (x1 (a.1 o7)), fun k ph o0 r _ => by rw [EV_o hs, stO_br b et, if_pos o7]⟩
  · have st : ∀ k ph o0 r, EV t n false o ((k, ph, 0, o0) :: r) s.toNatClampNeg = EV t n false (o + 1) ((2, 0, 1, o + 1) :: (k, ph, 0, o0) :: r) (nx t n s.toNatClampNeg) := fun k ph o0 r => by rw [EV_o hs, stO_br b et, if_neg o7]
    rcases a.2 o7 with q | q
    · exact Or.inl ⟨x2 (x1 q.1), fun k ph o0 r _ => by rw [st, EV_bad nl q.2]⟩
    · have i1 := IN_of i q.1 q.2.1
      rcases h2 i1 (by rw [q.2.2]; omega) with r2 | r2
      · exact Or.inl ⟨x2 r2.1, fun k ph o0 r _ => by rw [st, ← q.2.2, fX_br (by rw [q.2.2]; exact nl) r2.2 (by decide)]⟩
      · obtain ⟨f2, k2, e2, to2, g2⟩ := r2
        have fin : ∀ k ph o0 r, EV t n false o ((k, ph, 0, o0) :: r) s.toNatClampNeg = if tq t n s2.toNatClampNeg 41 = false then none else EV t n true o ((k, ph, 0, o0) :: r) (nx t n s2.toNatClampNeg) := fun k ph o0 r => by
          rw [st, ← q.2.2]
          exact EV_br (by rw [q.2.2]; exact nl) k2.1 e2 to2 k2.2.2.1 (Or.inl rfl) k ph o0 r
        rcases h3 (IN_of i f2 k2) with r3 | r3
        · refine Or.inl ⟨r3.1, fun k ph o0 r _ => ?_⟩
          rw [fin]
          rcases r3.2 with z | z
          · rw [if_pos (tq_x z)]
          · split
            · rfl
            · rw [EV_bad (nx_le k2.1) z]
        · refine Or.inr ⟨r3.2.1, r3.2.2.1, fun k ph o0 r _ => ?_, rfl, ?_⟩
          · rw [fin, if_neg (by rw [tq_t r3.1]; decide), r3.2.2.2]
          · have gg := nx_gt (t := t) (tkc_lt r3.1 (by decide))
            unfold CG at g2 ⊢
            rw [r3.2.2.2]
            rw [q.2.2] at g2
            omega
/-- min, max: no bracket -/
theorem l_p3 {o : Int} {t : Nat → Int32} {g : Nat → Int64} {n : Nat} {p s tok v flt c p1 s1 tok1 v1 flt1 c' p' s' tok' v' flt' : Int32} (h1 : RSTEP t g n p s tok v flt p1 s1 tok1 v1 flt1) (e1 : ¬ tok1 = 40) (x1 : 0 < flt1 → 0 < flt') (x2 : flt1 = 0 → 0 < flt') (e : tok = 323 ∨ tok = 324) : RSUM Q0 o t g n p s tok v flt c p' s' tok' v' flt' c' := by
  intro i hc
  have hs := i.2.2.2.2.1
  have b := i.2.2.2.2.2.2.1
  rw [i.2.2.2.2.2.2.2.1] at e
  rcases h1 i with q | q
  · exact Or.inl ⟨x1 q.1, fun k ph o0 r _ => by rw [EV_o hs, stO_mm b e, if_pos q.2]⟩
  · refine Or.inl ⟨x2 q.1, fun k ph o0 r _ => ?_⟩
    rw [EV_o hs, stO_mm b e]
    split
    · rfl
    · rw [if_pos (tq_x (by rw [← q.2.2, ← q.2.1.2.2.2.1]; exact e1))]
theorem l_p4 {o o1 : Int} {t : Nat → Int32} {g : Nat → Int64} {n : Nat} {p s tok v flt c pa sa toka va flta p1 s1 tok1 v1 flt1 p2 s2 tok2 v2 flt2 c2 p3 s3 tok3 v3 flt3 p4 s4 tok4 v4 flt4 c4 p' s' tok' v' flt' c' : Int32}
    (h0 : RSTEP t g n p s tok v flt pa sa toka va flta) (h1 : ROPEN o t g n pa sa toka va flta p1 s1 tok1 v1 flt1) (h2 : RSUM (tO t n) o1 t g n p1 s1 tok1 v1 flt1 c p2 s2 tok2 v2 flt2 c2) (h3 : RPASS 44 t g n p2 s2 tok2 v2 flt2 p3 s3 tok3 v3 flt3) (h4 : RSUM (tO t n) o1 t g n p3 s3 tok3 v3 flt3 c2 p4 s4 tok4 v4 flt4 c4) (h5 : RPASS 41 t g n p4 s4 tok4 v4 flt4 p' s' tok' v' flt') (hw : WRT c4 c')
    (x0 : 0 < flta → 0 < flt1) (x1 : 0 < flt1 → 0 < flt2) (x2 : 0 < flt2 → 0 < flt3) (x3 : 0 < flt3 → 0 < flt4) (x4 : 0 < flt4 → 0 < flt') (ea : toka = 40) (e : tok = 323 ∨ tok = 324) (eo : o1 = o + 1) : RSUM Q0 o t g n p s tok v flt c p' s' tok' v' flt' c' := by
  intro i hc
  subst eo
  have hs := i.2.2.2.2.1
  have b := i.2.2.2.2.2.2.1
  rw [i.2.2.2.2.2.2.2.1] at e
  have al : s.toNatClampNeg < n := by
    rcases e with e | e
    · exact tkc_lt e (by decide)
    · exact tkc_lt e (by decide)
  have gt := nx_gt (t := t) al
  have nl := nx_le (t := t) hs
  rcases h0 i with q | q
  · exact Or.inl ⟨x4 (x3 (x2 (x1 (x0 q.1)))), fun k ph o0 r _ => by rw [EV_o hs, stO_mm b e, if_pos q.2]⟩
  have ia := IN_of i q.1 q.2.1
  have ta : tkc t n (nx t n s.toNatClampNeg) = 40 := by rw [← q.2.2, ← q.2.1.2.2.2.1]; exact ea
  have ba : kB t n (nx t n s.toNatClampNeg) = false := by rw [← q.2.2]; exact q.2.1.2.2.1
  have al2 := tkc_lt ta (by decide)
  have gt2 := nx_gt (t := t) al2
  have nl2 := nx_le (t := t) nl
  have a := h1 ia
  by_cases o7 : o = 7
  · exact Or.inl ⟨x4 (x3 (x2 (x1 (a.1 o7)))), fun k ph o0 r _ => by rw [EV_o hs, stO_mm b e, if_neg (by rw [ba]; decide), if_neg (by rw [tq_t ta]; decide), if_pos o7]⟩
  have st : ∀ k ph o0 r, EV t n false o ((k, ph, 0, o0) :: r) s.toNatClampNeg = EV t n false (o + 1) ((3, 0, 1, o + 1) :: (k, ph, 0, o0) :: r) (nx t n (nx t n s.toNatClampNeg)) := fun k ph o0 r => by rw [EV_o hs, stO_mm b e, if_neg (by rw [ba]; decide), if_neg (by rw [tq_t ta]; decide), if_neg o7]
  have q1 := a.2 o7
  rw [q.2.2] at q1
  rcases q1 with q1 | q1
  · exact Or.inl ⟨x4 (x3 (x2 (x1 q1.1))), fun k ph o0 r _ => by rw [st, EV_bad nl2 q1.2]⟩
  have i1 := IN_of i q1.1 q1.2.1
  rcases h2 i1 (by rw [q1.2.2]; omega) with r2 | r2
  · exact Or.inl ⟨x4 (x3 (x2 r2.1)), fun k ph o0 r _ => by rw [st, ← q1.2.2, fX_br (by rw [q1.2.2]; exact nl2) r2.2 (by decide)]⟩
  obtain ⟨f2, k2, e2, to2, g2⟩ := r2
  have st2 : ∀ k ph o0 r, EV t n false o ((k, ph, 0, o0) :: r) s.toNatClampNeg = if tq t n s2.toNatClampNeg 44 = false then none else EV t n false (o + 1) ((4, 0, 0, o + 1) :: (k, ph, 0, o0) :: r) (nx t n s2.toNatClampNeg) := fun k ph o0 r => by
    rw [st, ← q1.2.2, EV_bg (by rw [q1.2.2]; exact nl2) (Or.inl (fi_n (by decide) 1)), e2 3 0 (o + 1) ((k, ph, 0, o0) :: r) (Or.inl rfl), EV_end k2.1 k2.2.2.1 (by decide) to2, if_neg (by decide), if_pos rfl]
  unfold CG at g2
  rw [q1.2.2] at g2
  rcases h3 (IN_of i f2 k2) with r3 | r3
  · refine Or.inl ⟨x4 (x3 r3.1), fun k ph o0 r _ => ?_⟩
    rw [st2]
    rcases r3.2 with z | z
    · rw [if_pos (tq_x z)]
    · split
      · rfl
      · rw [EV_bad (nx_le k2.1) z]
  have gt3 := nx_gt (t := t) (tkc_lt r3.1 (by decide))
  have st3 : ∀ k ph o0 r, EV t n false o ((k, ph, 0, o0) :: r) s.toNatClampNeg = EV t n false (o + 1) ((4, 0, 1, o + 1) :: (k, ph, 0, o0) :: r) s3.toNatClampNeg := fun k ph o0 r => by
    rw [st2, if_neg (by rw [tq_t r3.1]; decide), ← r3.2.2.2, EV_bg (bg := 1) r3.2.2.1.1 (Or.inl (fi_n (by decide) 1))]
  rcases h4 (IN_of i r3.2.1 r3.2.2.1) (by rw [r3.2.2.2]; omega) with r4 | r4
  · exact Or.inl ⟨x4 r4.1, fun k ph o0 r _ => by rw [st3, fX_br r3.2.2.1.1 r4.2 (by decide)]⟩
  obtain ⟨f4, k4, e4, to4, g4⟩ := r4
  have fin : ∀ k ph o0 r, EV t n false o ((k, ph, 0, o0) :: r) s.toNatClampNeg = if tq t n s4.toNatClampNeg 41 = false then none else EV t n true o ((k, ph, 0, o0) :: r) (nx t n s4.toNatClampNeg) := fun k ph o0 r => by
    rw [st3]
    exact EV_br r3.2.2.1.1 k4.1 e4 to4 k4.2.2.1 (Or.inr rfl) k ph o0 r
  rcases h5 (IN_of i f4 k4) with r5 | r5
  · refine Or.inl ⟨r5.1, fun k ph o0 r _ => ?_⟩
    rw [fin]
    rcases r5.2 with z | z
    · rw [if_pos (tq_x z)]
    · split
      · rfl
      · rw [EV_bad (nx_le k4.1) z]
  · refine Or.inr ⟨r5.2.1, r5.2.2.1, fun k ph o0 r _ => ?_, rfl, ?_⟩
    · rw [fin, if_neg (by rw [tq_t r5.1]; decide), r5.2.2.2]
    · have gg := nx_gt (t := t) (tkc_lt r5.1 (by decide))
      unfold CG at g4 ⊢
      rw [r3.2.2.2] at g4
      have k5 := k4.1
      have w := hw (by have := i.2.2.1; omega)
      rw [r5.2.2.2, w]
      omega
/-- none of these -/
theorem l_p5 {o : Int} {t : Nat → Int32} {g : Nat → Int64} {n : Nat} {p s tok v flt c p' s' tok' v' flt' c' : Int32} (x : flt = 0 → 0 < flt') (h1 : ¬ tok = 257) (h2 : ¬ (tok = 301 ∨ tok = 305 ∨ tok = 302 ∨ (315 ≤ tok ∧ tok ≤ 318))) (h4 : ¬ tok = 40) (h5 : ¬ tok = 323) (h6 : ¬ tok = 324) : RSUM Q0 o t g n p s tok v flt c p' s' tok' v' flt' c' := by
  intro i hc
  have hs := i.2.2.2.2.1
  have et := i.2.2.2.2.2.2.2.1
  rw [et] at h1 h2 h4 h5 h6
  refine Or.inl ⟨x i.2.2.2.1, fun k ph o0 r _ => ?_⟩
  have np : tP t n s.toNatClampNeg = false := by
    unfold tP
    rw [tq_x h1, tq_x (fun q => h2 (Or.inl q)), tq_x (d := 315) (fun q => h2 (Or.inr (Or.inr (Or.inr (by rw [q]; decide))))), tq_x (d := 316) (fun q => h2 (Or.inr (Or.inr (Or.inr (by rw [q]; decide))))), tq_x (d := 317) (fun q => h2 (Or.inr (Or.inr (Or.inr (by rw [q]; decide))))), tq_x (d := 318) (fun q => h2 (Or.inr (Or.inr (Or.inr (by rw [q]; decide))))), tq_x (fun q => h2 (Or.inr (Or.inl q))), tq_x (fun q => h2 (Or.inr (Or.inr (Or.inl q))))]
    rfl
  rw [EV_o hs, stO_no np h4 h5 h6]
