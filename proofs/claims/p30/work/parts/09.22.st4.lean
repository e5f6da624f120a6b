/-! the class' STATEMENT: what it tells, kind by kind -/
def RC (en : EN) (th wi fb be : Int32) (rT rW cf ct : Nat → Int32) : Prop := NMS en th wi rT rW ∧ BS fb en.2.2.2.2.1 ∧ en.2.2.2.2.2.1 = decide (cf 0 < ct 0) ∧ en.2.2.2.2.2.2.1 = decide (cf 1 < ct 1) ∧ en.2.2.2.2.2.2.2.1 = decide (cf 2 < ct 2) ∧ be = en.2.2.2.2.2.2.2.2
def bgn (k : Int32) : Bool := decide (k = 300 ∨ k = 304 ∨ (309 ≤ k ∧ k ≤ 314))
def ROTM (k th wi : Int32) (cf ct : Nat → Int32) (r : Int32) : Prop := (k = 300 → r = bI (decide (10 ≤ th))) ∧ (k = 304 → r = bI (decide (12 ≤ wi))) ∧ (k = 310 → r = bI (decide (cf 0 < ct 0))) ∧ (k = 311 → r = bI (decide (cf 1 < ct 1))) ∧ (k = 312 → r = bI (decide (cf 2 < ct 2))) ∧ (¬ k = 300 → ¬ k = 304 → ¬ k = 310 → ¬ k = 311 → ¬ k = 312 → r = 0)
section
variable {t : Nat → Int32} {n a : Nat} {en : EN}
theorem sB_300 (h : tkc t n a = 300) : sBody t n en a = if en.1 = 10 then none else sThing t n en (nx t n a) := by
  unfold sBody; rw [if_pos (tq_t h)]
theorem sB_304 (h : tkc t n a = 304) : sBody t n en a = if en.2.2.1 = 12 then none else sWish t n en (nx t n a) := by
  unfold sBody; rw [if_neg (by rw [tq_f (d := 300) h (by decide)]; decide), if_pos (tq_t h)]
theorem sB_309 (h : tkc t n a = 309) : sBody t n en a = sFirst t n en (nx t n a) := by
  unfold sBody; rw [if_neg (by rw [tq_f (d := 300) h (by decide)]; decide), if_neg (by rw [tq_f (d := 304) h (by decide)]; decide), if_pos (tq_t h)]
theorem sB_310 (h : tkc t n a = 310) : sBody t n en a = if en.2.2.2.2.2.1 = true then none else (SUMr t n (nx t n a)).bind fun b => some (setD en, b) := by
  unfold sBody; rw [if_neg (by rw [tq_f (d := 300) h (by decide)]; decide), if_neg (by rw [tq_f (d := 304) h (by decide)]; decide), if_neg (by rw [tq_f (d := 309) h (by decide)]; decide), if_pos (tq_t h)]
theorem sB_311 (h : tkc t n a = 311) : sBody t n en a = if en.2.2.2.2.2.2.1 = true then none else (SUMr t n (nx t n a)).bind fun b => some (setR en, b) := by
  unfold sBody; rw [if_neg (by rw [tq_f (d := 300) h (by decide)]; decide), if_neg (by rw [tq_f (d := 304) h (by decide)]; decide), if_neg (by rw [tq_f (d := 309) h (by decide)]; decide), if_neg (by rw [tq_f (d := 310) h (by decide)]; decide), if_pos (tq_t h)]
theorem sB_312 (h : tkc t n a = 312) : sBody t n en a = if en.2.2.2.2.2.2.2.1 = true then none else (TESTr t n (nx t n a)).bind fun b => some (setC en, b) := by
  unfold sBody; rw [if_neg (by rw [tq_f (d := 300) h (by decide)]; decide), if_neg (by rw [tq_f (d := 304) h (by decide)]; decide), if_neg (by rw [tq_f (d := 309) h (by decide)]; decide), if_neg (by rw [tq_f (d := 310) h (by decide)]; decide), if_neg (by rw [tq_f (d := 311) h (by decide)]; decide), if_pos (tq_t h)]
theorem sB_313 (h : tkc t n a = 313) : sBody t n en a = (sNum t n 1 999 (nx t n a)).bind fun y => some (setB en y.1, y.2) := by
  unfold sBody; rw [if_neg (by rw [tq_f (d := 300) h (by decide)]; decide), if_neg (by rw [tq_f (d := 304) h (by decide)]; decide), if_neg (by rw [tq_f (d := 309) h (by decide)]; decide), if_neg (by rw [tq_f (d := 310) h (by decide)]; decide), if_neg (by rw [tq_f (d := 311) h (by decide)]; decide), if_neg (by rw [tq_f (d := 312) h (by decide)]; decide), if_pos (tq_t h)]
theorem sB_314 (h : tkc t n a = 314) : sBody t n en a = (sNum t n 0 999 (nx t n a)).bind fun y => some (en, y.2) := by
  unfold sBody; rw [if_neg (by rw [tq_f (d := 300) h (by decide)]; decide), if_neg (by rw [tq_f (d := 304) h (by decide)]; decide), if_neg (by rw [tq_f (d := 309) h (by decide)]; decide), if_neg (by rw [tq_f (d := 310) h (by decide)]; decide), if_neg (by rw [tq_f (d := 311) h (by decide)]; decide), if_neg (by rw [tq_f (d := 312) h (by decide)]; decide), if_neg (by rw [tq_f (d := 313) h (by decide)]; decide), if_pos (tq_t h)]
theorem sB_no (h : bgn (tkc t n a) = false) : sBody t n en a = none := by
  have q := of_decide_eq_false h
  have e : ∀ c : Int32, (c = 300 ∨ c = 304 ∨ (309 ≤ c ∧ c ≤ 314)) → ¬ tq t n a c = true := fun c hc z => q (by rw [of_decide_eq_true z]; exact hc)
  unfold sBody
  rw [if_neg (e 300 (by decide)), if_neg (e 304 (by decide)), if_neg (e 309 (by decide)), if_neg (e 310 (by decide)), if_neg (e 311 (by decide)), if_neg (e 312 (by decide)), if_neg (e 313 (by decide)), if_neg (e 314 (by decide))]
end
def SBo (t : Nat → Int32) (n : Nat) (en : EN) (a : Nat) (th wi fb be cl : Int32) (rT rW cf ct : Nat → Int32) (p s tok v flt : Int32) : Prop := (0 < flt ∧ NFp t n (sBody t n en a)) ∨ (flt = 0 ∧ TK t n p s tok v ∧ a < s.toNatClampNeg ∧ cl.toNatClampNeg ≤ s.toNatClampNeg ∧ ∃ en', sBody t n en a = some (en', s.toNatClampNeg) ∧ RC en' th wi fb be rT rW cf ct)
def SB (t : Nat → Int32) (g : Nat → Int64) (n : Nat) (th wi fb be cl : Int32) (rT rW cf ct : Nat → Int32) (p s tok v flt th' wi' fb' be' cl' : Int32) (rT' rW' cf' ct' : Nat → Int32) (p' s' tok' v' flt' : Int32) : Prop := ∀ en, RC en th wi fb be rT rW cf ct → IN t g n p s tok v flt → cl.toNatClampNeg ≤ s.toNatClampNeg → SBo t n en s.toNatClampNeg th' wi' fb' be' cl' rT' rW' cf' ct' p' s' tok' v' flt'
section
variable {t : Nat → Int32} {g : Nat → Int64} {n : Nat} {th wi fb be cl : Int32} {rT rW cf ct : Nat → Int32} {p s tok v flt : Int32} {th' wi' fb' be' cl' : Int32} {rT' rW' cf' ct' : Nat → Int32} {p' s' tok' v' flt' : Int32} {p1 s1 tok1 v1 flt1 r : Int32}
theorem SB_0 {en : EN} {a : Nat} (h : 0 < flt') (e : sBody t n en a = none) : SBo t n en a th' wi' fb' be' cl' rT' rW' cf' ct' p' s' tok' v' flt' := Or.inl ⟨h, by rw [e]; exact NFp_0⟩
theorem ge_N {x c : Int32} {m : Nat} {hi : Int} (hx : iR x 0 hi) (hc : c.toInt = (m : Int)) : decide (c ≤ x) = true ↔ m ≤ x.toNatClampNeg := by
  have q := iR_cn hx (by decide)
  constructor
  · intro e
    have e := Int32.le_iff_toInt_le.mp (of_decide_eq_true e)
    omega
  · intro e
    exact decide_eq_true (Int32.le_iff_toInt_le.mpr (by omega))
theorem l_sT (h0 : RSTEP t g n p s tok v flt p1 s1 tok1 v1 flt1) (h1 : RTHING t g n th wi rT rW p1 s1 tok1 v1 flt1 th' rT' p' s' tok' v' flt') (x : 0 < flt1 → 0 < flt') (e : tok = 300) (ho : ROTM tok th wi cf ct r) (hr : r = 0) (ht : iR th 0 10) : SB t g n th wi fb be cl rT rW cf ct p s tok v flt th' wi fb be cl rT' rW cf ct p' s' tok' v' flt' := by
  intro en hc i hl
  have k := IN_k i
  have et : tkc t n s.toNatClampNeg = 300 := k.2.1.symm.trans e
  have gt := nx_gt (t := t) (tkc_lt et (by decide))
  have b := sB_300 (en := en) et
  have d10 : decide (10 ≤ th) = false := bI_f (ho.1 e) hr
  have t10 : th.toNatClampNeg < 10 := by
    by_cases z : 10 ≤ th.toNatClampNeg
    · rw [(ge_N (m := 10) ht (by decide)).mpr z] at d10; exact absurd d10 (by decide)
    · omega
  have ne : ¬ en.1 = 10 := by rw [hc.1.1]; omega
  rw [if_neg ne] at b
  rcases h0 i with q | q
  · refine SB_0 (x q.1) ?_
    rw [b]
    unfold sThing
    rw [sNew_bad q.2]; rfl
  · have i1 := IN_of i q.1 q.2.1
    rw [← q.2.2] at b
    rcases h1 en hc.1 i1 t10 with u | ⟨u1, u2, u3, w, u4, u5⟩
    · exact Or.inl ⟨u.1, by rw [b]; exact u.2⟩
    · rw [q.2.2] at u3
      exact Or.inr ⟨u1, u2, by omega, by omega, addT en w, by rw [b]; exact u4, u5, hc.2⟩
theorem l_sW (h0 : RSTEP t g n p s tok v flt p1 s1 tok1 v1 flt1) (h1 : RWISH t g n th wi rT rW p1 s1 tok1 v1 flt1 wi' rW' p' s' tok' v' flt') (x : 0 < flt1 → 0 < flt') (e : tok = 304) (ho : ROTM tok th wi cf ct r) (hr : r = 0) (ht : iR wi 0 12) : SB t g n th wi fb be cl rT rW cf ct p s tok v flt th wi' fb be cl rT rW' cf ct p' s' tok' v' flt' := by
  intro en hc i hl
  have k := IN_k i
  have et : tkc t n s.toNatClampNeg = 304 := k.2.1.symm.trans e
  have gt := nx_gt (t := t) (tkc_lt et (by decide))
  have b := sB_304 (en := en) et
  have d12 : decide (12 ≤ wi) = false := bI_f (ho.2.1 e) hr
  have t12 : wi.toNatClampNeg < 12 := by
    by_cases z : 12 ≤ wi.toNatClampNeg
    · rw [(ge_N (m := 12) ht (by decide)).mpr z] at d12; exact absurd d12 (by decide)
    · omega
  have ne : ¬ en.2.2.1 = 12 := by rw [hc.1.2.1]; omega
  rw [if_neg ne] at b
  rcases h0 i with q | q
  · refine SB_0 (x q.1) ?_
    rw [b]
    unfold sWish
    rw [sNew_bad q.2]; rfl
  · have i1 := IN_of i q.1 q.2.1
    rw [← q.2.2] at b
    rcases h1 en hc.1 i1 t12 with u | ⟨u1, u2, u3, w, u4, u5⟩
    · exact Or.inl ⟨u.1, by rw [b]; exact u.2⟩
    · rw [q.2.2] at u3
      exact Or.inr ⟨u1, u2, by omega, by omega, addW en w, by rw [b]; exact u4, u5, hc.2⟩
theorem l_sF {r2 b2 : Int32} (h0 : RSTEP t g n p s tok v flt p1 s1 tok1 v1 flt1) (h1 : RASK fb t g n th rT p1 s1 tok1 v1 flt1 r2 p' s' tok' v' flt') (hb : BTO r2 b2) (ef : fb' = fb ||| b2) (x : 0 < flt1 → 0 < flt') (e : tok = 309) (ht : iR th 0 10) : SB t g n th wi fb be cl rT rW cf ct p s tok v flt th wi fb' be cl rT rW cf ct p' s' tok' v' flt' := by
  intro en hc i hl
  have k := IN_k i
  have et : tkc t n s.toNatClampNeg = 309 := k.2.1.symm.trans e
  have gt := nx_gt (t := t) (tkc_lt et (by decide))
  have b := sB_309 (en := en) et
  unfold sFirst at b
  have nr : NKR th.toNatClampNeg rT en.2.1 := by rw [← hc.1.1]; exact hc.1.2.2.1
  have cn := iR_cn ht (by decide)
  have c2 := ht.2
  rcases h0 i with q | q
  · refine SB_0 (x q.1) ?_
    rw [b, sLook_bad q.2]; rfl
  · have i1 := IN_of i q.1 q.2.1
    rw [← q.2.2] at b
    have lk : sLook t n en.1 en.2.1 s1.toNatClampNeg = eLook t n th en.2.1 s1.toNatClampNeg := by unfold eLook; rw [hc.1.1]
    rw [lk] at b
    rcases h1 en.2.1 nr i1 with ⟨f1, f2⟩ | ⟨f1, f2, f3, f4, k9, f5, f6, f7, f8⟩
    · rcases f2 with f2 | ⟨k9, k1, k2, k3⟩
      · rw [f2] at b; exact SB_0 f1 b
      · rw [k2] at b
        have b : sBody t n en s.toNatClampNeg = if en.2.2.2.2.1 k9 = true then none else some ((en.1, en.2.1, en.2.2.1, en.2.2.2.1, ins k9 en.2.2.2.2.1, en.2.2.2.2.2), nx t n s1.toNatClampNeg) := b
        rw [hc.2.1 k9 (by omega)] at k3
        by_cases z : en.2.2.2.2.1 k9 = true
        · rw [if_pos z] at b; exact SB_0 f1 b
        · rw [if_neg z] at b
          rcases k3 with k3 | k3
          · exact absurd k3 z
          · exact Or.inl ⟨f1, by rw [b]; exact NFp_1 k3⟩
    · rw [f6] at b
      have b : sBody t n en s.toNatClampNeg = if en.2.2.2.2.1 k9 = true then none else some ((en.1, en.2.1, en.2.2.1, en.2.2.2.1, ins k9 en.2.2.2.2.1, en.2.2.2.2.2), nx t n s1.toNatClampNeg) := b
      rw [hc.2.1 k9 (by omega)] at f8
      rw [if_neg (by rw [f8]; decide), ← f3] at b
      have g2 := nx_gt (t := t) f4
      refine Or.inr ⟨f1, f2, by omega, by omega, _, b, hc.1, ?_, hc.2.2⟩
      rw [ef]
      exact BS_ins hc.2.1 (by omega) (hb k9 (by omega) f7)
theorem lt_N {x y : Int32} {a b c d : Int} (h : x.toNatClampNeg < y.toNatClampNeg) (hx : iR x a b) (hy : iR y c d) (k : 0 ≤ a ∧ 0 ≤ c) : decide (x < y) = true := by
  have c1 := iR_cn hx k.1
  have c2 := iR_cn hy k.2
  exact decide_eq_true (Int32.lt_iff_toInt_lt.mpr (by omega))
theorem SUMr_bad {a : Nat} (h : a ≤ n) (b : kB t n a = true) : SUMr t n a = none := EV_bad h b
theorem TESTr_bad {a : Nat} (h : a ≤ n) (b : kB t n a = true) : TESTr t n a = none := EV_bad h b
theorem l_sD (h0 : RSTEP t g n p s tok v flt p1 s1 tok1 v1 flt1) (h1 : RSUM (tO t n) 0 t g n p1 s1 tok1 v1 flt1 cl p' s' tok' v' flt' cl') (x : 0 < flt1 → 0 < flt') (e : tok = 310) (ho : ROTM tok th wi cf ct r) (hr : r = 0) (hl1 : iR cl 0 1600) (hl2 : iR cl' 0 1600) (ef : cf' = upd cf 0 cl) (ec : ct' = upd ct 0 cl') : SB t g n th wi fb be cl rT rW cf ct p s tok v flt th wi fb be cl' rT rW cf' ct' p' s' tok' v' flt' := by
  intro en hc i hl
  have k := IN_k i
  have et : tkc t n s.toNatClampNeg = 310 := k.2.1.symm.trans e
  have gt := nx_gt (t := t) (tkc_lt et (by decide))
  have b := sB_310 (en := en) et
  have d : decide (cf 0 < ct 0) = false := bI_f (ho.2.2.1 e) hr
  rw [if_neg (by rw [hc.2.2.1, d]; decide)] at b
  rcases h0 i with q | q
  · refine SB_0 (x q.1) ?_
    rw [b, SUMr_bad (nx_le k.2.2) q.2]; rfl
  · have i1 := IN_of i q.1 q.2.1
    rw [← q.2.2] at b
    rcases l_sumS h1 i1 (by rw [q.2.2]; omega) with u | ⟨u1, u2, u3, u4⟩
    · refine SB_0 u.1 ?_
      rw [b, u.2]; rfl
    · rw [u3] at b
      unfold CG at u4
      rw [q.2.2] at u4
      refine Or.inr ⟨u1, u2, by omega, by omega, setD en, b, hc.1, hc.2.1, ?_, ?_, ?_, hc.2.2.2.2.2⟩
      · show true = decide (cf' 0 < ct' 0)
        rw [ef, ec, i_upeq, i_upeq, lt_N u4.2.1 hl1 hl2 (by decide)]
      · show en.2.2.2.2.2.2.1 = decide (cf' 1 < ct' 1)
        rw [ef, ec, i_upne (by decide), i_upne (by decide)]; exact hc.2.2.2.1
      · show en.2.2.2.2.2.2.2.1 = decide (cf' 2 < ct' 2)
        rw [ef, ec, i_upne (by decide), i_upne (by decide)]; exact hc.2.2.2.2.1
theorem l_sR (h0 : RSTEP t g n p s tok v flt p1 s1 tok1 v1 flt1) (h1 : RSUM (tO t n) 0 t g n p1 s1 tok1 v1 flt1 cl p' s' tok' v' flt' cl') (x : 0 < flt1 → 0 < flt') (e : tok = 311) (ho : ROTM tok th wi cf ct r) (hr : r = 0) (hl1 : iR cl 0 1600) (hl2 : iR cl' 0 1600) (ef : cf' = upd cf 1 cl) (ec : ct' = upd ct 1 cl') : SB t g n th wi fb be cl rT rW cf ct p s tok v flt th wi fb be cl' rT rW cf' ct' p' s' tok' v' flt' := by
  intro en hc i hl
  have k := IN_k i
  have et : tkc t n s.toNatClampNeg = 311 := k.2.1.symm.trans e
  have gt := nx_gt (t := t) (tkc_lt et (by decide))
  have b := sB_311 (en := en) et
  have d : decide (cf 1 < ct 1) = false := bI_f (ho.2.2.2.1 e) hr
  rw [if_neg (by rw [hc.2.2.2.1, d]; decide)] at b
  rcases h0 i with q | q
  · refine SB_0 (x q.1) ?_
    rw [b, SUMr_bad (nx_le k.2.2) q.2]; rfl
  · have i1 := IN_of i q.1 q.2.1
    rw [← q.2.2] at b
    rcases l_sumS h1 i1 (by rw [q.2.2]; omega) with u | ⟨u1, u2, u3, u4⟩
    · refine SB_0 u.1 ?_
      rw [b, u.2]; rfl
    · rw [u3] at b
      unfold CG at u4
      rw [q.2.2] at u4
      refine Or.inr ⟨u1, u2, by omega, by omega, setR en, b, hc.1, hc.2.1, ?_, ?_, ?_, hc.2.2.2.2.2⟩
      · show en.2.2.2.2.2.1 = decide (cf' 0 < ct' 0)
        rw [ef, ec, i_upne (by decide), i_upne (by decide)]; exact hc.2.2.1
      · show true = decide (cf' 1 < ct' 1)
        rw [ef, ec, i_upeq, i_upeq, lt_N u4.2.1 hl1 hl2 (by decide)]
      · show en.2.2.2.2.2.2.2.1 = decide (cf' 2 < ct' 2)
        rw [ef, ec, i_upne (by decide), i_upne (by decide)]; exact hc.2.2.2.2.1
theorem l_sC (h0 : RSTEP t g n p s tok v flt p1 s1 tok1 v1 flt1) (h1 : RBOTH (tAO t n) 0 t g n p1 s1 tok1 v1 flt1 cl p' s' tok' v' flt' cl') (x : 0 < flt1 → 0 < flt') (e : tok = 312) (ho : ROTM tok th wi cf ct r) (hr : r = 0) (hl1 : iR cl 0 1600) (hl2 : iR cl' 0 1600) (ef : cf' = upd cf 2 cl) (ec : ct' = upd ct 2 cl') : SB t g n th wi fb be cl rT rW cf ct p s tok v flt th wi fb be cl' rT rW cf' ct' p' s' tok' v' flt' := by
  intro en hc i hl
  have k := IN_k i
  have et : tkc t n s.toNatClampNeg = 312 := k.2.1.symm.trans e
  have gt := nx_gt (t := t) (tkc_lt et (by decide))
  have b := sB_312 (en := en) et
  have d : decide (cf 2 < ct 2) = false := bI_f (ho.2.2.2.2.1 e) hr
  rw [if_neg (by rw [hc.2.2.2.2.1, d]; decide)] at b
  rcases h0 i with q | q
  · refine SB_0 (x q.1) ?_
    rw [b, TESTr_bad (nx_le k.2.2) q.2]; rfl
  · have i1 := IN_of i q.1 q.2.1
    rw [← q.2.2] at b
    rcases l_test h1 i1 (by rw [q.2.2]; omega) with u | ⟨u1, u2, u3, u4⟩
    · refine SB_0 u.1 ?_
      rw [b, u.2]; rfl
    · rw [u3] at b
      unfold CG at u4
      rw [q.2.2] at u4
      refine Or.inr ⟨u1, u2, by omega, by omega, setC en, b, hc.1, hc.2.1, ?_, ?_, ?_, hc.2.2.2.2.2⟩
      · show en.2.2.2.2.2.1 = decide (cf' 0 < ct' 0)
        rw [ef, ec, i_upne (by decide), i_upne (by decide)]; exact hc.2.2.1
      · show en.2.2.2.2.2.2.1 = decide (cf' 1 < ct' 1)
        rw [ef, ec, i_upne (by decide), i_upne (by decide)]; exact hc.2.2.2.1
      · show true = decide (cf' 2 < ct' 2)
        rw [ef, ec, i_upeq, i_upeq, lt_N u4.2.1 hl1 hl2 (by decide)]
theorem l_sB (h0 : RSTEP t g n p s tok v flt p1 s1 tok1 v1 flt1) (h1 : RNUM 1 999 t g n p1 s1 tok1 v1 flt1 be' p' s' tok' v' flt') (x : 0 < flt1 → 0 < flt') (e : tok = 313) : SB t g n th wi fb be cl rT rW cf ct p s tok v flt th wi fb be' cl rT rW cf ct p' s' tok' v' flt' := by
  intro en hc i hl
  have k := IN_k i
  have et : tkc t n s.toNatClampNeg = 313 := k.2.1.symm.trans e
  have gt := nx_gt (t := t) (tkc_lt et (by decide))
  have b := sB_313 (en := en) et
  rcases h0 i with q | q
  · refine SB_0 (x q.1) ?_
    rw [b, sNum_bad q.2]; rfl
  · have i1 := IN_of i q.1 q.2.1
    rw [← q.2.2] at b
    rcases h1 i1 with u | ⟨u1, u2, u3, u4⟩
    · refine Or.inl ⟨u.1, ?_⟩
      rw [b]
      cases z : sNum t n 1 999 s1.toNatClampNeg with
      | none => exact NFp_0
      | some y => exact NFp_1 (u.2 y.1 y.2 z)
    · rw [u3] at b
      rw [q.2.2] at u4
      exact Or.inr ⟨u1, u2, by omega, by omega, setB en be', b, hc.1, hc.2.1, hc.2.2.1, hc.2.2.2.1, hc.2.2.2.2.1, rfl⟩
theorem l_sM {r2 : Int32} (h0 : RSTEP t g n p s tok v flt p1 s1 tok1 v1 flt1) (h1 : RNUM 0 999 t g n p1 s1 tok1 v1 flt1 r2 p' s' tok' v' flt') (x : 0 < flt1 → 0 < flt') (e : tok = 314) : SB t g n th wi fb be cl rT rW cf ct p s tok v flt th wi fb be cl rT rW cf ct p' s' tok' v' flt' := by
  intro en hc i hl
  have k := IN_k i
  have et : tkc t n s.toNatClampNeg = 314 := k.2.1.symm.trans e
  have gt := nx_gt (t := t) (tkc_lt et (by decide))
  have b := sB_314 (en := en) et
  rcases h0 i with q | q
  · refine SB_0 (x q.1) ?_
    rw [b, sNum_bad q.2]; rfl
  · have i1 := IN_of i q.1 q.2.1
    rw [← q.2.2] at b
    rcases h1 i1 with u | ⟨u1, u2, u3, u4⟩
    · refine Or.inl ⟨u.1, ?_⟩
      rw [b]
      cases z : sNum t n 0 999 s1.toNatClampNeg with
      | none => exact NFp_0
      | some y => exact NFp_1 (u.2 y.1 y.2 z)
    · rw [u3] at b
      rw [q.2.2] at u4
      exact Or.inr ⟨u1, u2, by omega, by omega, en, b, hc⟩
end
/-- a STATEMENT, whole -/
def STo (t : Nat → Int32) (n : Nat) (en : EN) (ns a : Nat) (th wi fb be st cl : Int32) (rT rW cf ct : Nat → Int32) (p s tok v flt : Int32) : Prop := (0 < flt ∧ NFp t n (sStmt t n en ns a)) ∨ (flt = 0 ∧ TK t n p s tok v ∧ a < s.toNatClampNeg ∧ st.toNatClampNeg = ns + 1 ∧ ns < 80 ∧ cl.toNatClampNeg ≤ s.toNatClampNeg ∧ ∃ en', sStmt t n en ns a = some (en', s.toNatClampNeg) ∧ RC en' th wi fb be rT rW cf ct)
def RSTMT (t : Nat → Int32) (g : Nat → Int64) (n : Nat) (th wi fb be st cl : Int32) (rT rW cf ct : Nat → Int32) (p s tok v flt th' wi' fb' be' st' cl' : Int32) (rT' rW' cf' ct' : Nat → Int32) (p' s' tok' v' flt' : Int32) : Prop := ∀ en, RC en th wi fb be rT rW cf ct → IN t g n p s tok v flt → cl.toNatClampNeg ≤ s.toNatClampNeg → st.toNatClampNeg ≤ 80 → STo t n en st.toNatClampNeg s.toNatClampNeg th' wi' fb' be' st' cl' rT' rW' cf' ct' p' s' tok' v' flt'
section
variable {t : Nat → Int32} {g : Nat → Int64} {n : Nat} {th wi fb be st cl : Int32} {rT rW cf ct : Nat → Int32} {p s tok v flt : Int32} {th' wi' fb' be' st' cl' : Int32} {rT' rW' cf' ct' : Nat → Int32} {p' s' tok' v' flt' : Int32} {p1 s1 tok1 v1 flt1 r : Int32}
theorem ST_0 {en : EN} {ns a : Nat} (h : 0 < flt') (e : sStmt t n en ns a = none) : STo t n en ns a th' wi' fb' be' st' cl' rT' rW' cf' ct' p' s' tok' v' flt' := Or.inl ⟨h, by rw [e]; exact NFp_0⟩
theorem l_s1 (x : flt = 0 → 0 < flt') (e : bgn tok = false) : RSTMT t g n th wi fb be st cl rT rW cf ct p s tok v flt th' wi' fb' be' st' cl' rT' rW' cf' ct' p' s' tok' v' flt' := by
  intro en hc i hl hs
  have k := IN_k i
  rw [k.2.1] at e
  refine ST_0 (x i.2.2.2.1) ?_
  unfold sStmt
  rw [sB_no e]
  split
  · rfl
  · split <;> rfl
theorem l_s2 (x : flt = 0 → 0 < flt') (hst : iR st 0 1000000) (e : 80 ≤ st) : RSTMT t g n th wi fb be st cl rT rW cf ct p s tok v flt th' wi' fb' be' st' cl' rT' rW' cf' ct' p' s' tok' v' flt' := by
  intro en hc i hl hs
  refine ST_0 (x i.2.2.2.1) ?_
  have z := (ge_N (m := 80) hst (by decide)).mp (decide_eq_true e)
  unfold sStmt
  split
  · rfl
  · rw [if_pos (by omega)]
theorem l_s3 (x : flt = 0 → 0 < flt') (ho : ROTM tok th wi cf ct r) (hr : ¬ r = 0) (ht : iR th 0 10) (hw : iR wi 0 12) : RSTMT t g n th wi fb be st cl rT rW cf ct p s tok v flt th' wi' fb' be' st' cl' rT' rW' cf' ct' p' s' tok' v' flt' := by
  intro en hc i hl hs
  have k := IN_k i
  refine ST_0 (x i.2.2.2.1) ?_
  have key : sBody t n en s.toNatClampNeg = none := by
    by_cases c0 : tok = 300
    · have d := bI_t (ho.1 c0) hr
      have z := (ge_N (m := 10) ht (by decide)).mp d
      have c := iR_cn ht (by decide)
      have c2 := ht.2
      rw [sB_300 (k.2.1.symm.trans c0), if_pos (by rw [hc.1.1]; omega)]
    · by_cases c1 : tok = 304
      · have d := bI_t (ho.2.1 c1) hr
        have z := (ge_N (m := 12) hw (by decide)).mp d
        have c := iR_cn hw (by decide)
        have c2 := hw.2
        rw [sB_304 (k.2.1.symm.trans c1), if_pos (by rw [hc.1.2.1]; omega)]
      · by_cases c2 : tok = 310
        · have d := bI_t (ho.2.2.1 c2) hr
          rw [sB_310 (k.2.1.symm.trans c2), if_pos (hc.2.2.1.trans d)]
        · by_cases c3 : tok = 311
          · have d := bI_t (ho.2.2.2.1 c3) hr
            rw [sB_311 (k.2.1.symm.trans c3), if_pos (hc.2.2.2.1.trans d)]
          · by_cases c4 : tok = 312
            · have d := bI_t (ho.2.2.2.2.1 c4) hr
              rw [sB_312 (k.2.1.symm.trans c4), if_pos (hc.2.2.2.2.1.trans d)]
            · exact absurd (ho.2.2.2.2.2 c0 c1 c2 c3 c4) hr
  unfold sStmt
  rw [key]
  split
  · rfl
  · split <;> rfl
theorem l_st (h1 : SB t g n th wi fb be cl rT rW cf ct p s tok v flt th' wi' fb' be' cl' rT' rW' cf' ct' p1 s1 tok1 v1 flt1) (h2 : RPASS 59 t g n p1 s1 tok1 v1 flt1 p' s' tok' v' flt') (x : 0 < flt1 → 0 < flt') (es : st'.toNatClampNeg = st.toNatClampNeg + 1) (hs8 : st.toNatClampNeg < 80) : RSTMT t g n th wi fb be st cl rT rW cf ct p s tok v flt th' wi' fb' be' st' cl' rT' rW' cf' ct' p' s' tok' v' flt' := by
  intro en hc i hl hs
  have k := IN_k i
  have e0 : sStmt t n en st.toNatClampNeg s.toNatClampNeg = (sBody t n en s.toNatClampNeg).bind fun x => (sMust t n 59 x.2).bind fun b => some (x.1, b) := by
    unfold sStmt
    rw [if_neg (by rw [k.1]; decide), if_neg (by omega)]
  rcases h1 en hc i hl with u | ⟨u1, u2, u3, u4, en', u5, u6⟩
  · refine ST_0 (x u.1) ?_
    rw [e0]
    exact bp_none u.2 (fun w b hb => by rw [sMust_bad hb]; rfl)
  · have i1 := IN_of i u1 u2
    rw [u5] at e0
    have e1 : sStmt t n en st.toNatClampNeg s.toNatClampNeg = (sMust t n 59 s1.toNatClampNeg).bind fun b => some (en', b) := e0
    rcases PN_must (by decide) (IN_k i1).1 (h2 i1) with b | ⟨b1, b2, b3, b4⟩
    · refine Or.inl ⟨b.1, ?_⟩
      rw [e1]
      cases z : sMust t n 59 s1.toNatClampNeg with
      | none => exact NFp_0
      | some y => exact NFp_1 (b.2 y z)
    · rw [b3] at e1
      exact Or.inr ⟨b1, b2, by omega, es, hs8, by omega, en', e1, u6⟩
end
/-! the class' shore: STATEMENT by STATEMENT -/
/-- at the loop's head: e0 what comes of the whole text -/
def SHo (t : Nat → Int32) (g : Nat → Int64) (n : Nat) (E0 : Option (EN × Nat)) (th wi fb be st cl j : Int32) (rT rW cf ct : Nat → Int32) (p s tok v flt : Int32) : Prop := (0 < flt ∧ E0 = none) ∨ (IN t g n p s tok v flt ∧ cl.toNatClampNeg ≤ s.toNatClampNeg ∧ st.toNatClampNeg ≤ 80 ∧ j.toNatClampNeg ≤ st.toNatClampNeg ∧ ∃ en, E0 = sSh t n en st.toNatClampNeg s.toNatClampNeg ∧ RC en th wi fb be rT rW cf ct)
theorem sh_bad {t : Nat → Int32} {n ns a : Nat} {en : EN} (h : ns ≤ 80) (b : kB t n a = true) : sSh t n en ns a = none := by rw [sSh_eq h, if_pos b]
section
variable {t : Nat → Int32} {g : Nat → Int64} {n : Nat} {E0 : Option (EN × Nat)} {th wi fb be st cl j : Int32} {rT rW cf ct : Nat → Int32} {p s tok v flt : Int32} {th' wi' fb' be' st' cl' j' : Int32} {rT' rW' cf' ct' : Nat → Int32} {p' s' tok' v' flt' : Int32}
theorem l_h1 (h : SHo t g n E0 th wi fb be st cl j rT rW cf ct p s tok v flt) (h1 : RSTMT t g n th wi fb be st cl rT rW cf ct p s tok v flt th' wi' fb' be' st' cl' rT' rW' cf' ct' p' s' tok' v' flt') (c : flt = 0) (d : ¬ tok = 256) (ej : j'.toNatClampNeg = j.toNatClampNeg + 1) : SHo t g n E0 th' wi' fb' be' st' cl' j' rT' rW' cf' ct' p' s' tok' v' flt' := by
  rcases h with h | ⟨i, h2, h3, h4, en, h5, h6⟩
  · exact absurd c (f_ne h.1)
  · have k := IN_k i
    have al : s.toNatClampNeg < n := by
      by_cases z : n ≤ s.toNatClampNeg
      · rw [k.2.1, tkc_end z] at d; exact absurd rfl d
      · omega
    rw [sSh_eq h3, if_neg (by rw [k.1]; decide), if_neg (by omega)] at h5
    rcases h1 en h6 i h2 h3 with u | ⟨u1, u2, u3, u4, u8, u5, en', u6, u7⟩
    · refine Or.inl ⟨u.1, ?_⟩
      rw [h5]
      cases z : sStmt t n en st.toNatClampNeg s.toNatClampNeg with
      | none => rfl
      | some y =>
        have hb := u.2 y.1 y.2 z
        show sSh t n y.1 (st.toNatClampNeg + 1) y.2 = none
        by_cases w : st.toNatClampNeg + 1 ≤ 80
        · exact sh_bad w hb
        · exfalso
          unfold sStmt at z
          rw [if_neg (by rw [k.1]; decide), if_pos (by omega)] at z
          exact absurd z (by simp)
    · rw [u6] at h5
      refine Or.inr ⟨IN_of i u1 u2, u5, by omega, by omega, en', ?_, u7⟩
      rw [u4]
      exact h5
/-- the loop is over: what the text tells, or nothing -/
theorem l_h2 (h : SHo t g n E0 th wi fb be st cl j rT rW cf ct p s tok v flt) (c : ¬ flt = 0 ∨ tok = 256 ∨ 81 ≤ j.toNatClampNeg) : (0 < flt ∧ E0 = none) ∨ (flt = 0 ∧ ∃ en, E0 = some (en, st.toNatClampNeg) ∧ RC en th wi fb be rT rW cf ct) := by
  rcases h with h | ⟨i, h2, h3, h4, en, h5, h6⟩
  · exact Or.inl h
  · have k := IN_k i
    rcases c with c | c | c
    · exact absurd i.2.2.2.1 c
    · have al : n ≤ s.toNatClampNeg := by
        by_cases z : n ≤ s.toNatClampNeg
        · exact z
        · exfalso
          have e := k.2.1.symm.trans c
          rcases kS_c t n s.toNatClampNeg with ⟨a, q⟩ | ⟨a, cl, q⟩ | ⟨a, cl, cd, q⟩ | ⟨a, cl, cd, q⟩
          · exact z a
          · rw [tkc_L a cl] at e
            have w := tw_ge (kW t n s.toNatClampNeg)
            rw [e] at w; exact absurd w (by decide)
          · rw [tkc_D a cl cd] at e; exact absurd e (by decide)
          · rw [tkc_S a cl cd] at e
            have w := i.2.1 s.toNatClampNeg
            unfold iR at w
            rw [e] at w; exact absurd w (by decide)
      rw [sSh_eq h3, if_neg (by rw [k.1]; decide), if_pos al] at h5
      exact Or.inr ⟨i.2.2.2.1, en, h5, h6⟩
    · omega
end
theorem bgn_i {k : Int32} (h : bgn k = true) : k.toInt = 300 ∨ k.toInt = 304 ∨ (309 ≤ k.toInt ∧ k.toInt ≤ 314) := by
  rcases of_decide_eq_true h with h | h | ⟨h1, h2⟩
  · left; rw [h]; decide
  · right; left; rw [h]; decide
  · right; right
    have a := Int32.le_iff_toInt_le.mp h1
    have b := Int32.le_iff_toInt_le.mp h2
    have z1 : (309 : Int32).toInt = 309 := by decide
    have z2 : (314 : Int32).toInt = 314 := by decide
    omega
