/-! STATEMENTS: the reference, what is left -/
section
variable {t : Nat → Int32} {n a b c d a1 a2 cur : Nat} {en : EN} {w1 : Int64} {f5 f6 f7 f8 f9 r5 th but sg sa se vl lx : Int32} {wd : Int64} {S : Nat → Bool}
theorem w5_b (h : (0 < f5 ∧ eW5 t n en a = none) ∨ (f5 = 0 ∧ ∃ k, k < th.toNatClampNeg ∧ r5 = nI k ∧ eW5 t n en a = some (w1, k, nx t n a1))) (e : f5 = 0 → b = nx t n a1) : W5o t n en a b w1 th r5 f5 := by
  rcases h with h | ⟨h1, h2⟩
  · exact Or.inl h
  · rw [← e h1] at h2; exact Or.inr ⟨h1, h2⟩
theorem w5_f (h : W5o t n en a b w1 th r5 f5) (x : ¬ f5 = 0) : sWish t n en a = none := by
  rw [sWish_5]
  rcases h with h | h
  · rw [h.2]; rfl
  · exact absurd h.1 x
theorem w7_z (h : W5o t n en a b w1 th r5 f5) (z : f5 = 0) (kb : kB t n b = false) (q : tq t n b 307 = true) (et : en.1 = th.toNatClampNeg) (ea : a2 = nx t n b) (hr : ROo t n th en.2.1 none9 a2 f6 c) : W7o t n en a c w1 th r5 f6 := by
  rw [ea] at hr
  exact w7_y h z kb q et hr
theorem w9_z {d : Nat} (h : W7o t n en a cur w1 th r5 f6) (z : f6 = 0) (q : tq t n cur 308 = true) (ht : iR th 0 10) (et : en.1 = th.toNatClampNeg) (eb : but = (1 : Int32) <<< (r5 &&& 31)) (ea : a2 = nx t n cur) (hr : ∀ S, BS but S → ROo t n th en.2.1 S a2 f9 d) : W9o t n en a d w1 f9 := by
  rw [ea] at hr
  exact w9_y h z q ht et eb hr
theorem w7_ok (h : W7o t n en a cur w1 th r5 f6) (m : 0 < f6 → 0 < f7) (z : f7 = 0) : f6 = 0 := by
  rcases h with h | h
  · exact absurd z (f_ne (m h.1))
  · exact h.1
theorem w7_bad (h : W7o t n en a sa.toNatClampNeg w1 th r5 f6) (l : LSG t n sg sa se vl lx wd) (x : LXQ lx f6 f7) (hb : ¬ f7 = 0) : sWish t n en a = none := by
  rcases h with h | h
  · exact h.2
  · rcases x with x | x
    · exact absurd (x.2.trans h.1) hb
    · exact absurd (l.2.2.2.2.2.2.2.mpr h.2.1) x.1
theorem w9_f (h : W9o t n en a cur w1 f9) (x : ¬ f9 = 0) : sWish t n en a = none := by
  rcases h with h | h
  · exact h.2
  · exact absurd h.1 x
theorem w9_t (h : W9o t n en a cur w1 f9) (z : f9 = 0) : sWish t n en a = some (addW en w1, cur) := by
  rcases h with h | h
  · exact absurd z (f_ne h.1)
  · exact h.2
theorem RMT_of {wi : Int32} {gT gW : Nat → Int64} {b : Nat} (h : RMN en th wi gT gW b) : RMT th gT b en.2.1 := fun j hj => h.2.2.1 j (by rw [h.1]; exact hj)
/-- which is first -/
theorem mB_F (h : tq t n a 309 = true) (ea : a1 = nx t n a) : sBody t n en a = sFirst t n en a1 := by
  rw [sB_309 (tq_e h), ea]
theorem lk_no {r f1 : Int32} (h : LKo t n th en.2.1 a r f1) (et : en.1 = th.toNatClampNeg) (x : ¬ f1 = 0) : sFirst t n en a = none := by
  rcases h with h | h
  · exact mF_n (by rw [et]; exact h.2)
  · exact absurd h.1 x
theorem lk_b {r f1 fb : Int32} (h : LKo t n th en.2.1 a r f1) (et : en.1 = th.toNatClampNeg) (ht : iR th 0 10) (z : f1 = 0) (hb : BS fb en.2.2.2.2.1) (q : (fb >>> (r &&& 31)) &&& 1 = 1) : sFirst t n en a = none := by
  have c := iR_cn ht (by decide)
  have c2 := ht.2
  rcases h with h | ⟨h1, h2, h3, k, h4, h5, h6⟩
  · exact absurd z (f_ne h.1)
  · exact mF_b (by rw [et]; exact h5) hb (by omega) h6 q
theorem lk_y {r f1 fb fb' b2 : Int32} (h : LKo t n th en.2.1 a r f1) (et : en.1 = th.toNatClampNeg) (ht : iR th 0 10) (z : f1 = 0) (hb : BS fb en.2.2.2.2.1) (q : ¬ (fb >>> (r &&& 31)) &&& 1 = 1) (e2 : b2 = (1 : Int32) <<< (r &&& 31)) (e : fb' = fb ||| b2) (ea : a2 = nx t n a) : ∃ k, sFirst t n en a = some (setF en k, a2) ∧ BS fb' (ins k en.2.2.2.2.1) := by
  have c := iR_cn ht (by decide)
  have c2 := ht.2
  rcases h with h | ⟨h1, h2, h3, k, h4, h5, h6⟩
  · exact absurd z (f_ne h.1)
  · refine ⟨k, mF_y (by rw [et]; exact h5) hb (by omega) h6 q ea, ?_⟩
    rw [e]
    rw [h6] at e2
    exact BS_ins hb (by omega) e2
/-- SUMS, the TEST -/
theorem mB_D0 {dF : Int32} (h : tq t n a 310 = true) (e : en.2.2.2.2.2.1 = decide (¬ dF = -1)) (x : ¬ dF = -1) : sBody t n en a = none := by
  rw [sB_310 (tq_e h), e, if_pos (decide_eq_true x)]
theorem mB_D {dF : Int32} (h : tq t n a 310 = true) (e : en.2.2.2.2.2.1 = decide (¬ dF = -1)) (x : dF = -1) (ea : a1 = nx t n a) : sBody t n en a = (SUMr t n a1).bind fun b => some (setD en, b) := by
  rw [sB_310 (tq_e h), e, if_neg (by rw [x]; decide), ea]
theorem mB_R0 {dF : Int32} (h : tq t n a 311 = true) (e : en.2.2.2.2.2.2.1 = decide (¬ dF = -1)) (x : ¬ dF = -1) : sBody t n en a = none := by
  rw [sB_311 (tq_e h), e, if_pos (decide_eq_true x)]
theorem mB_R {dF : Int32} (h : tq t n a 311 = true) (e : en.2.2.2.2.2.2.1 = decide (¬ dF = -1)) (x : dF = -1) (ea : a1 = nx t n a) : sBody t n en a = (SUMr t n a1).bind fun b => some (setR en, b) := by
  rw [sB_311 (tq_e h), e, if_neg (by rw [x]; decide), ea]
theorem mB_C0 {dF : Int32} (h : tq t n a 312 = true) (e : en.2.2.2.2.2.2.2.1 = decide (¬ dF = -1)) (x : ¬ dF = -1) : sBody t n en a = none := by
  rw [sB_312 (tq_e h), e, if_pos (decide_eq_true x)]
theorem mB_C {dF : Int32} (h : tq t n a 312 = true) (e : en.2.2.2.2.2.2.2.1 = decide (¬ dF = -1)) (x : dF = -1) (ea : a1 = nx t n a) : sBody t n en a = (TESTr t n a1).bind fun b => some (setC en, b) := by
  rw [sB_312 (tq_e h), e, if_neg (by rw [x]; decide), ea]
theorem mB_r {X : Option Nat} {dF' : Int32} {en' : EN} (e : sBody t n en a = X.bind fun b => some (en', b)) (h : (0 < f6 ∧ X = none) ∨ (f6 = 0 ∧ X = some c)) (k : ¬ dF' = -1) : (0 < f6 ∧ sBody t n en a = none) ∨ (f6 = 0 ∧ sBody t n en a = some (en', c) ∧ ¬ dF' = -1) := by
  rcases h with h | h
  · rw [h.2] at e; exact Or.inl ⟨h.1, e⟩
  · rw [h.2] at e; exact Or.inr ⟨h.1, e, k⟩
/-- what is borne, what calms -/
theorem mB_B {r : Int32} (h : tq t n a 313 = true) (ea : a1 = nx t n a) (q : (0 < f6 ∧ sNum t n 1 999 a1 = none) ∨ (f6 = 0 ∧ sNum t n 1 999 a1 = some (r, c))) : (0 < f6 ∧ sBody t n en a = none) ∨ (f6 = 0 ∧ sBody t n en a = some (setB en r, c)) := by
  rw [sB_313 (tq_e h), ← ea]
  rcases q with q | q
  · rw [q.2]; exact Or.inl ⟨q.1, rfl⟩
  · rw [q.2]; exact Or.inr ⟨q.1, rfl⟩
theorem mB_M {r : Int32} (h : tq t n a 314 = true) (ea : a1 = nx t n a) (q : (0 < f6 ∧ sNum t n 0 999 a1 = none) ∨ (f6 = 0 ∧ sNum t n 0 999 a1 = some (r, c))) : (0 < f6 ∧ sBody t n en a = none) ∨ (f6 = 0 ∧ sBody t n en a = some (en, c)) := by
  rw [sB_314 (tq_e h), ← ea]
  rcases q with q | q
  · rw [q.2]; exact Or.inl ⟨q.1, rfl⟩
  · rw [q.2]; exact Or.inr ⟨q.1, rfl⟩
theorem bo_f {A B : Prop} {f f' : Int32} (h : (0 < f ∧ A) ∨ (f = 0 ∧ B)) (x : ¬ f = 0) (e : f' = f) : 0 < f' ∧ A := by
  rcases h with h | h
  · rw [e]; exact h
  · exact absurd h.1 x
theorem bo_y {A B : Prop} {f : Int32} (h : (0 < f ∧ A) ∨ (f = 0 ∧ B)) (z : f = 0) : B := by
  rcases h with h | h
  · exact absurd z (f_ne h.1)
  · exact h.2
theorem bo_n {A B : Prop} {f : Int32} (h : (0 < f ∧ A) ∨ (f = 0 ∧ B)) (x : ¬ f = 0) : A := by
  rcases h with h | h
  · exact h.2
  · exact absurd h.1 x
/-- no STATEMENT begins so -/
theorem mB_no (h1 : tq t n a 300 = false) (h2 : tq t n a 304 = false) (h3 : tq t n a 309 = false) (h4 : tq t n a 310 = false) (h5 : tq t n a 311 = false) (h6 : tq t n a 312 = false) (h7 : tq t n a 313 = false) (h8 : tq t n a 314 = false) : sBody t n en a = none := by
  unfold sBody
  rw [if_neg (by rw [h1]; decide), if_neg (by rw [h2]; decide), if_neg (by rw [h3]; decide), if_neg (by rw [h4]; decide), if_neg (by rw [h5]; decide), if_neg (by rw [h6]; decide), if_neg (by rw [h7]; decide), if_neg (by rw [h8]; decide)]
end
section
variable {t : Nat → Int32} {n a a' : Nat} {en : EN} {f6 : Int32} {th wi fb dF rF cF be th' wi' fb' dF' rF' cF' be' : Int32} {gT gW gT' gW' : Nat → Int64} {b : Nat}
theorem ms_bad (p : 0 < f6) (h : kB t n a = true) : MSo t n en a f6 a' th wi fb dF rF cF be gT gW b := Or.inl ⟨p, Or.inl h⟩
theorem ms_no (p : 0 < f6) (h : sBody t n en a = none) : MSo t n en a f6 a' th wi fb dF rF cF be gT gW b := Or.inl ⟨p, Or.inr h⟩
theorem ms_T (kb : kB t n a = false) (hm : RM en th wi fb dF rF cF be gT gW b) (h : (0 < f6 ∧ sBody t n en a = none) ∨ (f6 = 0 ∧ ∃ w, sBody t n en a = some (addT en w, a') ∧ RMN (addT en w) th' wi gT' gW b)) : MSo t n en a f6 a' th' wi fb dF rF cF be gT' gW b := by
  rcases h with h | ⟨h1, w, h2, h3⟩
  · exact Or.inl ⟨h.1, Or.inr h.2⟩
  · exact Or.inr ⟨h1, kb, _, h2, h3, hm.2⟩
theorem ms_W (kb : kB t n a = false) (hm : RM en th wi fb dF rF cF be gT gW b) (h : (0 < f6 ∧ sBody t n en a = none) ∨ (f6 = 0 ∧ ∃ w, sBody t n en a = some (addW en w, a') ∧ RMN (addW en w) th wi' gT gW' b)) : MSo t n en a f6 a' th wi' fb dF rF cF be gT gW' b := by
  rcases h with h | ⟨h1, w, h2, h3⟩
  · exact Or.inl ⟨h.1, Or.inr h.2⟩
  · exact Or.inr ⟨h1, kb, _, h2, h3, hm.2⟩
theorem ms_F (kb : kB t n a = false) (hm : RM en th wi fb dF rF cF be gT gW b) (h : (0 < f6 ∧ sBody t n en a = none) ∨ (f6 = 0 ∧ ∃ k, sBody t n en a = some (setF en k, a') ∧ BS fb' (ins k en.2.2.2.2.1))) : MSo t n en a f6 a' th wi fb' dF rF cF be gT gW b := by
  rcases h with h | ⟨h1, w, h2, h3⟩
  · exact Or.inl ⟨h.1, Or.inr h.2⟩
  · exact Or.inr ⟨h1, kb, _, h2, hm.1, h3, hm.2.2⟩
theorem ms_D (kb : kB t n a = false) (hm : RM en th wi fb dF rF cF be gT gW b) (h : (0 < f6 ∧ sBody t n en a = none) ∨ (f6 = 0 ∧ sBody t n en a = some (setD en, a') ∧ ¬ dF' = -1)) : MSo t n en a f6 a' th wi fb dF' rF cF be gT gW b := by
  rcases h with h | ⟨h1, h2, h3⟩
  · exact Or.inl ⟨h.1, Or.inr h.2⟩
  · exact Or.inr ⟨h1, kb, _, h2, hm.1, hm.2.1, (decide_eq_true h3).symm, hm.2.2.2⟩
theorem ms_R (kb : kB t n a = false) (hm : RM en th wi fb dF rF cF be gT gW b) (h : (0 < f6 ∧ sBody t n en a = none) ∨ (f6 = 0 ∧ sBody t n en a = some (setR en, a') ∧ ¬ rF' = -1)) : MSo t n en a f6 a' th wi fb dF rF' cF be gT gW b := by
  rcases h with h | ⟨h1, h2, h3⟩
  · exact Or.inl ⟨h.1, Or.inr h.2⟩
  · exact Or.inr ⟨h1, kb, _, h2, hm.1, hm.2.1, hm.2.2.1, (decide_eq_true h3).symm, hm.2.2.2.2⟩
theorem ms_C (kb : kB t n a = false) (hm : RM en th wi fb dF rF cF be gT gW b) (h : (0 < f6 ∧ sBody t n en a = none) ∨ (f6 = 0 ∧ sBody t n en a = some (setC en, a') ∧ ¬ cF' = -1)) : MSo t n en a f6 a' th wi fb dF rF cF' be gT gW b := by
  rcases h with h | ⟨h1, h2, h3⟩
  · exact Or.inl ⟨h.1, Or.inr h.2⟩
  · exact Or.inr ⟨h1, kb, _, h2, hm.1, hm.2.1, hm.2.2.1, hm.2.2.2.1, (decide_eq_true h3).symm, hm.2.2.2.2.2⟩
theorem ms_B (kb : kB t n a = false) (hm : RM en th wi fb dF rF cF be gT gW b) (h : (0 < f6 ∧ sBody t n en a = none) ∨ (f6 = 0 ∧ ∃ v, sBody t n en a = some (setB en v, a') ∧ be' = v)) : MSo t n en a f6 a' th wi fb dF rF cF be' gT gW b := by
  rcases h with h | ⟨h1, v, h2, h3⟩
  · exact Or.inl ⟨h.1, Or.inr h.2⟩
  · exact Or.inr ⟨h1, kb, _, h2, hm.1, hm.2.1, hm.2.2.1, hm.2.2.2.1, hm.2.2.2.2.1, h3⟩
theorem ms_M (kb : kB t n a = false) (hm : RM en th wi fb dF rF cF be gT gW b) (h : (0 < f6 ∧ sBody t n en a = none) ∨ (f6 = 0 ∧ sBody t n en a = some (en, a'))) : MSo t n en a f6 a' th wi fb dF rF cF be gT gW b := by
  rcases h with h | ⟨h1, h2⟩
  · exact Or.inl ⟨h.1, Or.inr h.2⟩
  · exact Or.inr ⟨h1, kb, _, h2, hm⟩
end
/-! what ends a STATEMENT -/
theorem sM_n {t : Nat → Int32} {n a : Nat} {c : Int32} (h : tq t n a c = false) : sMust t n c a = none := by
  unfold sMust
  split
  · rfl
  · first | rfl | rw [if_pos h]
theorem sM_y {t : Nat → Int32} {n a : Nat} {c : Int32} (b : kB t n a = false) (h : tq t n a c = true) : sMust t n c a = some (nx t n a) := sMust_y b (tq_e h)
section
variable {t : Nat → Int32} {n a a' at9 : Nat} {ns fk' : Int32}
theorem fi_bad (p : 0 < fk') (h : kB t n a = true) : FIo t n ns a fk' a' := Or.inl ⟨p, Or.inl (sMust_bad h)⟩
theorem fi_6 (p : 0 < fk') (kb : kB t n a = false) (q : tq t n a 59 = true) (e : ns.toNatClampNeg = 80) (ea : at9 = nx t n a) (l : at9 < n) : FIo t n ns a fk' a' := Or.inl ⟨p, Or.inr ⟨e, nx t n a, sM_y kb q, by rw [← ea]; exact l⟩⟩
theorem fi_m (h : (0 < fk' ∧ sMust t n 59 a = none) ∨ (fk' = 0 ∧ sMust t n 59 a = some a')) (kb : kB t n a = false) (ea : at9 = nx t n a) (d : tq t n a 59 = false ∨ ¬ ns.toNatClampNeg = 80 ∨ n ≤ at9) : FIo t n ns a fk' a' := by
  rcases h with h | ⟨h1, h2⟩
  · exact Or.inl ⟨h.1, Or.inl h.2⟩
  · refine Or.inr ⟨h1, h2, fun e => ?_⟩
    rcases d with d | d | d
    · rw [sM_n d] at h2; exact absurd h2 (by simp)
    · exact absurd e d
    · cases q : tq t n a 59 with
      | false => rw [sM_n q] at h2; exact absurd h2 (by simp)
      | true => rw [sM_y kb q] at h2; cases h2; omega
end
theorem nx_se {t : Nat → Int32} {n p : Nat} {sg sa se vl lx : Int32} {wd : Int64} (l : LSG t n sg sa se vl lx wd) (h : p = rn cB t n se.toNatClampNeg) : p = nx t n sa.toNatClampNeg := by
  rw [h, l.2.2.2.1]; rfl
/-- what shore() answers, by what the text tells -/
def SHR (t : Nat → Int32) (n : Nat) (r : Int32) (P : EN → Prop) : Prop := (r = -1 ∧ sText t n = none) ∨ (0 ≤ r ∧ ∃ en, sText t n = some (en, r.toNatClampNeg) ∧ P en)
theorem RM_0 {th wi fb dF rF cF be : Int32} {gT gW : Nat → Int64} {b : Nat} (e1 : th.toNatClampNeg = 0) (e2 : wi.toNatClampNeg = 0) (e3 : fb = 0) (e4 : dF = -1) (e5 : rF = -1) (e6 : cF = -1) (e7 : be = 100) : RM en0 th wi fb dF rF cF be gT gW b := by
  refine ⟨⟨e1.symm, e2.symm, fun j hj => absurd hj (Nat.not_lt_zero _), fun j hj => absurd hj (Nat.not_lt_zero _)⟩, ?_, ?_, ?_, ?_, e7⟩
  · rw [e3]; exact BS_0
  · rw [e4]; decide
  · rw [e5]; decide
  · rw [e6]; decide
theorem m_h0 {t : Nat → Int32} {sz p v0 sg sa se vl lx : Int32} {w0 wd : Int64} {th wi fb dF rF cF be : Int32} {gT gW : Nat → Int64} {b : Nat} (h : AH t sz p v0 w0 sg sa se vl lx wd) (hz : iR sz 0 1600) (ha : iR sa 0 1600) (ep : p.toNatClampNeg = 0) (hm : RM en0 th wi fb dF rF cF be gT gW b) : SMo t sz.toNatClampNeg (sText t sz.toNatClampNeg) 0 0 sa.toNatClampNeg th wi fb dF rF cF be gT gW b := by
  obtain ⟨q0, -⟩ := AH_k h hz ha
  rw [ep] at q0
  refine Or.inr ⟨rfl, by decide, fun e => absurd e (by decide), en0, ?_, hm⟩
  rw [q0]; rfl
theorem SMo_ns {t : Nat → Int32} {n a : Nat} {E0 : Option (EN × Nat)} {fk ns th wi fb dF rF cF be : Int32} {gT gW : Nat → Int64} {b : Nat} (h : SMo t n E0 fk ns a th wi fb dF rF cF be gT gW b) (c : fk = 0) : ns.toNatClampNeg ≤ 80 := by
  rcases h with h | h
  · exact absurd c (f_ne h.1)
  · exact h.2.1
theorem jr_ns {y n : Int32} (h : iR n 0 81) (k : n.toNatClampNeg ≤ 80) (e : y = n + 1) : iR y 0 81 := by
  have c := iR_cn h (by decide)
  have q := i_succ e h (by decide)
  have a := i_add e h (iR_c (x := 1) (n := 1) (a := 1) (b := 1) (by decide) (by decide)) (by decide)
  have z : (1 : Int32).toInt = 1 := by decide
  have h1 := h.1
  exact ⟨by omega, by omega⟩
