/-! STATEMENTS: the class, whole -/
theorem NMS_T {en : EN} {th wi th' : Int32} {rT rW : Nat → Int32} {v : Int32} {w : Int64} (h : NMS en th wi rT rW) (k : NK v w) (e : th'.toNatClampNeg = th.toNatClampNeg + 1) : NMS (addT en w) th' wi (upd rT th.toNatClampNeg v) rW := by
  obtain ⟨h1, h2, h3, h4⟩ := h
  refine ⟨?_, h2, ?_, h4⟩
  · show en.1 + 1 = th'.toNatClampNeg
    rw [e, h1]
  · intro j hj
    have hj : j < en.1 + 1 := hj
    show NK (upd rT th.toNatClampNeg v j) (if j = en.1 then w else en.2.1 j)
    by_cases c : j = en.1
    · rw [if_pos c, c, h1, i_upeq]; exact k
    · rw [if_neg c, i_upne (by rw [← h1]; exact c)]; exact h3 j (by omega)
theorem NMS_W {en : EN} {th wi wi' : Int32} {rT rW : Nat → Int32} {v : Int32} {w : Int64} (h : NMS en th wi rT rW) (k : NK v w) (e : wi'.toNatClampNeg = wi.toNatClampNeg + 1) : NMS (addW en w) th wi' rT (upd rW wi.toNatClampNeg v) := by
  obtain ⟨h1, h2, h3, h4⟩ := h
  refine ⟨h1, ?_, h3, ?_⟩
  · show en.2.2.1 + 1 = wi'.toNatClampNeg
    rw [e, h2]
  · intro j hj
    have hj : j < en.2.2.1 + 1 := hj
    show NK (upd rW wi.toNatClampNeg v j) (if j = en.2.2.1 then w else en.2.2.2.1 j)
    by_cases c : j = en.2.2.1
    · rw [if_pos c, c, h2, i_upeq]; exact k
    · rw [if_neg c, i_upne (by rw [← h2]; exact c)]; exact h4 j (by omega)
/-- a THING's STATEMENT up to the word brief -/
def eT5 (t : Nat → Int32) (n : Nat) (en : EN) (a : Nat) : Option (Int64 × Nat) :=
  (eNew t n en a).bind fun x => (sMust t n 301 x.2).bind fun b => (sNum t n 0 99 b).bind fun y => (sMust t n 302 y.2).bind fun b => (sNum t n 1 9 b).bind fun y => if kB t n y.2 = true then none else some (x.1, y.2)
theorem sThing_5 {t : Nat → Int32} {n a : Nat} {en : EN} : sThing t n en a = (eT5 t n en a).bind fun x => some (addT en x.1, if tq t n x.2 303 = true then nx t n x.2 else x.2) := by
  unfold sThing eT5 eNew
  cases sNew t n en.1 en.2.1 en.2.2.1 en.2.2.2.1 a with
  | none => rfl
  | some x =>
    show ((sMust t n 301 x.2).bind fun b => (sNum t n 0 99 b).bind fun y => (sMust t n 302 y.2).bind fun b => (sNum t n 1 9 b).bind fun y => if kB t n y.2 = true then none else some (addT en x.1, if tq t n y.2 303 = true then nx t n y.2 else y.2)) = (((sMust t n 301 x.2).bind fun b => (sNum t n 0 99 b).bind fun y => (sMust t n 302 y.2).bind fun b => (sNum t n 1 9 b).bind fun y => if kB t n y.2 = true then none else some (x.1, y.2)).bind fun x => some (addT en x.1, if tq t n x.2 303 = true then nx t n x.2 else x.2))
    cases sMust t n 301 x.2 with
    | none => rfl
    | some b1 =>
      show ((sNum t n 0 99 b1).bind fun y => (sMust t n 302 y.2).bind fun b => (sNum t n 1 9 b).bind fun y => if kB t n y.2 = true then none else some (addT en x.1, if tq t n y.2 303 = true then nx t n y.2 else y.2)) = (((sNum t n 0 99 b1).bind fun y => (sMust t n 302 y.2).bind fun b => (sNum t n 1 9 b).bind fun y => if kB t n y.2 = true then none else some (x.1, y.2)).bind fun x => some (addT en x.1, if tq t n x.2 303 = true then nx t n x.2 else x.2))
      cases sNum t n 0 99 b1 with
      | none => rfl
      | some y1 =>
        show ((sMust t n 302 y1.2).bind fun b => (sNum t n 1 9 b).bind fun y => if kB t n y.2 = true then none else some (addT en x.1, if tq t n y.2 303 = true then nx t n y.2 else y.2)) = (((sMust t n 302 y1.2).bind fun b => (sNum t n 1 9 b).bind fun y => if kB t n y.2 = true then none else some (x.1, y.2)).bind fun x => some (addT en x.1, if tq t n x.2 303 = true then nx t n x.2 else x.2))
        cases sMust t n 302 y1.2 with
        | none => rfl
        | some b2 =>
          show ((sNum t n 1 9 b2).bind fun y => if kB t n y.2 = true then none else some (addT en x.1, if tq t n y.2 303 = true then nx t n y.2 else y.2)) = (((sNum t n 1 9 b2).bind fun y => if kB t n y.2 = true then none else some (x.1, y.2)).bind fun x => some (addT en x.1, if tq t n x.2 303 = true then nx t n x.2 else x.2))
          cases sNum t n 1 9 b2 with
          | none => rfl
          | some y2 =>
            show (if kB t n y2.2 = true then none else some (addT en x.1, if tq t n y2.2 303 = true then nx t n y2.2 else y2.2)) = ((if kB t n y2.2 = true then none else some (x.1, y2.2)).bind fun x => some (addT en x.1, if tq t n x.2 303 = true then nx t n x.2 else x.2))
            by_cases c : kB t n y2.2 = true
            · rw [if_pos c, if_pos c]; rfl
            · rw [if_neg c, if_neg c]; rfl
theorem if_bad {α : Type} {t : Nat → Int32} {n b : Nat} {x : Option α} (h : kB t n b = true) : (if kB t n b = true then none else x) = none := if_pos h
theorem l_T5 {t : Nat → Int32} {g : Nat → Int64} {n : Nat} {th wi : Int32} {rT rW : Nat → Int32} {p s tok v flt r1 p1 s1 tok1 v1 flt1 p2 s2 tok2 v2 flt2 r3 p3 s3 tok3 v3 flt3 p4 s4 tok4 v4 flt4 r5 p5 s5 tok5 v5 flt5 : Int32}
    (h1 : RNEW t g n th wi rT rW p s tok v flt r1 p1 s1 tok1 v1 flt1) (h2 : RPASS 301 t g n p1 s1 tok1 v1 flt1 p2 s2 tok2 v2 flt2) (h3 : RNUM 0 99 t g n p2 s2 tok2 v2 flt2 r3 p3 s3 tok3 v3 flt3) (h4 : RPASS 302 t g n p3 s3 tok3 v3 flt3 p4 s4 tok4 v4 flt4) (h5 : RNUM 1 9 t g n p4 s4 tok4 v4 flt4 r5 p5 s5 tok5 v5 flt5)
    (x1 : 0 < flt1 → 0 < flt2) (x2 : 0 < flt2 → 0 < flt3) (x3 : 0 < flt3 → 0 < flt4) (x4 : 0 < flt4 → 0 < flt5) : ∀ en, NMS en th wi rT rW → IN t g n p s tok v flt → (0 < flt5 ∧ eT5 t n en s.toNatClampNeg = none) ∨ (flt5 = 0 ∧ TK t n p5 s5 tok5 v5 ∧ s.toNatClampNeg < s5.toNatClampNeg ∧ ∃ w, eT5 t n en s.toNatClampNeg = some (w, s5.toNatClampNeg) ∧ NK r1 w) := by
  intro en hm i
  unfold eT5
  rcases h1 en hm i with a | ⟨a1, a2, ⟨w, a3, a4⟩, a5⟩
  · exact Or.inl ⟨x4 (x3 (x2 (x1 a.1))), bp_none a.2 (fun w b hb => by rw [sMust_bad hb]; rfl)⟩
  · have i1 := IN_of i a1 a2
    rw [a3]
    show (0 < flt5 ∧ ((sMust t n 301 s1.toNatClampNeg).bind fun b => (sNum t n 0 99 b).bind fun y => (sMust t n 302 y.2).bind fun b => (sNum t n 1 9 b).bind fun y => if kB t n y.2 = true then none else some (w, y.2)) = none) ∨ (flt5 = 0 ∧ TK t n p5 s5 tok5 v5 ∧ s.toNatClampNeg < s5.toNatClampNeg ∧ ∃ w', ((sMust t n 301 s1.toNatClampNeg).bind fun b => (sNum t n 0 99 b).bind fun y => (sMust t n 302 y.2).bind fun b => (sNum t n 1 9 b).bind fun y => if kB t n y.2 = true then none else some (w, y.2)) = some (w', s5.toNatClampNeg) ∧ NK r1 w')
    rcases PN_must (by decide) (IN_k i1).1 (h2 i1) with b | ⟨b1, b2, b3, b4⟩
    · exact Or.inl ⟨x4 (x3 (x2 b.1)), bo_none b.2 (fun b hb => by rw [sNum_bad hb]; rfl)⟩
    · have i2 := IN_of i b1 b2
      rw [b3]
      show (0 < flt5 ∧ ((sNum t n 0 99 s2.toNatClampNeg).bind fun y => (sMust t n 302 y.2).bind fun b => (sNum t n 1 9 b).bind fun y => if kB t n y.2 = true then none else some (w, y.2)) = none) ∨ (flt5 = 0 ∧ TK t n p5 s5 tok5 v5 ∧ s.toNatClampNeg < s5.toNatClampNeg ∧ ∃ w', ((sNum t n 0 99 s2.toNatClampNeg).bind fun y => (sMust t n 302 y.2).bind fun b => (sNum t n 1 9 b).bind fun y => if kB t n y.2 = true then none else some (w, y.2)) = some (w', s5.toNatClampNeg) ∧ NK r1 w')
      rcases h3 i2 with c | ⟨c1, c2, c3, c4⟩
      · exact Or.inl ⟨x4 (x3 c.1), bp_none c.2 (fun w b hb => by rw [sMust_bad hb]; rfl)⟩
      · have i3 := IN_of i c1 c2
        rw [c3]
        show (0 < flt5 ∧ ((sMust t n 302 s3.toNatClampNeg).bind fun b => (sNum t n 1 9 b).bind fun y => if kB t n y.2 = true then none else some (w, y.2)) = none) ∨ (flt5 = 0 ∧ TK t n p5 s5 tok5 v5 ∧ s.toNatClampNeg < s5.toNatClampNeg ∧ ∃ w', ((sMust t n 302 s3.toNatClampNeg).bind fun b => (sNum t n 1 9 b).bind fun y => if kB t n y.2 = true then none else some (w, y.2)) = some (w', s5.toNatClampNeg) ∧ NK r1 w')
        rcases PN_must (by decide) (IN_k i3).1 (h4 i3) with d | ⟨d1, d2, d3, d4⟩
        · exact Or.inl ⟨x4 d.1, bo_none d.2 (fun b hb => by rw [sNum_bad hb]; rfl)⟩
        · have i4 := IN_of i d1 d2
          rw [d3]
          show (0 < flt5 ∧ ((sNum t n 1 9 s4.toNatClampNeg).bind fun y => if kB t n y.2 = true then none else some (w, y.2)) = none) ∨ (flt5 = 0 ∧ TK t n p5 s5 tok5 v5 ∧ s.toNatClampNeg < s5.toNatClampNeg ∧ ∃ w', ((sNum t n 1 9 s4.toNatClampNeg).bind fun y => if kB t n y.2 = true then none else some (w, y.2)) = some (w', s5.toNatClampNeg) ∧ NK r1 w')
          rcases h5 i4 with e | ⟨e1, e2, e3, e4⟩
          · exact Or.inl ⟨e.1, bp_none e.2 (fun w b hb => if_bad hb)⟩
          · rw [e3]
            refine Or.inr ⟨e1, e2, by omega, w, ?_, a4⟩
            show (if kB t n s5.toNatClampNeg = true then none else some (w, s5.toNatClampNeg)) = some (w, s5.toNatClampNeg)
            rw [if_neg (by rw [e2.2.2.1]; decide)]
/-- a THING's STATEMENT, read: its name -/
def THo (t : Nat → Int32) (n : Nat) (en : EN) (a : Nat) (r p s tok v flt : Int32) : Prop := (0 < flt ∧ NFp t n (sThing t n en a)) ∨ (flt = 0 ∧ TK t n p s tok v ∧ a < s.toNatClampNeg ∧ ∃ w, sThing t n en a = some (addT en w, s.toNatClampNeg) ∧ NK r w)
theorem l_T6 {t : Nat → Int32} {n a : Nat} {en : EN} {r p5 s5 tok5 v5 flt5 : Int32} (h : (0 < flt5 ∧ eT5 t n en a = none) ∨ (flt5 = 0 ∧ TK t n p5 s5 tok5 v5 ∧ a < s5.toNatClampNeg ∧ ∃ w, eT5 t n en a = some (w, s5.toNatClampNeg) ∧ NK r w)) (e : ¬ tok5 = 303) : THo t n en a r p5 s5 tok5 v5 flt5 := by
  unfold THo
  rw [sThing_5]
  rcases h with h | ⟨h1, h2, h3, w, h4, h5⟩
  · rw [h.2]; exact Or.inl ⟨h.1, NFp_0⟩
  · rw [h2.2.2.2.1] at e
    refine Or.inr ⟨h1, h2, h3, w, ?_, h5⟩
    rw [h4]
    show some (addT en w, if tq t n s5.toNatClampNeg 303 = true then nx t n s5.toNatClampNeg else s5.toNatClampNeg) = _
    rw [if_neg (by rw [tq_x e]; decide)]
theorem l_T7 {t : Nat → Int32} {g : Nat → Int64} {n a : Nat} {en : EN} {r p5 s5 tok5 v5 flt5 p6 s6 tok6 v6 flt6 : Int32} (k : KY g ∧ aR t 0 255 ∧ n ≤ 1600) (h : (0 < flt5 ∧ eT5 t n en a = none) ∨ (flt5 = 0 ∧ TK t n p5 s5 tok5 v5 ∧ a < s5.toNatClampNeg ∧ ∃ w, eT5 t n en a = some (w, s5.toNatClampNeg) ∧ NK r w)) (h6 : RSTEP t g n p5 s5 tok5 v5 flt5 p6 s6 tok6 v6 flt6) (x : 0 < flt5 → 0 < flt6) (e : tok5 = 303) : THo t n en a r p6 s6 tok6 v6 flt6 := by
  unfold THo
  rw [sThing_5]
  rcases h with h | ⟨h1, h2, h3, w, h4, h5⟩
  · rw [h.2]; exact Or.inl ⟨x h.1, NFp_0⟩
  · have et : tkc t n s5.toNatClampNeg = 303 := h2.2.2.2.1.symm.trans e
    rw [h4]
    have z : ((some (w, s5.toNatClampNeg)).bind fun x => some (addT en x.1, if tq t n x.2 303 = true then nx t n x.2 else x.2)) = some (addT en w, nx t n s5.toNatClampNeg) := by
      show some (addT en w, if tq t n s5.toNatClampNeg 303 = true then nx t n s5.toNatClampNeg else s5.toNatClampNeg) = _
      rw [if_pos (tq_t et)]
    rw [z]
    rcases h6 ⟨k.1, k.2.1, k.2.2, h1, h2⟩ with q | q
    · exact Or.inl ⟨q.1, NFp_1 q.2⟩
    · have gt := nx_gt (t := t) (tkc_lt et (by decide))
      exact Or.inr ⟨q.1, q.2.1, by rw [q.2.2]; omega, w, by rw [q.2.2], h5⟩
def RTHING (t : Nat → Int32) (g : Nat → Int64) (n : Nat) (th wi : Int32) (rT rW : Nat → Int32) (p s tok v flt th' : Int32) (rT' : Nat → Int32) (p' s' tok' v' flt' : Int32) : Prop := ∀ en, NMS en th wi rT rW → IN t g n p s tok v flt → th.toNatClampNeg < 10 →
  (0 < flt' ∧ NFp t n (sThing t n en s.toNatClampNeg)) ∨ (flt' = 0 ∧ TK t n p' s' tok' v' ∧ s.toNatClampNeg < s'.toNatClampNeg ∧ ∃ w, sThing t n en s.toNatClampNeg = some (addT en w, s'.toNatClampNeg) ∧ NMS (addT en w) th' wi rT' rW)
theorem l_T8 {t : Nat → Int32} {g : Nat → Int64} {n : Nat} {th wi : Int32} {rT rW rT' : Nat → Int32} {p s tok v flt th' r p' s' tok' v' flt' : Int32} (h : ∀ en, NMS en th wi rT rW → IN t g n p s tok v flt → THo t n en s.toNatClampNeg r p' s' tok' v' flt') (c : ¬ flt' = 0 ∨ ¬ th.toNatClampNeg < 10 ∨ (th'.toNatClampNeg = th.toNatClampNeg + 1 ∧ rT' = upd rT th.toNatClampNeg r)) : RTHING t g n th wi rT rW p s tok v flt th' rT' p' s' tok' v' flt' := by
  intro en hm i ht
  rcases h en hm i with q | ⟨q1, q2, q3, w, q4, q5⟩
  · exact Or.inl q
  · rcases c with c | c | ⟨c1, c2⟩
    · exact absurd q1 c
    · exact absurd ht c
    · exact Or.inr ⟨q1, q2, q3, w, q4, by rw [c2]; exact NMS_T hm q5 c1⟩
/-! a WISH's STATEMENT -/
def NDo (t : Nat → Int32) (n : Nat) (th : Int32) (f : Nat → Int64) (c : Int32) (S : Nat → Bool) (a : Nat) (p s tok v flt : Int32) : Prop := (0 < flt ∧ NFo t n (sNeeds t n th.toNatClampNeg f c S a)) ∨ (flt = 0 ∧ TK t n p s tok v ∧ sNeeds t n th.toNatClampNeg f c S a = some s.toNatClampNeg ∧ a ≤ s.toNatClampNeg)
def RND (c bar : Int32) (t : Nat → Int32) (g : Nat → Int64) (n : Nat) (th : Int32) (rT : Nat → Int32) (p s tok v flt p' s' tok' v' flt' : Int32) : Prop := ∀ f S, NKR th.toNatClampNeg rT f → BS bar S → IN t g n p s tok v flt → NDo t n th f c S s.toNatClampNeg p' s' tok' v' flt'
theorem l_d0 {c bar : Int32} {t : Nat → Int32} {g : Nat → Int64} {n : Nat} {th : Int32} {rT : Nat → Int32} {p s tok v flt : Int32} (e : ¬ tok = c) : RND c bar t g n th rT p s tok v flt p s tok v flt := by
  intro f S hr hS i
  have k := IN_k i
  rw [k.2.1] at e
  refine Or.inr ⟨i.2.2.2.1, i.2.2.2.2, ?_, Nat.le_refl _⟩
  unfold sNeeds
  rw [if_neg (by rw [k.1]; decide), if_neg (by rw [tq_x e]; decide)]
theorem l_d1 {c bar : Int32} {t : Nat → Int32} {g : Nat → Int64} {n : Nat} {th : Int32} {rT : Nat → Int32} {p s tok v flt p1 s1 tok1 v1 flt1 p' s' tok' v' flt' : Int32} (h1 : RSTEP t g n p s tok v flt p1 s1 tok1 v1 flt1) (h2 : RROW bar t g n th rT p1 s1 tok1 v1 flt1 p' s' tok' v' flt') (x : 0 < flt1 → 0 < flt') (e : tok = c) (hc : ¬ c = 256) : RND c bar t g n th rT p s tok v flt p' s' tok' v' flt' := by
  intro f S hr hS i
  have k := IN_k i
  have et : tkc t n s.toNatClampNeg = c := k.2.1.symm.trans e
  have al := tkc_lt et hc
  have gt := nx_gt (t := t) al
  have z : sNeeds t n th.toNatClampNeg f c S s.toNatClampNeg = eRow t n th f S (nx t n s.toNatClampNeg) := by
    unfold sNeeds
    rw [if_neg (by rw [k.1]; decide), if_pos (tq_t et)]
    rfl
  unfold NDo
  rw [z]
  rcases h1 i with q | q
  · refine Or.inl ⟨x q.1, ?_⟩
    have zz : eRow t n th f S (nx t n s.toNatClampNeg) = none := by
      unfold eRow
      rw [sRow_eq (nx_le k.2.2)]
      unfold sRowK
      rw [sLook_bad q.2]
    rw [zz]; exact NFo_0
  · have i1 := IN_of i q.1 q.2.1
    rw [← q.2.2]
    rcases h2 f S hr hS i1 with u | ⟨u1, u2, u3, u4⟩
    · exact Or.inl u
    · exact Or.inr ⟨u1, u2, u3, by rw [q.2.2] at u4; omega⟩
def WIo (t : Nat → Int32) (n : Nat) (en : EN) (a : Nat) (r p s tok v flt : Int32) : Prop := (0 < flt ∧ NFp t n (sWish t n en a)) ∨ (flt = 0 ∧ TK t n p s tok v ∧ a < s.toNatClampNeg ∧ ∃ w, sWish t n en a = some (addW en w, s.toNatClampNeg) ∧ NK r w)
theorem l_W5 {t : Nat → Int32} {g : Nat → Int64} {n : Nat} {th wi : Int32} {rT rW : Nat → Int32} {p s tok v flt r1 p1 s1 tok1 v1 flt1 p2 s2 tok2 v2 flt2 r3 p3 s3 tok3 v3 flt3 p4 s4 tok4 v4 flt4 r5 p5 s5 tok5 v5 flt5 p6 s6 tok6 v6 flt6 bar p7 s7 tok7 v7 flt7 : Int32}
    (h1 : RNEW t g n th wi rT rW p s tok v flt r1 p1 s1 tok1 v1 flt1) (h2 : RPASS 305 t g n p1 s1 tok1 v1 flt1 p2 s2 tok2 v2 flt2) (h3 : RNUM 0 9 t g n p2 s2 tok2 v2 flt2 r3 p3 s3 tok3 v3 flt3) (h4 : RPASS 306 t g n p3 s3 tok3 v3 flt3 p4 s4 tok4 v4 flt4) (h5 : RASK 0 t g n th rT p4 s4 tok4 v4 flt4 r5 p5 s5 tok5 v5 flt5)
    (h6 : RND 307 0 t g n th rT p5 s5 tok5 v5 flt5 p6 s6 tok6 v6 flt6) (h7 : RND 308 bar t g n th rT p6 s6 tok6 v6 flt6 p7 s7 tok7 v7 flt7) (hb : BTO r5 bar ∨ ¬ tok6 = 308) (ht : iR th 0 10)
    (x1 : 0 < flt1 → 0 < flt2) (x2 : 0 < flt2 → 0 < flt3) (x3 : 0 < flt3 → 0 < flt4) (x4 : 0 < flt4 → 0 < flt5) (x5 : 0 < flt5 → 0 < flt6) (x6 : 0 < flt6 → 0 < flt7) : ∀ en, NMS en th wi rT rW → IN t g n p s tok v flt → WIo t n en s.toNatClampNeg r1 p7 s7 tok7 v7 flt7 := by
  intro en hm i
  have e0 : sWish t n en s.toNatClampNeg = (eNew t n en s.toNatClampNeg).bind fun x => (sMust t n 305 x.2).bind fun b => (sNum t n 0 9 b).bind fun y => (sMust t n 306 y.2).bind fun b => (sLook t n en.1 en.2.1 b).bind fun k =>
    (sNeeds t n en.1 en.2.1 307 none9 (nx t n b)).bind fun b => (sNeeds t n en.1 en.2.1 308 (ins k none9) b).bind fun b => some (addW en x.1, b) := rfl
  have nr : NKR th.toNatClampNeg rT en.2.1 := by rw [← hm.1]; exact hm.2.2.1
  have bad : 0 < flt7 → sWish t n en s.toNatClampNeg = none → WIo t n en s.toNatClampNeg r1 p7 s7 tok7 v7 flt7 := fun a b => Or.inl ⟨a, by rw [b]; exact NFp_0⟩
  rcases h1 en hm i with a | ⟨a1, a2, ⟨w, a3, a4⟩, a5⟩
  · exact bad (x6 (x5 (x4 (x3 (x2 (x1 a.1)))))) (by rw [e0]; exact bp_none a.2 (fun w b hb => by rw [sMust_bad hb]; rfl))
  have i1 := IN_of i a1 a2
  rw [a3] at e0
  have e1 : sWish t n en s.toNatClampNeg = (sMust t n 305 s1.toNatClampNeg).bind fun b => (sNum t n 0 9 b).bind fun y => (sMust t n 306 y.2).bind fun b => (sLook t n en.1 en.2.1 b).bind fun k =>
    (sNeeds t n en.1 en.2.1 307 none9 (nx t n b)).bind fun b => (sNeeds t n en.1 en.2.1 308 (ins k none9) b).bind fun b => some (addW en w, b) := e0
  rcases PN_must (by decide) (IN_k i1).1 (h2 i1) with b | ⟨b1, b2, b3, b4⟩
  · exact bad (x6 (x5 (x4 (x3 (x2 b.1))))) (by rw [e1]; exact bo_none b.2 (fun b hb => by rw [sNum_bad hb]; rfl))
  have i2 := IN_of i b1 b2
  rw [b3] at e1
  have e2 : sWish t n en s.toNatClampNeg = (sNum t n 0 9 s2.toNatClampNeg).bind fun y => (sMust t n 306 y.2).bind fun b => (sLook t n en.1 en.2.1 b).bind fun k =>
    (sNeeds t n en.1 en.2.1 307 none9 (nx t n b)).bind fun b => (sNeeds t n en.1 en.2.1 308 (ins k none9) b).bind fun b => some (addW en w, b) := e1
  rcases h3 i2 with c | ⟨c1, c2, c3, c4⟩
  · exact bad (x6 (x5 (x4 (x3 c.1)))) (by rw [e2]; exact bp_none c.2 (fun w b hb => by rw [sMust_bad hb]; rfl))
  have i3 := IN_of i c1 c2
  rw [c3] at e2
  have e3 : sWish t n en s.toNatClampNeg = (sMust t n 306 s3.toNatClampNeg).bind fun b => (sLook t n en.1 en.2.1 b).bind fun k =>
    (sNeeds t n en.1 en.2.1 307 none9 (nx t n b)).bind fun b => (sNeeds t n en.1 en.2.1 308 (ins k none9) b).bind fun b => some (addW en w, b) := e2
  rcases PN_must (by decide) (IN_k i3).1 (h4 i3) with d | ⟨d1, d2, d3, d4⟩
  · exact bad (x6 (x5 (x4 d.1))) (by rw [e3]; exact bo_none d.2 (fun b hb => by rw [sLook_bad hb]; rfl))
  have i4 := IN_of i d1 d2
  rw [d3] at e3
  have e4 : sWish t n en s.toNatClampNeg = (sLook t n en.1 en.2.1 s4.toNatClampNeg).bind fun k =>
    (sNeeds t n en.1 en.2.1 307 none9 (nx t n s4.toNatClampNeg)).bind fun b => (sNeeds t n en.1 en.2.1 308 (ins k none9) b).bind fun b => some (addW en w, b) := e3
  have lk : sLook t n en.1 en.2.1 s4.toNatClampNeg = eLook t n th en.2.1 s4.toNatClampNeg := by unfold eLook; rw [hm.1]
  rw [lk] at e4
  have cn := iR_cn ht (by decide)
  have ct := ht.2
  rcases h5 en.2.1 nr i4 with ⟨f1, f2⟩ | ⟨f1, f2, f3, f4, k, f5, f6, f7, f8⟩
  · refine bad (x6 (x5 f1)) ?_
    rw [e4]
    rcases f2 with f2 | ⟨k, k1, k2, k3⟩
    · rw [f2]; rfl
    · rw [k2]
      show ((sNeeds t n en.1 en.2.1 307 none9 (nx t n s4.toNatClampNeg)).bind fun b => (sNeeds t n en.1 en.2.1 308 (ins k none9) b).bind fun b => some (addW en w, b)) = none
      rcases k3 with k3 | k3
      · rw [b_0] at k3; exact absurd k3 (by decide)
      · rw [sNeeds_bad k3]; rfl
  have i5 := IN_of i f1 f2
  rw [f6] at e4
  have e5 : sWish t n en s.toNatClampNeg = (sNeeds t n th.toNatClampNeg en.2.1 307 none9 s5.toNatClampNeg).bind fun b => (sNeeds t n th.toNatClampNeg en.2.1 308 (ins k none9) b).bind fun b => some (addW en w, b) := by
    rw [e4, f3, ← hm.1]; rfl
  rcases h6 en.2.1 none9 nr BS_0 i5 with g1 | ⟨g1, g2, g3, g4⟩
  · exact bad (x6 g1.1) (by rw [e5]; exact bo_none g1.2 (fun b hb => by rw [sNeeds_bad hb]; rfl))
  have i6 := IN_of i g1 g2
  rw [g3] at e5
  have e6 : sWish t n en s.toNatClampNeg = (sNeeds t n th.toNatClampNeg en.2.1 308 (ins k none9) s6.toNatClampNeg).bind fun b => some (addW en w, b) := e5
  have fin : NDo t n th en.2.1 308 (ins k none9) s6.toNatClampNeg p7 s7 tok7 v7 flt7 → WIo t n en s.toNatClampNeg r1 p7 s7 tok7 v7 flt7 := by
    rintro (j1 | ⟨j1, j2, j3, j4⟩)
    · refine Or.inl ⟨j1.1, ?_⟩
      rw [e6]
      cases y : sNeeds t n th.toNatClampNeg en.2.1 308 (ins k none9) s6.toNatClampNeg with
      | none => exact NFp_0
      | some b => exact NFp_1 (j1.2 b y)
    · rw [j3] at e6
      have q3 := f3
      have gt := nx_gt (t := t) f4
      exact Or.inr ⟨j1, j2, by omega, w, e6, a4⟩
  rcases hb with hb | hb
  · exact fin (h7 en.2.1 (ins k none9) nr (BS_1 (by omega) (hb k (by omega) f7)) i6)
  · -- nothing is used up: the set is not looked at
    have q := h7 en.2.1 (fun j => bt bar j) nr (fun j _ => rfl) i6
    have hb2 := hb
    rw [g2.2.2.2.1] at hb2
    have nd : ∀ S, sNeeds t n th.toNatClampNeg en.2.1 308 S s6.toNatClampNeg = some s6.toNatClampNeg := by
      intro S
      unfold sNeeds
      rw [if_neg (by rw [g2.2.2.1]; decide), if_neg (by rw [tq_x hb2]; decide)]
    refine fin ?_
    unfold NDo at q ⊢
    rw [nd] at q ⊢
    exact q
def RWISH (t : Nat → Int32) (g : Nat → Int64) (n : Nat) (th wi : Int32) (rT rW : Nat → Int32) (p s tok v flt wi' : Int32) (rW' : Nat → Int32) (p' s' tok' v' flt' : Int32) : Prop := ∀ en, NMS en th wi rT rW → IN t g n p s tok v flt → wi.toNatClampNeg < 12 →
  (0 < flt' ∧ NFp t n (sWish t n en s.toNatClampNeg)) ∨ (flt' = 0 ∧ TK t n p' s' tok' v' ∧ s.toNatClampNeg < s'.toNatClampNeg ∧ ∃ w, sWish t n en s.toNatClampNeg = some (addW en w, s'.toNatClampNeg) ∧ NMS (addW en w) th wi' rT rW')
theorem l_W8 {t : Nat → Int32} {g : Nat → Int64} {n : Nat} {th wi : Int32} {rT rW rW' : Nat → Int32} {p s tok v flt wi' r p' s' tok' v' flt' : Int32} (h : ∀ en, NMS en th wi rT rW → IN t g n p s tok v flt → WIo t n en s.toNatClampNeg r p' s' tok' v' flt') (c : ¬ flt' = 0 ∨ ¬ wi.toNatClampNeg < 12 ∨ (wi'.toNatClampNeg = wi.toNatClampNeg + 1 ∧ rW' = upd rW wi.toNatClampNeg r)) : RWISH t g n th wi rT rW p s tok v flt wi' rW' p' s' tok' v' flt' := by
  intro en hm i ht
  rcases h en hm i with q | ⟨q1, q2, q3, w, q4, q5⟩
  · exact Or.inl q
  · rcases c with c | c | ⟨c1, c2⟩
    · exact absurd q1 c
    · exact absurd ht c
    · exact Or.inr ⟨q1, q2, q3, w, q4, by rw [c2]; exact NMS_W hm q5 c1⟩
