/-! the reading of a SUM or a TEST as a machine of frames: a frame is its kind (0 a SUM, 1 a TEST, 2 in brackets, 3, 4 in min or max, 5 a TEST in brackets), its phase, whether a FACT begins, how many are open at its begin. What comes of the text from a place on: where it ends -/
abbrev Fr := Int32 × Int32 × Int32 × Int
def isT (k : Int32) : Bool := decide (k = 1 ∨ k = 5)
def fi (k bg : Int32) : Bool := isT k && decide (¬ bg = 0)
def tP (t : Nat → Int32) (n a : Nat) : Bool := tq t n a 257 || tq t n a 301 || tq t n a 315 || tq t n a 316 || tq t n a 317 || tq t n a 318 || tq t n a 305 || tq t n a 302
def tO (t : Nat → Int32) (n a : Nat) : Bool := tq t n a 43 || tq t n a 45 || tq t n a 42 || tq t n a 47 || tq t n a 37
def tM (t : Nat → Int32) (n a : Nat) : Bool := tq t n a 42 || tq t n a 47 || tq t n a 37
def tC (t : Nat → Int32) (n a : Nat) : Bool := tq t n a 60 || tq t n a 62 || tq t n a 61
abbrev KT := Bool → Int → List Fr → Nat → Option Nat
def stO (t : Nat → Int32) (n : Nat) (op : Int) (k ph bg : Int32) (o0 : Int) (r : List Fr) (a : Nat) (K : KT) : Option Nat :=
  if kB t n a = true then none
  else if (fi k bg && tq t n a 321) = true then (if op = 7 then none else K false (op + 1) ((k, ph, bg, o0) :: r) (nx t n a))
  else if (fi k bg && tq t n a 91) = true then (if op = 7 then none else K false (op + 1) ((5, 0, 1, op + 1) :: (k, ph, 0, o0) :: r) (nx t n a))
  else if (fi k bg && tq t n a 322) = true then K true op ((k, 2, 0, o0) :: r) (nx t n a)
  else if tq t n a 40 = true then (if op = 7 then none else K false (op + 1) ((2, 0, 1, op + 1) :: (k, ph, 0, o0) :: r) (nx t n a))
  else if (tq t n a 323 || tq t n a 324) = true then (if kB t n (nx t n a) = true then none else if tq t n (nx t n a) 40 = false then none else if op = 7 then none else K false (op + 1) ((3, 0, 1, op + 1) :: (k, ph, 0, o0) :: r) (nx t n (nx t n a)))
  else if tP t n a = true then K true op ((k, ph, 0, o0) :: r) (nx t n a)
  else none
def stC (k : Int32) (o0 : Int) (r : List Fr) (b : Nat) (K : KT) : Option Nat :=
  match r with
  | [] => none
  | (k2, ph2, bg2, o2) :: r2 => K true (o0 - 1) ((k2, (if k = 5 then 2 else ph2), bg2, o2) :: r2) b
def stB (t : Nat → Int32) (n : Nat) (op : Int) (k ph bg : Int32) (o0 : Int) (r : List Fr) (a : Nat) (K : KT) : Option Nat :=
  if kB t n a = true then none
  else if (decide (ph < 2) && tO t n a) = true then K false op ((k, ph, bg, o0) :: r) (nx t n a)
  else if (isT k && decide (ph = 0) && tC t n a) = true then K false op ((k, 1, bg, o0) :: r) (nx t n a)
  else if (isT k && (tq t n a 320 || tq t n a 319)) = true then (if ph = 0 then none else K false o0 ((k, 0, 1, o0) :: r) (nx t n a))
  else if (isT k && decide (ph = 0)) = true then none
  else if k < 2 then some a
  else if k = 3 then (if tq t n a 44 = false then none else K false o0 ((4, ph, bg, o0) :: r) (nx t n a))
  else if tq t n a (if k = 5 then 93 else 41) = false then none
  else stC k o0 r (nx t n a) K
def stK (t : Nat → Int32) (n : Nat) (m : Bool) (op : Int) (st : List Fr) (a : Nat) (K : KT) : Option Nat :=
  match st with
  | [] => none
  | (k, ph, bg, o0) :: r => if m = true then stB t n op k ph bg o0 r a K else stO t n op k ph bg o0 r a K
def evF (t : Nat → Int32) (n : Nat) : Nat → KT
  | 0 => fun _ _ _ _ => none
  | f + 1 => fun m op st a => stK t n m op st a (evF t n f)
def EV (t : Nat → Int32) (n : Nat) (m : Bool) (op : Int) (st : List Fr) (a : Nat) : Option Nat := evF t n (n + 1 - a) m op st a
theorem and_r {a b : Bool} (h : (a && b) = true) : b = true := by cases a <;> cases b <;> first | rfl | exact h
theorem or_e {a b : Bool} (h : (a || b) = true) : a = true ∨ b = true := by cases a <;> cases b <;> first | exact Or.inl rfl | exact Or.inr rfl | exact absurd h (by decide)
theorem tP_lt {t : Nat → Int32} {n a : Nat} (h : tP t n a = true) : a < n := by
  unfold tP at h
  rcases or_e h with h | h
  · rcases or_e h with h | h
    · rcases or_e h with h | h
      · rcases or_e h with h | h
        · rcases or_e h with h | h
          · rcases or_e h with h | h
            · rcases or_e h with h | h
              · exact tq_lt h (by decide)
              · exact tq_lt h (by decide)
            · exact tq_lt h (by decide)
          · exact tq_lt h (by decide)
        · exact tq_lt h (by decide)
      · exact tq_lt h (by decide)
    · exact tq_lt h (by decide)
  · exact tq_lt h (by decide)
theorem tO_lt {t : Nat → Int32} {n a : Nat} (h : tO t n a = true) : a < n := by
  unfold tO at h
  rcases or_e h with h | h
  · rcases or_e h with h | h
    · rcases or_e h with h | h
      · rcases or_e h with h | h
        · exact tq_lt h (by decide)
        · exact tq_lt h (by decide)
      · exact tq_lt h (by decide)
    · exact tq_lt h (by decide)
  · exact tq_lt h (by decide)
theorem tC_lt {t : Nat → Int32} {n a : Nat} (h : tC t n a = true) : a < n := by
  unfold tC at h
  rcases or_e h with h | h
  · rcases or_e h with h | h
    · exact tq_lt h (by decide)
    · exact tq_lt h (by decide)
  · exact tq_lt h (by decide)
/-- a step looks at later places alone -/
theorem stK_cong {t : Nat → Int32} {n a : Nat} {m : Bool} {op : Int} {st : List Fr} {K1 K2 : KT} (h : ∀ m op st b, a < b → b ≤ n → K1 m op st b = K2 m op st b) : stK t n m op st a K1 = stK t n m op st a K2 := by
  have h1 : ∀ m op st, a < n → K1 m op st (nx t n a) = K2 m op st (nx t n a) := fun m op st q => h m op st _ (nx_gt q) (nx_le (by omega))
  rcases st with _ | ⟨⟨k, ph, bg, o0⟩, r⟩
  · rfl
  · show (if m = true then stB t n op k ph bg o0 r a K1 else stO t n op k ph bg o0 r a K1) = (if m = true then stB t n op k ph bg o0 r a K2 else stO t n op k ph bg o0 r a K2)
    split
    · unfold stB
      split
      · rfl
      · split
        · next c => exact h1 _ _ _ (tO_lt (and_r c))
        · split
          · next c => exact h1 _ _ _ (tC_lt (and_r c))
          · split
            · next c =>
              split
              · rfl
              · refine h1 _ _ _ ?_
                rcases or_e (and_r c) with q | q
                · exact tq_lt q (by decide)
                · exact tq_lt q (by decide)
            · split
              · rfl
              · split
                · rfl
                · split
                  · split
                    · rfl
                    · next c =>
                      refine h1 _ _ _ (tq_lt (t := t) (c := 44) ?_ (by decide))
                      cases z : tq t n a 44 with
                      | true => rfl
                      | false => exact absurd z c
                  · by_cases c : tq t n a (if k = 5 then 93 else 41) = false
                    · rw [if_pos c, if_pos c]
                    · rw [if_neg c, if_neg c]
                      have al : a < n := by
                        cases z : tq t n a (if k = 5 then 93 else 41) with
                        | false => exact absurd z c
                        | true =>
                          refine tq_lt z ?_
                          split <;> decide
                      rcases r with _ | ⟨⟨k2, ph2, bg2, o2⟩, r2⟩
                      · rfl
                      · exact h1 _ _ _ al
    · unfold stO
      split
      · rfl
      · split
        · next c =>
          split
          · rfl
          · exact h1 _ _ _ (tq_lt (and_r c) (by decide))
        · split
          · next c =>
            split
            · rfl
            · exact h1 _ _ _ (tq_lt (and_r c) (by decide))
          · split
            · next c => exact h1 _ _ _ (tq_lt (and_r c) (by decide))
            · split
              · next c =>
                split
                · rfl
                · exact h1 _ _ _ (tq_lt c (by decide))
              · split
                · next c =>
                  have al : a < n := by
                    rcases or_e c with q | q
                    · exact tq_lt q (by decide)
                    · exact tq_lt q (by decide)
                  split
                  · rfl
                  · split
                    · rfl
                    · next d =>
                      split
                      · rfl
                      · have bl : nx t n a < n := by
                          cases z : tq t n (nx t n a) 40 with
                          | false => exact absurd z d
                          | true => exact tq_lt z (by decide)
                        have g1 := nx_gt (t := t) al
                        have g2 := nx_gt (t := t) bl
                        exact h _ _ _ _ (by omega) (nx_le (by omega))
                · split
                  · next c => exact h1 _ _ _ (tP_lt c)
                  · rfl
theorem evF_fuel (t : Nat → Int32) (n : Nat) : ∀ N f m op st a, f ≤ N → a ≤ n → n + 1 - a ≤ f → evF t n f m op st a = evF t n (n + 1 - a) m op st a := by
  intro N
  induction N with
  | zero => intro f m op st a h1 h2 h3; omega
  | succ N ih =>
    intro f m op st a h1 h2 h3
    obtain ⟨f', rfl⟩ : ∃ f', f = f' + 1 := ⟨f - 1, by omega⟩
    have e : n + 1 - a = (n - a) + 1 := by omega
    rw [e]
    show stK t n m op st a (evF t n f') = stK t n m op st a (evF t n (n - a))
    refine stK_cong (fun m op st b hb hn => ?_)
    rw [ih f' m op st b (by omega) hn (by omega), ih (n - a) m op st b (by omega) hn (by omega)]
theorem EV_eq {t : Nat → Int32} {n a : Nat} {m : Bool} {op : Int} {st : List Fr} (h : a ≤ n) : EV t n m op st a = stK t n m op st a (EV t n) := by
  unfold EV
  have e : n + 1 - a = (n - a) + 1 := by omega
  rw [e]
  show stK t n m op st a (evF t n (n - a)) = stK t n m op st a (fun m op st b => evF t n (n + 1 - b) m op st b)
  refine stK_cong (fun m op st b hb hn => ?_)
  exact evF_fuel t n (n - a) (n - a) m op st b (Nat.le_refl _) hn (by omega)
theorem EV_o {t : Nat → Int32} {n a : Nat} {op : Int} {k ph bg : Int32} {o0 : Int} {r : List Fr} (h : a ≤ n) : EV t n false op ((k, ph, bg, o0) :: r) a = stO t n op k ph bg o0 r a (EV t n) := EV_eq h
theorem EV_b {t : Nat → Int32} {n a : Nat} {op : Int} {k ph bg : Int32} {o0 : Int} {r : List Fr} (h : a ≤ n) : EV t n true op ((k, ph, bg, o0) :: r) a = stB t n op k ph bg o0 r a (EV t n) := EV_eq h
theorem EV_bad {t : Nat → Int32} {n a : Nat} {m : Bool} {op : Int} {st : List Fr} (h : a ≤ n) (b : kB t n a = true) : EV t n m op st a = none := by
  rw [EV_eq h]
  rcases st with _ | ⟨⟨k, ph, bg, o0⟩, r⟩
  · rfl
  · show (if m = true then stB t n op k ph bg o0 r a (EV t n) else stO t n op k ph bg o0 r a (EV t n)) = none
    split
    · unfold stB; rw [if_pos b]
    · unfold stO; rw [if_pos b]
theorem fi_0 (k : Int32) : fi k 0 = false := by unfold fi; rw [decide_eq_false (fun q => q rfl)]; cases isT k <;> rfl
theorem fi_1 {k : Int32} (h : isT k = true) : fi k 1 = true := by unfold fi; rw [h, decide_eq_true (by decide)]; rfl
theorem fi_n {k : Int32} (h : isT k = false) (bg : Int32) : fi k bg = false := by unfold fi; rw [h]; rfl
theorem tq_t {t : Nat → Int32} {n a : Nat} {c : Int32} (h : tkc t n a = c) : tq t n a c = true := decide_eq_true h
theorem tq_f {t : Nat → Int32} {n a : Nat} {c d : Int32} (h : tkc t n a = c) (k : ¬ c = d) : tq t n a d = false := decide_eq_false (fun q => k (h.symm.trans q))
theorem tq_x {t : Nat → Int32} {n a : Nat} {d : Int32} (h : ¬ tkc t n a = d) : tq t n a d = false := decide_eq_false h
