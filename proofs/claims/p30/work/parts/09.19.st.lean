/-! STATEMENTS: what a text tells, token by token. en: how many THINGS, their names; WISHES, theirs; which THINGS are first; whether dark, room, content are told; what the fish bears -/
abbrev EN := Nat × (Nat → Int64) × Nat × (Nat → Int64) × (Nat → Bool) × Bool × Bool × Bool × Int32
def kn (f : Nat → Int64) (w : Int64) : Nat → Nat → Option Nat
  | 0, _ => none
  | m + 1, k => if f k = w then some k else kn f w m (k + 1)
def fnd (c : Nat) (f : Nat → Int64) (w : Int64) : Option Nat := kn f w c 0
theorem kn_none {f : Nat → Int64} {w : Int64} : ∀ {m k : Nat}, (∀ j, k ≤ j → j < k + m → ¬ f j = w) → kn f w m k = none
  | 0, _, _ => rfl
  | m + 1, k, h => by
    show (if f k = w then some k else kn f w m (k + 1)) = none
    rw [if_neg (h k (by omega) (by omega))]
    exact kn_none (fun j h1 h2 => h j (by omega) (by omega))
theorem kn_some {f : Nat → Int64} {w : Int64} : ∀ {m k r : Nat}, k ≤ r → r < k + m → f r = w → (∀ j, k ≤ j → j < r → ¬ f j = w) → kn f w m k = some r
  | 0, _, _, h1, h2, _, _ => by omega
  | m + 1, k, r, h1, h2, h3, h4 => by
    show (if f k = w then some k else kn f w m (k + 1)) = some r
    by_cases c : f k = w
    · have e : r = k := by
        by_cases z : r = k
        · exact z
        · exact absurd c (h4 k (by omega) (by omega))
      rw [if_pos c, e]
    · rw [if_neg c]
      refine kn_some ?_ (by omega) h3 (fun j q1 q2 => h4 j (by omega) q2)
      by_cases z : r = k
      · rw [z] at h3; exact absurd h3 c
      · omega
/-- where a name stands in a row of names -/
def IXN (c : Nat) (f : Nat → Int64) (w : Int64) (r : Int32) : Prop := (r = -1 ∧ ∀ j, j < c → ¬ f j = w) ∨ (0 ≤ r ∧ r.toNatClampNeg < c ∧ f r.toNatClampNeg = w ∧ ∀ j, j < r.toNatClampNeg → ¬ f j = w)
theorem IXN_fnd {c : Nat} {f : Nat → Int64} {w : Int64} {r : Int32} (h : IXN c f w r) : (r = -1 ∧ fnd c f w = none) ∨ (0 ≤ r ∧ r.toNatClampNeg < c ∧ fnd c f w = some r.toNatClampNeg) := by
  rcases h with ⟨h1, h2⟩ | ⟨h1, h2, h3, h4⟩
  · exact Or.inl ⟨h1, kn_none (fun j _ q => h2 j (by omega))⟩
  · exact Or.inr ⟨h1, h2, kn_some (by omega) (by omega) h3 (fun j _ q => h4 j q)⟩
/-- the same in a row of keys -/
def IXI (c : Nat) (f : Nat → Int32) (v : Int32) (r : Int32) : Prop := (r = -1 ∧ ∀ j, j < c → ¬ f j = v) ∨ (0 ≤ r ∧ r.toNatClampNeg < c ∧ f r.toNatClampNeg = v ∧ ∀ j, j < r.toNatClampNeg → ¬ f j = v)
def NKR (c : Nat) (f : Nat → Int32) (g : Nat → Int64) : Prop := ∀ j, j < c → NK (f j) (g j)
theorem IXI_IXN {c : Nat} {f : Nat → Int32} {g : Nat → Int64} {v r : Int32} {w : Int64} (h : IXI c f v r) (hr : NKR c f g) (hv : NK v w) : IXN c g w r := by
  rcases h with ⟨h1, h2⟩ | ⟨h1, h2, h3, h4⟩
  · exact Or.inl ⟨h1, fun j q e => h2 j q ((NK_iff (hr j q) hv).mpr e)⟩
  · exact Or.inr ⟨h1, h2, (NK_iff (hr _ h2) hv).mp h3, fun j q e => h4 j q ((NK_iff (hr j (by omega)) hv).mpr e)⟩
def sMust (t : Nat → Int32) (n : Nat) (c : Int32) (a : Nat) : Option Nat := if kB t n a = true then none else if tq t n a c = false then none else some (nx t n a)
def sNum (t : Nat → Int32) (n : Nat) (lo hi : Int32) (a : Nat) : Option (Int32 × Nat) := if kB t n a = true then none else if tq t n a 257 = false then none else if lo ≤ kV t n a ∧ kV t n a ≤ hi then some (kV t n a, nx t n a) else none
def sNew (t : Nat → Int32) (n cT : Nat) (nT : Nat → Int64) (cW : Nat) (nW : Nat → Int64) (a : Nat) : Option (Int64 × Nat) := if kB t n a = true then none else if tq t n a 258 = false then none else if fnd cT nT (kW t n a) = none ∧ fnd cW nW (kW t n a) = none then some (kW t n a, nx t n a) else none
def sLook (t : Nat → Int32) (n cT : Nat) (nT : Nat → Int64) (a : Nat) : Option Nat := if kB t n a = true then none else if tq t n a 258 = false then none else fnd cT nT (kW t n a)
/-- one THING more in a set -/
def ins (k : Nat) (S : Nat → Bool) : Nat → Bool := fun j => decide (j = k) || S j
def sRowK (t : Nat → Int32) (n cT : Nat) (nT : Nat → Int64) (S : Nat → Bool) (a : Nat) (K : (Nat → Bool) → Nat → Option Nat) : Option Nat :=
  match sLook t n cT nT a with
  | none => none
  | some k => if S k = true then none else if kB t n (nx t n a) = true then none else if tq t n (nx t n a) 258 = true then K (ins k S) (nx t n a) else some (nx t n a)
def sRowF (t : Nat → Int32) (n cT : Nat) (nT : Nat → Int64) : Nat → (Nat → Bool) → Nat → Option Nat
  | 0 => fun _ _ => none
  | f + 1 => fun S a => sRowK t n cT nT S a (sRowF t n cT nT f)
def sRow (t : Nat → Int32) (n cT : Nat) (nT : Nat → Int64) (S : Nat → Bool) (a : Nat) : Option Nat := sRowF t n cT nT (n + 1 - a) S a
theorem sLook_lt {t : Nat → Int32} {n cT a k : Nat} {nT : Nat → Int64} (h : sLook t n cT nT a = some k) : a < n := by
  unfold sLook at h
  split at h
  · exact absurd h (by simp)
  · split at h
    · exact absurd h (by simp)
    · next c =>
      refine tq_lt (t := t) (c := 258) ?_ (by decide)
      cases z : tq t n a 258 with
      | true => rfl
      | false => exact absurd z c
theorem sRowK_cong {t : Nat → Int32} {n cT a : Nat} {nT : Nat → Int64} {S : Nat → Bool} {K1 K2 : (Nat → Bool) → Nat → Option Nat} (h : ∀ S b, a < b → b ≤ n → K1 S b = K2 S b) : sRowK t n cT nT S a K1 = sRowK t n cT nT S a K2 := by
  unfold sRowK
  cases e : sLook t n cT nT a with
  | none => rfl
  | some k =>
    have al := sLook_lt e
    show (if S k = true then none else if kB t n (nx t n a) = true then none else if tq t n (nx t n a) 258 = true then K1 (ins k S) (nx t n a) else some (nx t n a)) = (if S k = true then none else if kB t n (nx t n a) = true then none else if tq t n (nx t n a) 258 = true then K2 (ins k S) (nx t n a) else some (nx t n a))
    rw [h (ins k S) (nx t n a) (nx_gt al) (nx_le (by omega))]
theorem sRowF_fuel (t : Nat → Int32) (n cT : Nat) (nT : Nat → Int64) : ∀ N f S a, f ≤ N → a ≤ n → n + 1 - a ≤ f → sRowF t n cT nT f S a = sRowF t n cT nT (n + 1 - a) S a := by
  intro N
  induction N with
  | zero => intro f S a h1 h2 h3; omega
  | succ N ih =>
    intro f S a h1 h2 h3
    obtain ⟨f', rfl⟩ : ∃ f', f = f' + 1 := ⟨f - 1, by omega⟩
    have e : n + 1 - a = (n - a) + 1 := by omega
    rw [e]
    show sRowK t n cT nT S a (sRowF t n cT nT f') = sRowK t n cT nT S a (sRowF t n cT nT (n - a))
    refine sRowK_cong (fun S b hb hn => ?_)
    rw [ih f' S b (by omega) hn (by omega), ih (n - a) S b (by omega) hn (by omega)]
theorem sRow_eq {t : Nat → Int32} {n cT a : Nat} {nT : Nat → Int64} {S : Nat → Bool} (h : a ≤ n) : sRow t n cT nT S a = sRowK t n cT nT S a (sRow t n cT nT) := by
  unfold sRow
  have e : n + 1 - a = (n - a) + 1 := by omega
  rw [e]
  show sRowK t n cT nT S a (sRowF t n cT nT (n - a)) = sRowK t n cT nT S a (fun S b => sRowF t n cT nT (n + 1 - b) S b)
  refine sRowK_cong (fun S b hb hn => ?_)
  exact sRowF_fuel t n cT nT (n - a) (n - a) S b (Nat.le_refl _) hn (by omega)
def addT (en : EN) (w : Int64) : EN := (en.1 + 1, (fun j => if j = en.1 then w else en.2.1 j), en.2.2)
def addW (en : EN) (w : Int64) : EN := (en.1, en.2.1, en.2.2.1 + 1, (fun j => if j = en.2.2.1 then w else en.2.2.2.1 j), en.2.2.2.2)
def none9 : Nat → Bool := fun _ => false
def sThing (t : Nat → Int32) (n : Nat) (en : EN) (a : Nat) : Option (EN × Nat) :=
  (sNew t n en.1 en.2.1 en.2.2.1 en.2.2.2.1 a).bind fun x => (sMust t n 301 x.2).bind fun b => (sNum t n 0 99 b).bind fun y => (sMust t n 302 y.2).bind fun b => (sNum t n 1 9 b).bind fun y =>
    if kB t n y.2 = true then none else some (addT en x.1, if tq t n y.2 303 = true then nx t n y.2 else y.2)
def sNeeds (t : Nat → Int32) (n cT : Nat) (nT : Nat → Int64) (c : Int32) (S : Nat → Bool) (a : Nat) : Option Nat :=
  if kB t n a = true then none else if tq t n a c = true then sRow t n cT nT S (nx t n a) else some a
def sWish (t : Nat → Int32) (n : Nat) (en : EN) (a : Nat) : Option (EN × Nat) :=
  (sNew t n en.1 en.2.1 en.2.2.1 en.2.2.2.1 a).bind fun x => (sMust t n 305 x.2).bind fun b => (sNum t n 0 9 b).bind fun y => (sMust t n 306 y.2).bind fun b => (sLook t n en.1 en.2.1 b).bind fun k =>
    (sNeeds t n en.1 en.2.1 307 none9 (nx t n b)).bind fun b => (sNeeds t n en.1 en.2.1 308 (ins k none9) b).bind fun b => some (addW en x.1, b)
def sFirst (t : Nat → Int32) (n : Nat) (en : EN) (a : Nat) : Option (EN × Nat) :=
  (sLook t n en.1 en.2.1 a).bind fun k => if en.2.2.2.2.1 k = true then none else some ((en.1, en.2.1, en.2.2.1, en.2.2.2.1, ins k en.2.2.2.2.1, en.2.2.2.2.2), nx t n a)
def setD (en : EN) : EN := (en.1, en.2.1, en.2.2.1, en.2.2.2.1, en.2.2.2.2.1, true, en.2.2.2.2.2.2)
def setR (en : EN) : EN := (en.1, en.2.1, en.2.2.1, en.2.2.2.1, en.2.2.2.2.1, en.2.2.2.2.2.1, true, en.2.2.2.2.2.2.2)
def setC (en : EN) : EN := (en.1, en.2.1, en.2.2.1, en.2.2.2.1, en.2.2.2.2.1, en.2.2.2.2.2.1, en.2.2.2.2.2.2.1, true, en.2.2.2.2.2.2.2.2)
def setB (en : EN) (v : Int32) : EN := (en.1, en.2.1, en.2.2.1, en.2.2.2.1, en.2.2.2.2.1, en.2.2.2.2.2.1, en.2.2.2.2.2.2.1, en.2.2.2.2.2.2.2.1, v)
def sBody (t : Nat → Int32) (n : Nat) (en : EN) (a : Nat) : Option (EN × Nat) :=
  if tq t n a 300 = true then (if en.1 = 10 then none else sThing t n en (nx t n a))
  else if tq t n a 304 = true then (if en.2.2.1 = 12 then none else sWish t n en (nx t n a))
  else if tq t n a 309 = true then sFirst t n en (nx t n a)
  else if tq t n a 310 = true then (if en.2.2.2.2.2.1 = true then none else (SUMr t n (nx t n a)).bind fun b => some (setD en, b))
  else if tq t n a 311 = true then (if en.2.2.2.2.2.2.1 = true then none else (SUMr t n (nx t n a)).bind fun b => some (setR en, b))
  else if tq t n a 312 = true then (if en.2.2.2.2.2.2.2.1 = true then none else (TESTr t n (nx t n a)).bind fun b => some (setC en, b))
  else if tq t n a 313 = true then (sNum t n 1 999 (nx t n a)).bind fun y => some (setB en y.1, y.2)
  else if tq t n a 314 = true then (sNum t n 0 999 (nx t n a)).bind fun y => some (en, y.2)
  else none
def sStmt (t : Nat → Int32) (n : Nat) (en : EN) (ns a : Nat) : Option (EN × Nat) :=
  if kB t n a = true then none else if ns = 80 then none else (sBody t n en a).bind fun x => (sMust t n 59 x.2).bind fun b => some (x.1, b)
def sShF (t : Nat → Int32) (n : Nat) : Nat → EN → Nat → Nat → Option (EN × Nat)
  | 0, _, _, _ => none
  | f + 1, en, ns, a => if kB t n a = true then none else if n ≤ a then some (en, ns) else (sStmt t n en ns a).bind fun x => sShF t n f x.1 (ns + 1) x.2
/-- a text from a STATEMENT's begin on -/
def sSh (t : Nat → Int32) (n : Nat) (en : EN) (ns a : Nat) : Option (EN × Nat) := sShF t n (81 - ns) en ns a
theorem sSh_eq {t : Nat → Int32} {n ns a : Nat} {en : EN} (h : ns ≤ 80) : sSh t n en ns a = if kB t n a = true then none else if n ≤ a then some (en, ns) else (sStmt t n en ns a).bind fun x => sSh t n x.1 (ns + 1) x.2 := by
  unfold sSh
  have e : 81 - ns = (80 - ns) + 1 := by omega
  rw [e]
  have e2 : 81 - (ns + 1) = 80 - ns := by omega
  rw [e2]
  rfl
def en0 : EN := (0, (fun _ => 0), 0, (fun _ => 0), none9, false, false, false, 100)
/-- what a text tells: nothing with a FAULT -/
def sText (t : Nat → Int32) (n : Nat) : Option (EN × Nat) := sSh t n en0 0 (rn cB t n 0)
