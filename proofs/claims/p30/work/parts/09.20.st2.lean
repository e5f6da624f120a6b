/-! STATEMENTS: the class -/
def NFo (t : Nat → Int32) (n : Nat) (x : Option Nat) : Prop := ∀ b, x = some b → kB t n b = true
def NFp {α : Type} (t : Nat → Int32) (n : Nat) (x : Option (α × Nat)) : Prop := ∀ w b, x = some (w, b) → kB t n b = true
theorem NFo_0 {t : Nat → Int32} {n : Nat} : NFo t n none := fun b h => absurd h (by simp)
theorem NFp_0 {α : Type} {t : Nat → Int32} {n : Nat} : NFp t n (none : Option (α × Nat)) := fun w b h => absurd h (by simp)
theorem NFo_1 {t : Nat → Int32} {n b : Nat} (h : kB t n b = true) : NFo t n (some b) := fun c e => by
  have z : b = c := by simpa using e
  rw [← z]; exact h
theorem NFp_1 {α : Type} {t : Nat → Int32} {n b : Nat} {w : α} (h : kB t n b = true) : NFp t n (some (w, b)) := fun v c e => by
  have z : w = v ∧ b = c := by simpa using e
  rw [← z.2]; exact h
/-- what goes on with a wrong token comes to nothing -/
theorem bo_none {α : Type} {t : Nat → Int32} {n : Nat} {x : Option Nat} {f : Nat → Option α} (h : NFo t n x) (g : ∀ b, kB t n b = true → f b = none) : x.bind f = none := by
  cases x with
  | none => rfl
  | some b => exact g b (h b rfl)
theorem bp_none {α β : Type} {t : Nat → Int32} {n : Nat} {x : Option (β × Nat)} {f : β × Nat → Option α} (h : NFp t n x) (g : ∀ w b, kB t n b = true → f (w, b) = none) : x.bind f = none := by
  cases x with
  | none => rfl
  | some y => exact g y.1 y.2 (h y.1 y.2 rfl)
theorem sMust_bad {t : Nat → Int32} {n a : Nat} {c : Int32} (h : kB t n a = true) : sMust t n c a = none := by unfold sMust; rw [if_pos h]
theorem sNum_bad {t : Nat → Int32} {n a : Nat} {lo hi : Int32} (h : kB t n a = true) : sNum t n lo hi a = none := by unfold sNum; rw [if_pos h]
theorem sLook_bad {t : Nat → Int32} {n a cT : Nat} {nT : Nat → Int64} (h : kB t n a = true) : sLook t n cT nT a = none := by unfold sLook; rw [if_pos h]
theorem sNew_bad {t : Nat → Int32} {n a cT cW : Nat} {nT nW : Nat → Int64} (h : kB t n a = true) : sNew t n cT nT cW nW a = none := by unfold sNew; rw [if_pos h]
theorem sNeeds_bad {t : Nat → Int32} {n a cT : Nat} {nT : Nat → Int64} {c : Int32} {S : Nat → Bool} (h : kB t n a = true) : sNeeds t n cT nT c S a = none := by unfold sNeeds; rw [if_pos h]
theorem sMust_y {t : Nat → Int32} {n a : Nat} {c : Int32} (b : kB t n a = false) (h : tkc t n a = c) : sMust t n c a = some (nx t n a) := by unfold sMust; rw [if_neg (by rw [b]; decide), if_neg (by rw [tq_t h]; decide)]
theorem sMust_n {t : Nat → Int32} {n a : Nat} {c : Int32} (h : ¬ tkc t n a = c) : sMust t n c a = none := by
  unfold sMust
  split
  · rfl
  · rw [if_pos (tq_x h)]
/-- pass: what it makes of a text -/
theorem PN_must {t : Nat → Int32} {n a : Nat} {due p s tok v flt : Int32} (hd : ¬ due = 256) (b : kB t n a = false) (h : PN t n a due p s tok v flt) : (0 < flt ∧ NFo t n (sMust t n due a)) ∨ (flt = 0 ∧ TK t n p s tok v ∧ sMust t n due a = some s.toNatClampNeg ∧ a < s.toNatClampNeg) := by
  rcases h with ⟨h1, h2⟩ | ⟨h1, h2, h3, h4⟩
  · refine Or.inl ⟨h1, ?_⟩
    by_cases c : tkc t n a = due
    · rw [sMust_y b c]
      rcases h2 with h2 | h2
      · exact absurd c h2
      · exact NFo_1 h2
    · rw [sMust_n c]; exact NFo_0
  · exact Or.inr ⟨h2, h3, by rw [sMust_y b h1, h4], by rw [h4]; exact nx_gt (tkc_lt h1 hd)⟩
theorem IN_k {t : Nat → Int32} {g : Nat → Int64} {n : Nat} {p s tok v flt : Int32} (i : IN t g n p s tok v flt) : kB t n s.toNatClampNeg = false ∧ tok = tkc t n s.toNatClampNeg ∧ s.toNatClampNeg ≤ n := ⟨i.2.2.2.2.2.2.1, i.2.2.2.2.2.2.2.1, i.2.2.2.2.1⟩
/-! numbers -/
def NUMo (t : Nat → Int32) (n a : Nat) (lo hi r p s tok v flt : Int32) : Prop := (0 < flt ∧ NFp t n (sNum t n lo hi a)) ∨ (flt = 0 ∧ TK t n p s tok v ∧ sNum t n lo hi a = some (r, s.toNatClampNeg) ∧ a < s.toNatClampNeg)
def RNUM (lo hi : Int32) (t : Nat → Int32) (g : Nat → Int64) (n : Nat) (p s tok v flt r p' s' tok' v' flt' : Int32) : Prop := IN t g n p s tok v flt → NUMo t n s.toNatClampNeg lo hi r p' s' tok' v' flt'
theorem l_n0 {lo hi : Int32} {t : Nat → Int32} {g : Nat → Int64} {n : Nat} {p s tok v flt r p' s' tok' v' flt' : Int32} (x : flt = 0 → 0 < flt') (e : ¬ tok = 257) : RNUM lo hi t g n p s tok v flt r p' s' tok' v' flt' := by
  intro i
  have k := IN_k i
  rw [k.2.1] at e
  refine Or.inl ⟨x i.2.2.2.1, ?_⟩
  have z : sNum t n lo hi s.toNatClampNeg = none := by unfold sNum; rw [if_neg (by rw [k.1]; decide), if_pos (tq_x e)]
  rw [z]; exact NFp_0
theorem l_n1 {lo hi : Int32} {t : Nat → Int32} {g : Nat → Int64} {n : Nat} {p s tok v flt r p' s' tok' v' flt' : Int32} (x : flt = 0 → 0 < flt') (e : tok = 257) (c : v < lo ∨ hi < v) : RNUM lo hi t g n p s tok v flt r p' s' tok' v' flt' := by
  intro i
  have k := IN_k i
  have hv := i.2.2.2.2.2.2.2.2.2.1 e
  rw [hv] at c
  rw [k.2.1] at e
  refine Or.inl ⟨x i.2.2.2.1, ?_⟩
  have z : sNum t n lo hi s.toNatClampNeg = none := by
    unfold sNum
    rw [if_neg (by rw [k.1]; decide), if_neg (by rw [tq_t e]; decide), if_neg]
    rintro ⟨q1, q2⟩
    have r1 := Int32.le_iff_toInt_le.mp q1
    have r2 := Int32.le_iff_toInt_le.mp q2
    rcases c with c | c
    · have := Int32.lt_iff_toInt_lt.mp c; omega
    · have := Int32.lt_iff_toInt_lt.mp c; omega
  rw [z]; exact NFp_0
theorem l_n2 {lo hi : Int32} {t : Nat → Int32} {g : Nat → Int64} {n : Nat} {p s tok v flt p' s' tok' v' flt' : Int32} (h : RSTEP t g n p s tok v flt p' s' tok' v' flt') (e : tok = 257) (c1 : lo ≤ v) (c2 : v ≤ hi) : RNUM lo hi t g n p s tok v flt v p' s' tok' v' flt' := by
  intro i
  have k := IN_k i
  have hv := i.2.2.2.2.2.2.2.2.2.1 e
  rw [hv] at c1 c2
  rw [k.2.1] at e
  have z : sNum t n lo hi s.toNatClampNeg = some (kV t n s.toNatClampNeg, nx t n s.toNatClampNeg) := by unfold sNum; rw [if_neg (by rw [k.1]; decide), if_neg (by rw [tq_t e]; decide), if_pos ⟨c1, c2⟩]
  rcases h i with q | q
  · exact Or.inl ⟨q.1, by rw [z]; exact NFp_1 q.2⟩
  · exact Or.inr ⟨q.1, q.2.1, by rw [z, hv, q.2.2], by rw [q.2.2]; exact nx_gt (tkc_lt e (by decide))⟩
/-! names -/
def NMS (en : EN) (th wi : Int32) (rT rW : Nat → Int32) : Prop := en.1 = th.toNatClampNeg ∧ en.2.2.1 = wi.toNatClampNeg ∧ NKR en.1 rT en.2.1 ∧ NKR en.2.2.1 rW en.2.2.2.1
def eNew (t : Nat → Int32) (n : Nat) (en : EN) (a : Nat) : Option (Int64 × Nat) := sNew t n en.1 en.2.1 en.2.2.1 en.2.2.2.1 a
def NEWo (t : Nat → Int32) (n : Nat) (en : EN) (a : Nat) (r p s tok v flt : Int32) : Prop := (0 < flt ∧ NFp t n (eNew t n en a)) ∨ (flt = 0 ∧ TK t n p s tok v ∧ (∃ w, eNew t n en a = some (w, s.toNatClampNeg) ∧ NK r w) ∧ a < s.toNatClampNeg)
def RNEW (t : Nat → Int32) (g : Nat → Int64) (n : Nat) (th wi : Int32) (rT rW : Nat → Int32) (p s tok v flt r p' s' tok' v' flt' : Int32) : Prop := ∀ en, NMS en th wi rT rW → IN t g n p s tok v flt → NEWo t n en s.toNatClampNeg r p' s' tok' v' flt'
theorem l_w0 {t : Nat → Int32} {g : Nat → Int64} {n : Nat} {th wi : Int32} {rT rW : Nat → Int32} {p s tok v flt r p' s' tok' v' flt' : Int32} (x : flt = 0 → 0 < flt') (e : ¬ tok = 258) : RNEW t g n th wi rT rW p s tok v flt r p' s' tok' v' flt' := by
  intro en hm i
  have k := IN_k i
  rw [k.2.1] at e
  refine Or.inl ⟨x i.2.2.2.1, ?_⟩
  have z : eNew t n en s.toNatClampNeg = none := by unfold eNew sNew; rw [if_neg (by rw [k.1]; decide), if_pos (tq_x e)]
  rw [z]; exact NFp_0
theorem i_nn {r : Int32} (h : 0 ≤ r) : ¬ r = -1 := by rintro rfl; exact absurd h (by decide)
theorem i_n1 {r : Int32} (h : r < 0) : ¬ 0 ≤ r := fun q => by
  have a := Int32.lt_iff_toInt_lt.mp h
  have b := Int32.le_iff_toInt_le.mp q
  omega
theorem l_w1 {t : Nat → Int32} {g : Nat → Int64} {n : Nat} {th wi : Int32} {rT rW : Nat → Int32} {p s tok v flt r p' s' tok' v' flt' q1 q2 : Int32} (x : flt = 0 → 0 < flt') (e : tok = 258) (c : (IXI th.toNatClampNeg rT v q1 ∧ 0 ≤ q1) ∨ (IXI wi.toNatClampNeg rW v q2 ∧ 0 ≤ q2)) : RNEW t g n th wi rT rW p s tok v flt r p' s' tok' v' flt' := by
  intro en hm i
  have k := IN_k i
  have hv := i.2.2.2.2.2.2.2.2.2.2 e
  refine Or.inl ⟨x i.2.2.2.1, ?_⟩
  have z : eNew t n en s.toNatClampNeg = none := by
    unfold eNew sNew
    split
    · rfl
    · split
      · rfl
      · rw [if_neg]
        rintro ⟨a1, a2⟩
        rcases c with ⟨c1, c2⟩ | ⟨c1, c2⟩
        · rw [← hm.1] at c1
          rcases IXN_fnd (IXI_IXN c1 hm.2.2.1 hv) with d | d
          · exact i_nn c2 d.1
          · rw [a1] at d; exact absurd d.2.2 (by simp)
        · rw [← hm.2.1] at c1
          rcases IXN_fnd (IXI_IXN c1 hm.2.2.2 hv) with d | d
          · exact i_nn c2 d.1
          · rw [a2] at d; exact absurd d.2.2 (by simp)
  rw [z]; exact NFp_0
theorem l_w2 {t : Nat → Int32} {g : Nat → Int64} {n : Nat} {th wi : Int32} {rT rW : Nat → Int32} {p s tok v flt p' s' tok' v' flt' q1 q2 : Int32} (h : RSTEP t g n p s tok v flt p' s' tok' v' flt') (e : tok = 258) (c1 : IXI th.toNatClampNeg rT v q1) (d1 : q1 < 0) (c2 : IXI wi.toNatClampNeg rW v q2) (d2 : q2 < 0) : RNEW t g n th wi rT rW p s tok v flt v p' s' tok' v' flt' := by
  intro en hm i
  have k := IN_k i
  have hv := i.2.2.2.2.2.2.2.2.2.2 e
  have et := k.2.1.symm.trans e
  rw [← hm.1] at c1
  rw [← hm.2.1] at c2
  have f1 : fnd en.1 en.2.1 (kW t n s.toNatClampNeg) = none := by
    rcases IXN_fnd (IXI_IXN c1 hm.2.2.1 hv) with d | d
    · exact d.2
    · exact absurd d.1 (i_n1 d1)
  have f2 : fnd en.2.2.1 en.2.2.2.1 (kW t n s.toNatClampNeg) = none := by
    rcases IXN_fnd (IXI_IXN c2 hm.2.2.2 hv) with d | d
    · exact d.2
    · exact absurd d.1 (i_n1 d2)
  have z : eNew t n en s.toNatClampNeg = some (kW t n s.toNatClampNeg, nx t n s.toNatClampNeg) := by unfold eNew sNew; rw [if_neg (by rw [k.1]; decide), if_neg (by rw [tq_t et]; decide), if_pos ⟨f1, f2⟩]
  rcases h i with q | q
  · exact Or.inl ⟨q.1, by rw [z]; exact NFp_1 q.2⟩
  · exact Or.inr ⟨q.1, q.2.1, ⟨_, by rw [z, q.2.2], hv⟩, by rw [q.2.2]; exact nx_gt (tkc_lt et (by decide))⟩
/-! bits -/
theorem bt_1 : ∀ i, i < 32 → bt 1 i = decide (i = 0) := by decide +kernel
theorem bt_sh {x : Int32} {k : Nat} (h : k < 32) : bt (x >>> (nI k &&& 31)) 0 = bt x k := by
  rw [b_sshr k h x (by decide), if_pos (by omega)]
  rfl
theorem hbit {x : Int32} {k : Nat} (h : k < 32) : (x >>> (nI k &&& 31)) &&& 1 = 1 ↔ bt x k = true := by
  rw [← bt_sh h]
  constructor
  · intro e
    have q := congrArg (fun z => bt z 0) e
    have q : bt ((x >>> (nI k &&& 31)) &&& 1) 0 = bt 1 0 := q
    rw [b_and, bt_1 0 (by decide)] at q
    simpa using q
  · intro e
    refine b_ext (fun i hi => ?_)
    rw [b_and, bt_1 i hi]
    by_cases z : i = 0
    · subst z; rw [e]; rfl
    · rw [decide_eq_false z]; simp
theorem bt_bit {k j : Nat} (hk : k < 32) (hj : j < 32) : bt ((1 : Int32) <<< (nI k &&& 31)) j = decide (j = k) := by
  rw [b_shl k hk 1 hj]
  by_cases z : k ≤ j
  · rw [decide_eq_true z, bt_1 _ (by omega)]
    by_cases e : j = k
    · rw [decide_eq_true (show j - k = 0 by omega), decide_eq_true e]; rfl
    · rw [decide_eq_false (show ¬ j - k = 0 by omega), decide_eq_false e]; rfl
  · rw [decide_eq_false z, decide_eq_false (show ¬ j = k by omega)]; rfl
def BS (x : Int32) (S : Nat → Bool) : Prop := ∀ j, j < 10 → bt x j = S j
theorem BS_0 : BS 0 none9 := fun j _ => b_0 j
theorem BS_ins {x y : Int32} {k : Nat} {S : Nat → Bool} (h : BS x S) (hk : k < 10) (e : y = (1 : Int32) <<< (nI k &&& 31)) : BS (x ||| y) (ins k S) := by
  intro j hj
  rw [b_or, e, bt_bit (by omega) (by omega), h j hj]
  unfold ins
  cases S j <;> cases (decide (j = k)) <;> rfl
theorem BS_ins' {x y : Int32} {k : Nat} {S : Nat → Bool} (h : BS x S) (hk : k < 10) (e : y = (1 : Int32) <<< (nI k &&& 31)) : BS (y ||| x) (ins k S) := by
  intro j hj
  rw [b_or, e, bt_bit (by omega) (by omega), h j hj]
  rfl
theorem BS_1 {y : Int32} {k : Nat} (hk : k < 10) (e : y = (1 : Int32) <<< (nI k &&& 31)) : BS y (ins k none9) := by
  intro j hj
  rw [e, bt_bit (by omega) (by omega)]
  unfold ins none9
  cases (decide (j = k)) <;> rfl
theorem BS_or3 {a b c : Int32} {S : Nat → Bool} (h : BS ((a ||| b) ||| c) S) : BS ((a ||| c) ||| b) S := by
  intro j hj
  have q := h j hj
  rw [b_or, b_or] at q ⊢
  rw [← q]
  cases bt a j <;> cases bt b j <;> cases bt c j <;> rfl
/-- what bitOf answers -/
def BTO (x r : Int32) : Prop := ∀ k, k < 32 → x = nI k → r = (1 : Int32) <<< (nI k &&& 31)
/-! a THING that is asked -/
def eLook (t : Nat → Int32) (n : Nat) (th : Int32) (f : Nat → Int64) (a : Nat) : Option Nat := sLook t n th.toNatClampNeg f a
def ASKo (t : Nat → Int32) (n : Nat) (th : Int32) (f : Nat → Int64) (a : Nat) (bar r p s tok v flt : Int32) : Prop := (0 < flt ∧ (eLook t n th f a = none ∨ ∃ k, k < th.toNatClampNeg ∧ eLook t n th f a = some k ∧ (bt bar k = true ∨ kB t n (nx t n a) = true))) ∨
  (flt = 0 ∧ TK t n p s tok v ∧ s.toNatClampNeg = nx t n a ∧ a < n ∧ ∃ k, k < th.toNatClampNeg ∧ eLook t n th f a = some k ∧ r = nI k ∧ bt bar k = false)
def RASK (bar : Int32) (t : Nat → Int32) (g : Nat → Int64) (n : Nat) (th : Int32) (rT : Nat → Int32) (p s tok v flt r p' s' tok' v' flt' : Int32) : Prop := ∀ f, NKR th.toNatClampNeg rT f → IN t g n p s tok v flt → ASKo t n th f s.toNatClampNeg bar r p' s' tok' v' flt'
theorem l_a0 {bar : Int32} {t : Nat → Int32} {g : Nat → Int64} {n : Nat} {th : Int32} {rT : Nat → Int32} {p s tok v flt r p' s' tok' v' flt' : Int32} (x : flt = 0 → 0 < flt') (e : ¬ tok = 258) : RASK bar t g n th rT p s tok v flt r p' s' tok' v' flt' := by
  intro f hr i
  have k := IN_k i
  rw [k.2.1] at e
  refine Or.inl ⟨x i.2.2.2.1, Or.inl ?_⟩
  unfold eLook sLook
  rw [if_neg (by rw [k.1]; decide), if_pos (tq_x e)]
theorem look_y {t : Nat → Int32} {n a : Nat} {th : Int32} {f : Nat → Int64} (b : kB t n a = false) (e : tkc t n a = 258) : eLook t n th f a = fnd th.toNatClampNeg f (kW t n a) := by
  unfold eLook sLook
  rw [if_neg (by rw [b]; decide), if_neg (by rw [tq_t e]; decide)]
theorem l_a1 {bar : Int32} {t : Nat → Int32} {g : Nat → Int64} {n : Nat} {th : Int32} {rT : Nat → Int32} {p s tok v flt r p' s' tok' v' flt' q : Int32} (x : flt = 0 → 0 < flt') (e : tok = 258) (c : IXI th.toNatClampNeg rT v q) (d : q < 0) : RASK bar t g n th rT p s tok v flt r p' s' tok' v' flt' := by
  intro f hr i
  have k := IN_k i
  have hv := i.2.2.2.2.2.2.2.2.2.2 e
  refine Or.inl ⟨x i.2.2.2.1, Or.inl ?_⟩
  rw [look_y k.1 (k.2.1.symm.trans e)]
  rcases IXN_fnd (IXI_IXN c hr hv) with z | z
  · exact z.2
  · exact absurd z.1 (i_n1 d)
theorem i_idx {q th : Int32} (h0 : 0 ≤ q) (h : q.toNatClampNeg < th.toNatClampNeg) (ht : iR th 0 10) : q.toNatClampNeg < 10 ∧ q = nI q.toNatClampNeg := by
  have c := iR_cn ht (by decide)
  have b := ht.2
  have a := Int32.le_iff_toInt_le.mp h0
  have z : (0 : Int32).toInt = 0 := by decide
  have hq : iR q 0 2147483647 := ⟨by omega, k_rhi9 q⟩
  have c2 := iR_cn hq (by decide)
  refine ⟨by omega, ?_⟩
  have e := iR_nI hq (by decide)
  have e2 : q.toInt.toNat = q.toNatClampNeg := by omega
  rw [e2] at e
  exact e
theorem l_a2 {bar : Int32} {t : Nat → Int32} {g : Nat → Int64} {n : Nat} {th : Int32} {rT : Nat → Int32} {p s tok v flt r p' s' tok' v' flt' q : Int32} (x : flt = 0 → 0 < flt') (e : tok = 258) (c : IXI th.toNatClampNeg rT v q) (d : 0 ≤ q) (ht : iR th 0 10) (hb : (bar >>> (q &&& 31)) &&& 1 = 1) : RASK bar t g n th rT p s tok v flt r p' s' tok' v' flt' := by
  intro f hr i
  have k := IN_k i
  have hv := i.2.2.2.2.2.2.2.2.2.2 e
  rcases IXN_fnd (IXI_IXN c hr hv) with z | z
  · exact absurd z.1 (i_nn d)
  · have ix := i_idx d z.2.1 ht
    refine Or.inl ⟨x i.2.2.2.1, Or.inr ⟨q.toNatClampNeg, z.2.1, ?_, Or.inl ?_⟩⟩
    · rw [look_y k.1 (k.2.1.symm.trans e)]; exact z.2.2
    · rw [ix.2] at hb
      exact (hbit (by omega)).mp hb
theorem l_a3 {bar : Int32} {t : Nat → Int32} {g : Nat → Int64} {n : Nat} {th : Int32} {rT : Nat → Int32} {p s tok v flt p' s' tok' v' flt' q : Int32} (h : RSTEP t g n p s tok v flt p' s' tok' v' flt') (e : tok = 258) (c : IXI th.toNatClampNeg rT v q) (d : 0 ≤ q) (ht : iR th 0 10) (hb : ¬ (bar >>> (q &&& 31)) &&& 1 = 1) : RASK bar t g n th rT p s tok v flt q p' s' tok' v' flt' := by
  intro f hr i
  have k := IN_k i
  have hv := i.2.2.2.2.2.2.2.2.2.2 e
  have et := k.2.1.symm.trans e
  rcases IXN_fnd (IXI_IXN c hr hv) with z | z
  · exact absurd z.1 (i_nn d)
  · have ix := i_idx d z.2.1 ht
    have lk : eLook t n th f s.toNatClampNeg = some q.toNatClampNeg := by rw [look_y k.1 et]; exact z.2.2
    rcases h i with u | u
    · exact Or.inl ⟨u.1, Or.inr ⟨_, z.2.1, lk, Or.inr u.2⟩⟩
    · refine Or.inr ⟨u.1, u.2.1, u.2.2, tkc_lt et (by decide), q.toNatClampNeg, z.2.1, lk, ix.2, ?_⟩
      cases y : bt bar q.toNatClampNeg with
      | false => rfl
      | true =>
        rw [ix.2] at hb
        exact absurd ((hbit (by omega)).mpr y) hb
/-! rows of THINGS -/
def cnt (S : Nat → Bool) : Nat → Nat
  | 0 => 0
  | m + 1 => cnt S m + (if S m = true then 1 else 0)
theorem cnt_le (S : Nat → Bool) : ∀ m, cnt S m ≤ m
  | 0 => Nat.le_refl _
  | m + 1 => by
    have h := cnt_le S m
    show cnt S m + _ ≤ m + 1
    split <;> omega
theorem cnt_hi {S : Nat → Bool} {k : Nat} : ∀ {m : Nat}, m ≤ k → cnt (ins k S) m = cnt S m
  | 0, _ => rfl
  | m + 1, h => by
    show cnt (ins k S) m + (if ins k S m = true then 1 else 0) = cnt S m + (if S m = true then 1 else 0)
    have e : ins k S m = S m := by unfold ins; rw [decide_eq_false (show ¬ m = k by omega)]; rfl
    rw [cnt_hi (by omega), e]
theorem cnt_ins {S : Nat → Bool} {k : Nat} (h : S k = false) : ∀ {m : Nat}, k < m → cnt (ins k S) m = cnt S m + 1
  | 0, q => absurd q (Nat.not_lt_zero _)
  | m + 1, q => by
    show cnt (ins k S) m + (if ins k S m = true then 1 else 0) = cnt S m + (if S m = true then 1 else 0) + 1
    by_cases e : m = k
    · subst e
      have z : ins m S m = true := by unfold ins; rw [decide_eq_true rfl]; rfl
      rw [cnt_hi (Nat.le_refl _), z, h]
      rfl
    · have z : ins k S m = S m := by unfold ins; rw [decide_eq_false e]; rfl
      rw [cnt_ins h (show k < m by omega), z]
      omega
def eRow (t : Nat → Int32) (n : Nat) (th : Int32) (f : Nat → Int64) (S : Nat → Bool) (a : Nat) : Option Nat := sRow t n th.toNatClampNeg f S a
def ROWo (t : Nat → Int32) (n : Nat) (th : Int32) (f : Nat → Int64) (S : Nat → Bool) (a : Nat) (p s tok v flt : Int32) : Prop := (0 < flt ∧ NFo t n (eRow t n th f S a)) ∨ (flt = 0 ∧ TK t n p s tok v ∧ eRow t n th f S a = some s.toNatClampNeg ∧ a < s.toNatClampNeg)
def RROW (bar : Int32) (t : Nat → Int32) (g : Nat → Int64) (n : Nat) (th : Int32) (rT : Nat → Int32) (p s tok v flt p' s' tok' v' flt' : Int32) : Prop := ∀ f S, NKR th.toNatClampNeg rT f → BS bar S → IN t g n p s tok v flt → ROWo t n th f S s.toNatClampNeg p' s' tok' v' flt'
def LRo (t : Nat → Int32) (n : Nat) (th : Int32) (f : Nat → Int64) (S : Nat → Bool) (a : Nat) (bar bits j p s tok v flt : Int32) : Prop := (0 < flt ∧ NFo t n (eRow t n th f S a)) ∨
  (flt = 0 ∧ TK t n p s tok v ∧ a < s.toNatClampNeg ∧ ∃ S', BS (bits ||| bar) S' ∧ j.toNatClampNeg + 1 ≤ cnt S' 10 ∧ eRow t n th f S a = if tq t n s.toNatClampNeg 258 = true then eRow t n th f S' s.toNatClampNeg else some s.toNatClampNeg)
def LROW (bar : Int32) (t : Nat → Int32) (g : Nat → Int64) (n : Nat) (th : Int32) (rT : Nat → Int32) (p s tok v flt bits j p' s' tok' v' flt' : Int32) : Prop := ∀ f S, NKR th.toNatClampNeg rT f → BS bar S → IN t g n p s tok v flt → LRo t n th f S s.toNatClampNeg bar bits j p' s' tok' v' flt'
/-- a THING asked is a row's first step -/
theorem ask_row {t : Nat → Int32} {n a : Nat} {th : Int32} {f : Nat → Int64} {S : Nat → Bool} {bar r p s tok v flt : Int32} (ha : a ≤ n) (ht : iR th 0 10) (hb : BS bar S) (h : ASKo t n th f a bar r p s tok v flt) : (0 < flt ∧ eRow t n th f S a = none) ∨ (flt = 0 ∧ TK t n p s tok v ∧ a < s.toNatClampNeg ∧ ∃ k, k < 10 ∧ r = nI k ∧ S k = false ∧ eRow t n th f S a = if tq t n s.toNatClampNeg 258 = true then eRow t n th f (ins k S) s.toNatClampNeg else some s.toNatClampNeg) := by
  have c := iR_cn ht (by decide)
  have c2 := ht.2
  have st : eRow t n th f S a = sRowK t n th.toNatClampNeg f S a (sRow t n th.toNatClampNeg f) := sRow_eq ha
  rcases h with ⟨h1, h2⟩ | ⟨h1, h2, h3, h4, k, h5, h6, h7, h8⟩
  · refine Or.inl ⟨h1, ?_⟩
    rw [st]
    unfold sRowK
    rcases h2 with h2 | ⟨k, h5, h6, h7⟩
    · have h2 : sLook t n th.toNatClampNeg f a = none := h2
      rw [h2]
    · have h6 : sLook t n th.toNatClampNeg f a = some k := h6
      rw [h6]
      show (if S k = true then none else if kB t n (nx t n a) = true then none else if tq t n (nx t n a) 258 = true then sRow t n th.toNatClampNeg f (ins k S) (nx t n a) else some (nx t n a)) = none
      rcases h7 with h7 | h7
      · rw [hb k (by omega)] at h7; rw [if_pos h7]
      · split
        · rfl
        · first | rfl | rw [if_pos h7]
  · have sk : S k = false := by rw [← hb k (by omega)]; exact h8
    refine Or.inr ⟨h1, h2, by rw [h3]; exact nx_gt h4, k, by omega, h7, sk, ?_⟩
    rw [st]
    unfold sRowK
    have h6 : sLook t n th.toNatClampNeg f a = some k := h6
    have kb : kB t n (nx t n a) = false := by rw [← h3]; exact h2.2.2.1
    rw [h6, h3]
    show (if S k = true then none else if kB t n (nx t n a) = true then none else if tq t n (nx t n a) 258 = true then sRow t n th.toNatClampNeg f (ins k S) (nx t n a) else some (nx t n a)) = _
    rw [if_neg (by rw [sk]; decide), if_neg (by rw [kb]; decide)]
    rfl
theorem l_r0 {bar : Int32} {t : Nat → Int32} {g : Nat → Int64} {n : Nat} {th : Int32} {rT : Nat → Int32} {p s tok v flt r bits p' s' tok' v' flt' : Int32} (h : RASK bar t g n th rT p s tok v flt r p' s' tok' v' flt') (hb : BTO r bits) (ht : iR th 0 10) : LROW bar t g n th rT p s tok v flt bits 0 p' s' tok' v' flt' := by
  intro f S hr hS i
  rcases ask_row (IN_k i).2.2 ht hS (h f hr i) with q | ⟨q1, q2, q3, k, q4, q5, q6, q7⟩
  · exact Or.inl ⟨q.1, by rw [q.2]; exact NFo_0⟩
  · refine Or.inr ⟨q1, q2, q3, ins k S, BS_ins' hS q4 (hb k (by omega) q5), ?_, q7⟩
    rw [cnt_ins q6 q4]
    have z : (0 : Int32).toNatClampNeg = 0 := by decide
    omega
theorem l_r1 {bar : Int32} {t : Nat → Int32} {g : Nat → Int64} {n : Nat} {th : Int32} {rT : Nat → Int32} {p s tok v flt bits j p1 s1 tok1 v1 flt1 bar2 r b2 bits' j' p' s' tok' v' flt' : Int32} (h : LROW bar t g n th rT p s tok v flt bits j p1 s1 tok1 v1 flt1) (h2 : RASK bar2 t g n th rT p1 s1 tok1 v1 flt1 r p' s' tok' v' flt') (e2 : bar2 = bits ||| bar) (hb : BTO r b2) (eb : bits' = bits ||| b2) (ht : iR th 0 10) (gd : flt1 = 0 ∨ tok1 = 259) (e : tok1 = 258) (ej : j'.toNatClampNeg = j.toNatClampNeg + 1) : LROW bar t g n th rT p s tok v flt bits' j' p' s' tok' v' flt' := by
  intro f S hr hS i
  rcases h f S hr hS i with q | ⟨q1, q2, q3, S', q4, q5, q6⟩
  · exfalso
    rcases gd with z | z
    · exact f_ne q.1 z
    · rw [z] at e; exact absurd e (by decide)
  · have i1 := IN_of i q1 q2
    have et : tkc t n s1.toNatClampNeg = 258 := q2.2.2.2.1.symm.trans e
    rw [if_pos (tq_t et)] at q6
    rcases ask_row (IN_k i1).2.2 ht q4 (by rw [← e2]; exact h2 f hr i1) with u | ⟨u1, u2, u3, k, u4, u5, u6, u7⟩
    · exact Or.inl ⟨u.1, by rw [q6, u.2]; exact NFo_0⟩
    · refine Or.inr ⟨u1, u2, by omega, ins k S', ?_, ?_, by rw [q6, u7]⟩
      · rw [eb]
        exact BS_or3 (BS_ins q4 u4 (hb k (by omega) u5))
      · rw [cnt_ins u6 u4, ej]; omega
theorem l_r2 {bar : Int32} {t : Nat → Int32} {g : Nat → Int64} {n : Nat} {th : Int32} {rT : Nat → Int32} {p s tok v flt bits j p' s' tok' v' flt' : Int32} (h : LROW bar t g n th rT p s tok v flt bits j p' s' tok' v' flt') (e : ¬ tok' = 258) : RROW bar t g n th rT p s tok v flt p' s' tok' v' flt' := by
  intro f S hr hS i
  rcases h f S hr hS i with q | ⟨q1, q2, q3, S', q4, q5, q6⟩
  · exact Or.inl q
  · rw [q2.2.2.2.1] at e
    rw [if_neg (by rw [tq_x e]; decide)] at q6
    exact Or.inr ⟨q1, q2, q6, q3⟩
theorem l_r3 {bar : Int32} {t : Nat → Int32} {g : Nat → Int64} {n : Nat} {th : Int32} {rT : Nat → Int32} {p s tok v flt bits j p' s' tok' v' flt' : Int32} (h : LROW bar t g n th rT p s tok v flt bits j p' s' tok' v' flt') (e : 10 ≤ j.toNatClampNeg) : RROW bar t g n th rT p s tok v flt p' s' tok' v' flt' := by
  intro f S hr hS i
  rcases h f S hr hS i with q | ⟨q1, q2, q3, S', q4, q5, q6⟩
  · exact Or.inl q
  · have := cnt_le S' 10
    omega
