/-! what a text tells hangs on its own bytes alone -/
section
variable {t t' : Nat → Int32} {n : Nat}
theorem rnF_c (P : Int32 → Bool) (h : ∀ k, k < n → t k = t' k) : ∀ f p, rnF P t n f p = rnF P t' n f p := by
  intro f
  induction f with
  | zero => intro p; rfl
  | succ f ih =>
    intro p
    show (if p < n ∧ P (t p) = true then rnF P t n f (p + 1) else p) = (if p < n ∧ P (t' p) = true then rnF P t' n f (p + 1) else p)
    by_cases c : p < n
    · rw [h p c, ih]
    · rw [if_neg (fun q => c q.1), if_neg (fun q => c q.1)]
theorem rn_c (P : Int32 → Bool) (h : ∀ k, k < n → t k = t' k) (p : Nat) : rn P t n p = rn P t' n p := rnF_c P h _ p
theorem fdF_c {α : Type} (P : Int32 → Bool) (g : Nat → Int32 → α → α) (h : ∀ k, k < n → t k = t' k) : ∀ f k p a, fdF P g t n f k p a = fdF P g t' n f k p a := by
  intro f
  induction f with
  | zero => intro k p a; rfl
  | succ f ih =>
    intro k p a
    show (if p < n ∧ P (t p) = true then fdF P g t n f (k + 1) (p + 1) (g k (t p) a) else a) = (if p < n ∧ P (t' p) = true then fdF P g t' n f (k + 1) (p + 1) (g k (t' p) a) else a)
    by_cases c : p < n
    · rw [h p c, ih]
    · rw [if_neg (fun q => c q.1), if_neg (fun q => c q.1)]
theorem kE_c (h : ∀ k, k < n → t k = t' k) (a : Nat) : kE t n a = kE t' n a := by
  unfold kE
  by_cases c : n ≤ a
  · rw [if_pos c, if_pos c]
  · rw [if_neg c, if_neg c, h a (by omega), rn_c cL h, rn_c cD h]
theorem kW_c (h : ∀ k, k < n → t k = t' k) (a : Nat) : kW t n a = kW t' n a := fdF_c cL (gw true) h _ 0 a 0
theorem kV_c (h : ∀ k, k < n → t k = t' k) (a : Nat) : kV t n a = kV t' n a := fdF_c cD (gv false) h _ 0 a 0
theorem aJ_c (h : ∀ k, k < n → t k = t' k) (a : Nat) : aJ t n a = aJ t' n a := by
  unfold aJ
  by_cases c : a < n ∧ 0 < a
  · rw [h a c.1, h (a - 1) (by omega)]
  · rw [decide_eq_false c]
    simp only [Bool.false_and]
theorem kB_c (h : ∀ k, k < n → t k = t' k) (a : Nat) : kB t n a = kB t' n a := by
  by_cases c : a < n
  · unfold kB
    rw [aJ_c h, kE_c h, kW_c h, h a c]
  · rw [kB_lt (by omega), kB_lt (by omega)]
theorem tkc_c (h : ∀ k, k < n → t k = t' k) (a : Nat) : tkc t n a = tkc t' n a := by
  unfold tkc
  by_cases c : n ≤ a
  · rw [if_pos c, if_pos c]
  · rw [if_neg c, if_neg c, h a (by omega), kW_c h]
theorem nx_c (h : ∀ k, k < n → t k = t' k) (a : Nat) : nx t n a = nx t' n a := by
  unfold nx
  rw [kE_c h, rn_c cB h]
/-- two texts that read alike -/
def AGT (t t' : Nat → Int32) (n : Nat) : Prop := kB t n = kB t' n ∧ tq t n = tq t' n ∧ nx t n = nx t' n ∧ kW t n = kW t' n ∧ kV t n = kV t' n
theorem AGT_of (h : ∀ k, k < n → t k = t' k) : AGT t t' n :=
  ⟨funext (kB_c h), funext fun a => funext fun c => by unfold tq; rw [tkc_c h], funext (nx_c h), funext (kW_c h), funext (kV_c h)⟩
theorem stO_c (h : AGT t t' n) (op : Int) (k ph bg : Int32) (o0 : Int) (r : List Fr) (a : Nat) (K : KT) : stO t n op k ph bg o0 r a K = stO t' n op k ph bg o0 r a K := by
  obtain ⟨h1, h2, h3, -, -⟩ := h
  unfold stO tP
  simp only [h1, h2, h3]
theorem stB_c (h : AGT t t' n) (op : Int) (k ph bg : Int32) (o0 : Int) (r : List Fr) (a : Nat) (K : KT) : stB t n op k ph bg o0 r a K = stB t' n op k ph bg o0 r a K := by
  obtain ⟨h1, h2, h3, -, -⟩ := h
  unfold stB tO tC
  simp only [h1, h2, h3]
theorem evF_c (h : AGT t t' n) : ∀ f, evF t n f = evF t' n f := by
  intro f
  induction f with
  | zero => rfl
  | succ f ih =>
    funext m op st a
    show stK t n m op st a (evF t n f) = stK t' n m op st a (evF t' n f)
    rw [ih]
    rcases st with _ | ⟨⟨k, ph, bg, o0⟩, r⟩
    · rfl
    · show (if m = true then stB t n op k ph bg o0 r a (evF t' n f) else stO t n op k ph bg o0 r a (evF t' n f)) = (if m = true then stB t' n op k ph bg o0 r a (evF t' n f) else stO t' n op k ph bg o0 r a (evF t' n f))
      rw [stB_c h, stO_c h]
theorem SUMr_c (h : AGT t t' n) : SUMr t n = SUMr t' n := by
  funext a
  unfold SUMr EV
  rw [evF_c h]
theorem TESTr_c (h : AGT t t' n) : TESTr t n = TESTr t' n := by
  funext a
  unfold TESTr EV
  rw [evF_c h]
theorem sMust_c (h : AGT t t' n) : sMust t n = sMust t' n := by
  obtain ⟨h1, h2, h3, -, -⟩ := h
  funext c a
  unfold sMust
  simp only [h1, h2, h3]
theorem sNum_c (h : AGT t t' n) : sNum t n = sNum t' n := by
  obtain ⟨h1, h2, h3, -, h5⟩ := h
  funext lo hi a
  unfold sNum
  simp only [h1, h2, h3, h5]
theorem sNew_c (h : AGT t t' n) : sNew t n = sNew t' n := by
  obtain ⟨h1, h2, h3, h4, -⟩ := h
  funext cT nT cW nW a
  unfold sNew
  simp only [h1, h2, h3, h4]
theorem sLook_c (h : AGT t t' n) : sLook t n = sLook t' n := by
  obtain ⟨h1, h2, -, h4, -⟩ := h
  funext cT nT a
  unfold sLook
  simp only [h1, h2, h4]
theorem sRowF_c (h : AGT t t' n) (cT : Nat) (nT : Nat → Int64) : ∀ f, sRowF t n cT nT f = sRowF t' n cT nT f := by
  intro f
  induction f with
  | zero => rfl
  | succ f ih =>
    funext S a
    show sRowK t n cT nT S a (sRowF t n cT nT f) = sRowK t' n cT nT S a (sRowF t' n cT nT f)
    unfold sRowK
    rw [ih, sLook_c h, h.1, h.2.1, h.2.2.1]
theorem sRow_c (h : AGT t t' n) : sRow t n = sRow t' n := by
  funext cT nT S a
  unfold sRow
  rw [sRowF_c h]
theorem sNeeds_c (h : AGT t t' n) : sNeeds t n = sNeeds t' n := by
  funext cT nT c S a
  unfold sNeeds
  rw [sRow_c h, h.1, h.2.1, h.2.2.1]
theorem sThing_c (h : AGT t t' n) : sThing t n = sThing t' n := by
  funext en a
  unfold sThing
  rw [sNew_c h, sMust_c h, sNum_c h, h.1, h.2.1, h.2.2.1]
theorem sWish_c (h : AGT t t' n) : sWish t n = sWish t' n := by
  funext en a
  unfold sWish
  rw [sNew_c h, sMust_c h, sNum_c h, sLook_c h, sNeeds_c h, h.2.2.1]
theorem sFirst_c (h : AGT t t' n) : sFirst t n = sFirst t' n := by
  funext en a
  unfold sFirst
  rw [sLook_c h, h.2.2.1]
theorem sBody_c (h : AGT t t' n) : sBody t n = sBody t' n := by
  funext en a
  unfold sBody
  rw [sThing_c h, sWish_c h, sFirst_c h, SUMr_c h, TESTr_c h, sNum_c h, h.2.1, h.2.2.1]
theorem sStmt_c (h : AGT t t' n) : sStmt t n = sStmt t' n := by
  funext en ns a
  unfold sStmt
  rw [sBody_c h, sMust_c h, h.1]
theorem sShF_c (h : AGT t t' n) : ∀ f, sShF t n f = sShF t' n f := by
  intro f
  induction f with
  | zero => rfl
  | succ f ih =>
    funext en ns a
    show (if kB t n a = true then none else if n ≤ a then some (en, ns) else (sStmt t n en ns a).bind fun x => sShF t n f x.1 (ns + 1) x.2) = (if kB t' n a = true then none else if n ≤ a then some (en, ns) else (sStmt t' n en ns a).bind fun x => sShF t' n f x.1 (ns + 1) x.2)
    rw [ih, sStmt_c h, h.1]
theorem sText_c (h : ∀ k, k < n → t k = t' k) : sText t n = sText t' n := by
  unfold sText sSh
  rw [sShF_c (AGT_of h), rn_c cB h]
end
/-- both answer alike -/
theorem SHR_eq {t t' : Nat → Int32} {n m r r' : Int32} {P P' : EN → Prop} (h : TRL t t' n m) (hn : iR n 0 1600) (h1 : SHR t n.toNatClampNeg r P) (h2 : SHR t' m.toNatClampNeg r' P') : r = r' ∧ (r = -1 ∨ ∃ en, P en ∧ P' en) := by
  obtain ⟨e, hk⟩ := h
  subst e
  have c := iR_cn hn (by decide)
  have c2 := hn.2
  have q := sText_c (t := t) (t' := t') (n := n.toNatClampNeg) (fun k hk9 => hk k (by omega))
  unfold SHR at h1 h2
  rw [← q] at h2
  rcases h1 with ⟨a1, a2⟩ | ⟨a1, en, a2, a3⟩
  · rcases h2 with ⟨b1, b2⟩ | ⟨b1, en', b2, b3⟩
    · exact ⟨a1.trans b1.symm, Or.inl a1⟩
    · rw [a2] at b2; exact absurd b2 (by simp)
  · rcases h2 with ⟨b1, b2⟩ | ⟨b1, en', b2, b3⟩
    · rw [b2] at a2; exact absurd a2 (by simp)
    · rw [a2] at b2
      have z : en = en' ∧ r.toNatClampNeg = r'.toNatClampNeg := by simpa using b2
      have z0 : (0 : Int32).toInt = 0 := by decide
      have d1 := Int32.le_iff_toInt_le.mp a1
      have d2 := Int32.le_iff_toInt_le.mp b1
      have u1 := iR_cn (x := r) (a := 0) (b := 2147483647) ⟨by omega, k_rhi9 _⟩ (by decide)
      have u2 := iR_cn (x := r') (a := 0) (b := 2147483647) ⟨by omega, k_rhi9 _⟩ (by decide)
      refine ⟨Int32.toInt_inj.mp (by have := z.2; omega), Or.inr ⟨en, a3, ?_⟩⟩
      rw [z.1]; exact b3
