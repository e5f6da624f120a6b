/-! xlib: what the class' past keeps, and other rows that its walks want -/
def LB (lt : Nat → Int32) (lg : Int32) (B : Int) : Prop := lg.toInt ≤ B ∧ ∀ j, (lt j).toInt ≤ B
theorem LB_rem {lt : Nat → Int32} {lg : Int32} {B : Int} {k : Nat} (h : LB lt lg B) : LB (upd lt k lg) lg B := by
  refine ⟨h.1, fun j => ?_⟩
  unfold upd
  split
  · exact h.1
  · exact h.2 j
theorem LB_bb {lt : Nat → Int32} {lg : Int32} {B : Int} {k : Nat} (h : LB lt lg B) : LB lt (lt k) B := ⟨h.2 k, h.2⟩
theorem LB_w {lt : Nat → Int32} {lg : Int32} {B B' : Int} (h : LB lt lg B) (k : B ≤ B') : LB lt lg B' := ⟨by have := h.1; omega, fun j => by have := h.2 j; omega⟩
theorem LB_inc {lt : Nat → Int32} {lg lg' : Int32} {a b B : Int} (h : LB lt lg B) (e : lg' = lg + 1) (f : iR lg a b) (k : b < 2147483647 := by decide) : LB lt lg' (B + 1) := by
  have q1 : (1 : Int32).toInt = 1 := by decide
  have f2 := k_rlo9 lg
  have r := i_add (al := lg.toInt) (ah := lg.toInt) e ⟨Int.le_refl _, Int.le_refl _⟩ (iR_c (x := 1) (n := 1) (a := 1) (b := 1) (by decide) (by decide)) (by unfold iR at f; omega)
  exact ⟨by have := h.1; omega, fun j => by have := h.2 j; omega⟩
theorem LB_0 {lt : Nat → Int32} {lg z : Int32} {B : Int} (h : LB lt lg B) (hz : z.toInt = 0) (hl : 0 ≤ lg.toInt) : LB lt z B := ⟨by have := h.1; omega, h.2⟩
theorem m_dnk {x y k : Int32} {B a b c : Int} {n : Nat} (hm : (x.toInt - B).toNat < n + 1) (e : y = x + k) (hx : iR x a b) (hk : iR k c c) (q : B < a ∧ c ≤ -1 ∧ -2147483648 ≤ a + c ∧ b + c ≤ 2147483647) : (y.toInt - B).toNat < n := by
  have r := i_add e hx hk ⟨q.2.2.1, q.2.2.2⟩
  unfold iR at *; omega
theorem lR_and {y a b : Int64} {n : Int} (e : y = a &&& b) (hb : b.toInt = n) (k : 0 ≤ n) : lR y 0 n := by
  have hb2 : b.toBitVec.toInt = n := hb
  have h2 : 2 * b.toBitVec.toNat < 18446744073709551616 := by
    have := b.toBitVec.isLt
    rw [BitVec.toInt_eq_toNat_cond] at hb2
    split at hb2 <;> omega
  have h3 : (b.toBitVec.toNat : Int) = n := by
    rw [BitVec.toInt_eq_toNat_cond] at hb2
    split at hb2 <;> omega
  have h1 : y.toBitVec.toNat ≤ b.toBitVec.toNat := by
    subst e
    show (a.toBitVec &&& b.toBitVec).toNat ≤ _
    rw [BitVec.toNat_and]; exact Nat.and_le_right
  have h4 : y.toInt = y.toBitVec.toInt := rfl
  unfold lR
  rw [h4, BitVec.toInt_eq_toNat_cond]
  split <;> omega
section KLIBF
variable {p : Program} {l : Launch} {e : Env} {s : State} {m : MethodId} {args : Array Value} {below : List Frame} {meth : Method} {c : Code} {H : Heap} {locs : List Loc}
variable {cc : ByteArray} {ls : Array Slot} {D : va_G} {cl : List vw_C} {A : Nat → Prop} {tys : List (ClassId × FieldType)} {ws : va_W}
/-- a body of a class that the model has rows of its own for, by the method and not by the class -/
theorem k_enterF {y : MethodName} {wd wd' : List Cond} {rm : Room} {maxL mc ms : Nat} {ret : Option FieldType} {av : List Value} {Qc : (Nat → Prop) → Array Value → State → Outcome → State → Prop} (sz : Nat)
    (hy : plainFor y = true) (hw : wd = Cond.code y cc maxL ret :: wd') (hlen : (lg_sl av).length ≤ maxL)
    (body : ∀ (p : Program) (e : Env) (s : State) (m : MethodId) (args : Array Value) (below : List Frame) (meth : Method) (c : Code) (A : Nat → Prop) (ls : Array Slot) (H : Heap) (locs : List Loc), k_Be p s m args meth c y wd cc maxL ret D cl tys A → va_P D cl ws H → va_D A ws → va_S A s.heap H locs → lv_has ls maxL (lv_args 0 av) → W p l e rm s m args below meth c H locs 0 0 (MQ below (Qc A) args s mc ms A) (F0 m 0 ls [])) : Met l y wd rm (k_pre D cl tys sz ws av) (Qc (va_A ws sz)) mc ms (va_A ws sz) := by
  refine MetFree.of_bodySF (code := cc) (maxLocals := maxL) (ret := ret) hy ?_ ?_
  · intro args s m h hn
    obtain ⟨meth, c, h1, h2, h3, h4, h5, h6, -, -⟩ := Cond.code_spec hn (atoms_spec (ws := wd) h _ (by rw [hw]; exact List.mem_cons_self))
    exact ⟨meth, c, h1, h2, h3, h4, h5, h6⟩
  · intro p e s m args below meth c s₁ B hml hv _
    have hh0 : s₁.heap = s.heap := by rw [B.state]; rfl
    obtain ⟨rfl, hsz, hP, hK, hN, hC, hD0⟩ := hv
    have hown : s.vm.findClass y.cls = some m.cls := findClass_of_methodNamed B.named
    have hmn := (name_of_methodNamed B.named B.method).1
    have hts := atoms_spec (ws := wd) B.pre
    subst hsz
    have hD := hD0.self (sz := s.heap.size)
    have hl := lv_entry av (n := maxL) hlen
    have hb2 := body p e s m av.toArray below meth c (va_A ws s.heap.size) ((lg_sl av ++ List.replicate (maxL - (lg_sl av).length) Slot.unset).toArray) s.heap [] ⟨B.exec, B.bytes, hml, hown, hts, B.returns, B.notSynchronized, fun nm h => hmn.trans h, hK, fun q h => Or.inr h, hN, hC⟩ hP hD va_S.rf hl
    rw [← lg_entry_eq] at hb2
    obtain ⟨t, a1, o, b1, b2, b3⟩ := hb2 s₁ hh0 (Stand.of_body B)
    exact ⟨t, o, a1, b1, b2, ⟨b3.1, b3.2⟩⟩
end KLIBF
