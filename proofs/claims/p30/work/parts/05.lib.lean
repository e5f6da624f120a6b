/-! lib: contracts in one form (a world of cells in, a world of cells out), one row a call, one row a return -/
theorem k_fm {α : Type} {f : Nat → Option α} : ∀ {is : List Nat} {w : List α}, is.map f = w.map some → is.filterMap f = w
  | [], [], _ => rfl
  | [], _ :: _, h => by cases h
  | _ :: _, [], h => by cases h
  | i :: is, x :: w, h => by
    obtain ⟨h1, h2⟩ := List.cons.inj h
    rw [List.filterMap_cons, h1, k_fm h2]
theorem k_arrV {cA : ClassId} {n : Nat} {f g : Nat → Value} (h : ∀ k, k < n → f k = g k) : arrV cA n f = arrV cA n g := by
  unfold arrV
  congr 1
  apply Array.ext
  · simp
  · intro i h1 h2
    simp only [Array.getElem_ofFn]
    exact h i (by simpa using h1)
section KLIB
variable {p : Program} {l : Launch} {e : Env} {R : Room} {s : State} {m : MethodId} {args : Array Value} {below : List Frame} {meth : Method} {c : Code} {H : Heap} {locs : List Loc} {cells slots : Nat} {Q : State → Prop}
variable {cc : ByteArray} {pc : Nat} {ls : Array Slot} {rest st0 : List Value} {D : va_G} {cl : List vw_C} {A : Nat → Prop} {a : Nat} {tys : List (ClassId × FieldType)} {ws ws' : va_W} {H0 : Heap}
/-- the world that a method begins with, and what it leaves -/
def k_N (U : State) : Prop := (∀ q ∈ nlk, va_Nw (.methodLinkNest q.1 q.2.1 q.2.2.1 q.2.2.2) U) ∧ ∀ C ∈ aol, va_AO C U
/-- what lies in the old heap and stays: the text of the own words, two statics of the JDK's -/
def lenS : List Nat := [128]
def bytS : List (List Int32) := [[116, 104, 105, 110, 103, 32, 119, 111, 114, 116, 104, 32, 114, 104, 121, 109, 101, 115, 32, 98, 114, 105, 101, 102, 32, 119, 105, 115, 104, 32, 119, 111, 114, 100, 115, 32, 103, 105, 118, 101, 115, 32, 110, 101, 101, 100, 115, 32, 117, 115, 101, 115, 32, 102, 105, 114, 115, 116, 32, 100, 97, 114, 107, 32, 114, 111, 111, 109, 32, 99, 111, 110, 116, 101, 110, 116, 32, 98, 101, 97, 114, 115, 32, 99, 97, 108, 109, 32, 104, 97, 100, 32, 115, 101, 97, 32, 115, 97, 105, 100, 32, 100, 97, 121, 32, 111, 114, 32, 97, 110, 100, 32, 110, 111, 116, 32, 97, 108, 108, 32, 109, 105, 110, 32, 109, 97, 120, 32]]
def strS : String := "thing worth rhymes brief wish words gives needs uses first dark room content bears calm had sea said day or and not all min max "
def k_C (D : va_G) (A : Nat → Prop) (U : State) (H : Heap) : Prop := vk_S 1 lenS bytS (D.2 1000) (D.2 1001) A U H ∧ vk_R RX2 30 strS (D.2 1000 0) U ∧ va_Z "java/lang/String" "COMPACT_STRINGS" "Z" (.int 1) A U H ∧ va_Zq "jdk/internal/util/Preconditions" "SIOOBE_FORMATTER" "Ljava/util/function/BiFunction;" A U H
theorem k_C.kn {D : va_G} {A B : Nat → Prop} {U : State} {H H1 : Heap} (h : k_C D A U H) (hk : ∀ a : Nat, a < H.size → ¬ A a → H1[a]? = H[a]?) (hAB : ∀ q, B q → A q) : k_C D B U H1 := ⟨(h.1.kept hk).narrow hAB, h.2.1, (h.2.2.1.kept hk).narrow hAB, (h.2.2.2.kept hk).narrow hAB⟩
theorem k_C.warm {D : va_G} {A : Nat → Prop} {s U : State} {H : Heap} (hW : s.WarmedH U.vm) (h : k_C D A s H) : k_C D A U H := ⟨h.1.moved hW.alike, h.2.1.warm hW, h.2.2.1.moved hW.alike, h.2.2.2.moved hW.alike⟩
theorem k_C.same {D : va_G} {A : Nat → Prop} {u U : State} {H : Heap} (hv : U.vm = u.vm) (h : k_C D A u H) : k_C D A U H := by
  have ha : u.vm.Alike U.vm := by rw [hv]; exact Vm.Alike.refl u.vm
  exact ⟨h.1.moved ha, h.2.1.same hv, h.2.2.1.moved ha, h.2.2.2.moved ha⟩
def k_pre (D : va_G) (cl : List vw_C) (tys : List (ClassId × FieldType)) (sz : Nat) (ws : va_W) (av : List Value) : Array Value → State → Prop := va_Pc av (fun U => U.heap.size = sz ∧ va_P D cl ws U.heap ∧ va_K D cl tys U ∧ k_N U ∧ k_C D (va_A ws sz) U U.heap ∧ va_D (fun _ => True) ws)
def k_B (D : va_G) (cl : List vw_C) (tys : List (ClassId × FieldType)) (A : Nat → Prop) (ws : va_W) (t : State) : Prop := va_P D cl ws t.heap ∧ va_D A ws
/-- contracts: an int (or boolean), a long, nothing, a reference -/
def k_Mi (l : Launch) (y : MethodName) (wd : List Cond) (rm : Room) (D : va_G) (cl : List vw_C) (tys : List (ClassId × FieldType)) (ws : va_W) (av : List Value) (mc ms : Nat) {S : Type} (w1 : S → va_W) (post : Int32 → S → Prop) : Prop := ∀ sz : Nat, Met l y wd rm (k_pre D cl tys sz ws av) (va_Qi post (fun u => k_B D cl tys (va_A ws sz) (w1 u)) (va_A ws sz)) mc ms (va_A ws sz)
def k_Ml (l : Launch) (y : MethodName) (wd : List Cond) (rm : Room) (D : va_G) (cl : List vw_C) (tys : List (ClassId × FieldType)) (ws : va_W) (av : List Value) (mc ms : Nat) {S : Type} (w1 : S → va_W) (post : Int64 → S → Prop) : Prop := ∀ sz : Nat, Met l y wd rm (k_pre D cl tys sz ws av) (va_Ql post (fun u => k_B D cl tys (va_A ws sz) (w1 u)) (va_A ws sz)) mc ms (va_A ws sz)
def k_Mv (l : Launch) (y : MethodName) (wd : List Cond) (rm : Room) (D : va_G) (cl : List vw_C) (tys : List (ClassId × FieldType)) (ws : va_W) (av : List Value) (mc ms : Nat) {S : Type} (w1 : S → va_W) (post : S → Prop) : Prop := ∀ sz : Nat, Met l y wd rm (k_pre D cl tys sz ws av) (va_Qv post (fun u => k_B D cl tys (va_A ws sz) (w1 u)) (va_A ws sz)) mc ms (va_A ws sz)
def k_Mr (l : Launch) (y : MethodName) (wd : List Cond) (rm : Room) (D : va_G) (cl : List vw_C) (tys : List (ClassId × FieldType)) (ws : va_W) (av : List Value) (mc ms : Nat) {S : Type} (w1 : S → va_W) (post : Nat → S → Prop) : Prop := ∀ sz : Nat, Met l y wd rm (k_pre D cl tys sz ws av) (va_Qr (fun _ : S => True) (fun u a t => post a u ∧ k_B D cl tys (va_A ws sz) (w1 u) t) (va_A ws sz)) mc ms (va_A ws sz)
/-- what a body is given -/
def k_Be (p : Program) (s : State) (m : MethodId) (args : Array Value) (meth : Method) (c : Code) (y : MethodName) (wd : List Cond) (cc : ByteArray) (maxL : Nat) (ret : Option FieldType) (D : va_G) (cl : List vw_C) (tys : List (ClassId × FieldType)) (A : Nat → Prop) : Prop :=
  p.tables.exec = Jvm.exec ∧ c.code = cc ∧ c.maxLocals = maxL ∧ s.vm.findClass y.cls = some m.cls ∧ (∀ w ∈ wd, w.before args s = true) ∧ meth.sig.returnType = ret ∧ meth.locks = false ∧ (∀ nm : String, y.name = nm → meth.name = nm) ∧ va_K D cl tys s ∧ (∀ q : Nat, s.heap.size ≤ q → A q) ∧ k_N s ∧ k_C D A s s.heap
theorem k_enter {y : MethodName} {wd wd' : List Cond} {rm : Room} {maxL mc ms : Nat} {ret : Option FieldType} {av : List Value} {Qc : (Nat → Prop) → Array Value → State → Outcome → State → Prop} (sz : Nat)
    (hy : plainName y.cls = true) (hw : wd = Cond.code y cc maxL ret :: wd') (hlen : (lg_sl av).length ≤ maxL)
    (body : ∀ (p : Program) (e : Env) (s : State) (m : MethodId) (args : Array Value) (below : List Frame) (meth : Method) (c : Code) (A : Nat → Prop) (ls : Array Slot) (H : Heap) (locs : List Loc), k_Be p s m args meth c y wd cc maxL ret D cl tys A → va_P D cl ws H → va_D A ws → va_S A s.heap H locs → lv_has ls maxL (lv_args 0 av) → W p l e rm s m args below meth c H locs 0 0 (MQ below (Qc A) args s mc ms A) (F0 m 0 ls [])) : Met l y wd rm (k_pre D cl tys sz ws av) (Qc (va_A ws sz)) mc ms (va_A ws sz) := by
  refine Met.ofW (cc := cc) (maxL := maxL) (ret := ret) hy hw ?_
  intro p e s m args below meth c s₁ B hml hv
  obtain ⟨rfl, hsz, hP, hK, hN, hC, hD0⟩ := hv
  have hown : s.vm.findClass y.cls = some m.cls := findClass_of_methodNamed B.named
  have hmn := (name_of_methodNamed B.named B.method).1
  have hts := atoms_spec (ws := wd) B.pre
  subst hsz
  have hD := hD0.self (sz := s.heap.size)
  have hl := lv_entry av (n := maxL) hlen
  have hb2 := body p e s m av.toArray below meth c (va_A ws s.heap.size) ((lg_sl av ++ List.replicate (maxL - (lg_sl av).length) Slot.unset).toArray) s.heap [] ⟨B.exec, B.bytes, hml, hown, hts, B.returns, B.notSynchronized, fun nm h => hmn.trans h, hK, fun q h => Or.inr h, hN, hC⟩ hP hD va_S.rf hl
  rw [lg_entry_eq]
  exact hb2
theorem k_int {x v : Int32} (h : x = v) (k : W p l e R s m args below meth c H locs cells slots Q (F0 m pc ls (.int v :: rest))) : W p l e R s m args below meth c H locs cells slots Q (F0 m pc ls (.int x :: rest)) := by subst h; exact k
theorem k_long {x v : Int64} (h : x = v) (k : W p l e R s m args below meth c H locs cells slots Q (F0 m pc ls (.long v :: rest))) : W p l e R s m args below meth c H locs cells slots Q (F0 m pc ls (.long x :: rest)) := by subst h; exact k

theorem k_iald (hx : p.tables.exec = Jvm.exec) (hb : c.code = cc) (hK : va_K D cl tys s) (hP : va_P D cl ws H) (q0 t0 j : Nat) {cA : ClassId} {n : Nat} {f : Nat → Int32} (ha : ws[q0]? = some (a, .inl (cA, n, .inl f))) (ht : tys[t0]? = some (cA, .int)) {i v : Int32} (hi : i = nI j) (hj : j < n) (hn : n < 2147483648) (hv : f j = v) (hdg : decode cc pc = .ok (.iaload, 1))
    (kk : W p l e R s m args below meth c H locs cells slots Q (F0 m (pc + 1) ls (.int v :: rest))) : W p l e R s m args below meth c H locs cells slots Q (F0 m pc ls (.int i :: .ref a :: rest)) := by
  subst hv; subst hi
  refine va_iald hx hb hK hP q0 t0 ha ht (vp_in_nI hj hn) hdg ?_
  rw [nI_clamp (Nat.lt_trans hj hn)]; exact kk
theorem k_lald (hx : p.tables.exec = Jvm.exec) (hb : c.code = cc) (hK : va_K D cl tys s) (hP : va_P D cl ws H) (q0 t0 j : Nat) {cA : ClassId} {n : Nat} {f : Nat → Int64} (ha : ws[q0]? = some (a, .inl (cA, n, .inr (.inl f)))) (ht : tys[t0]? = some (cA, .long)) {i : Int32} {v : Int64} (hi : i = nI j) (hj : j < n) (hn : n < 2147483648) (hv : f j = v) (hdg : decode cc pc = .ok (.laload, 1))
    (kk : W p l e R s m args below meth c H locs cells slots Q (F0 m (pc + 1) ls (.long v :: rest))) : W p l e R s m args below meth c H locs cells slots Q (F0 m pc ls (.int i :: .ref a :: rest)) := by
  subst hv; subst hi
  refine va_lald hx hb hK hP q0 t0 ha ht (vp_in_nI hj hn) hdg ?_
  rw [nI_clamp (Nat.lt_trans hj hn)]; exact kk
theorem k_zald (hx : p.tables.exec = Jvm.exec) (hb : c.code = cc) (hK : va_K D cl tys s) (hP : va_P D cl ws H) (q0 t0 j : Nat) {cA : ClassId} {n : Nat} {f : Nat → Int32} (ha : ws[q0]? = some (a, .inl (cA, n, .inl f))) (ht : tys[t0]? = some (cA, .boolean)) {i v : Int32} (hi : i = nI j) (hj : j < n) (hn : n < 2147483648) (hv : f j = v) (hdg : decode cc pc = .ok (.baload, 1))
    (kk : W p l e R s m args below meth c H locs cells slots Q (F0 m (pc + 1) ls (.int v :: rest))) : W p l e R s m args below meth c H locs cells slots Q (F0 m pc ls (.int i :: .ref a :: rest)) := by
  subst hv; subst hi
  refine va_zald hx hb hK hP q0 t0 ha ht (vp_in_nI hj hn) hdg ?_
  rw [nI_clamp (Nat.lt_trans hj hn)]; exact kk
theorem k_iast (hx : p.tables.exec = Jvm.exec) (hb : c.code = cc) (hK : va_K D cl tys s) (hP : va_P D cl ws H) (hD : va_D A ws) (hS : va_S A H0 H locs) (q0 t0 j : Nat) {cA : ClassId} {n : Nat} {f g : Nat → Int32} (ha : ws[q0]? = some (a, .inl (cA, n, .inl f))) (ht : tys[t0]? = some (cA, .int)) {i x : Int32} (hi : i = nI j) (hj : j < n) (hn : n < 2147483648) (hg : upd f j x = g) (hw : ws.set q0 (a, .inl (cA, n, .inl g)) = ws') (hdg : decode cc pc = .ok (.iastore, 1))
    (kk : ∀ (H1 : Heap) (locs1 : List Loc), va_P D cl ws' H1 → va_D A ws' → va_S A H0 H1 locs1 → W p l e R s m args below meth c H1 locs1 cells slots Q (F0 m (pc + 1) ls rest)) : W p l e R s m args below meth c H locs cells slots Q (F0 m pc ls (.int x :: .int i :: .ref a :: rest)) := by
  subst hg; subst hi; subst hw
  refine va_iast hx hb hK hP hD hS q0 t0 ha ht (vp_in_nI hj hn) hdg fun H1 locs1 h1 h2 h3 => kk H1 locs1 ?_ ?_ h3
  · rw [nI_clamp (Nat.lt_trans hj hn)] at h1; exact h1
  · rw [nI_clamp (Nat.lt_trans hj hn)] at h2; exact h2
theorem k_last (hx : p.tables.exec = Jvm.exec) (hb : c.code = cc) (hK : va_K D cl tys s) (hP : va_P D cl ws H) (hD : va_D A ws) (hS : va_S A H0 H locs) (q0 t0 j : Nat) {cA : ClassId} {n : Nat} {f g : Nat → Int64} (ha : ws[q0]? = some (a, .inl (cA, n, .inr (.inl f)))) (ht : tys[t0]? = some (cA, .long)) {i : Int32} {x : Int64} (hi : i = nI j) (hj : j < n) (hn : n < 2147483648) (hg : vp_updL f j x = g) (hw : ws.set q0 (a, .inl (cA, n, .inr (.inl g))) = ws') (hdg : decode cc pc = .ok (.lastore, 1))
    (kk : ∀ (H1 : Heap) (locs1 : List Loc), va_P D cl ws' H1 → va_D A ws' → va_S A H0 H1 locs1 → W p l e R s m args below meth c H1 locs1 cells slots Q (F0 m (pc + 1) ls rest)) : W p l e R s m args below meth c H locs cells slots Q (F0 m pc ls (.long x :: .int i :: .ref a :: rest)) := by
  subst hg; subst hi; subst hw
  refine va_last hx hb hK hP hD hS q0 t0 ha ht (vp_in_nI hj hn) hdg fun H1 locs1 h1 h2 h3 => kk H1 locs1 ?_ ?_ h3
  · rw [nI_clamp (Nat.lt_trans hj hn)] at h1; exact h1
  · rw [nI_clamp (Nat.lt_trans hj hn)] at h2; exact h2
theorem k_zast (hx : p.tables.exec = Jvm.exec) (hb : c.code = cc) (hK : va_K D cl tys s) (hP : va_P D cl ws H) (hD : va_D A ws) (hS : va_S A H0 H locs) (q0 t0 j : Nat) {cA : ClassId} {n : Nat} {f g : Nat → Int32} (ha : ws[q0]? = some (a, .inl (cA, n, .inl f))) (ht : tys[t0]? = some (cA, .boolean)) {i x : Int32} (hi : i = nI j) (hj : j < n) (hn : n < 2147483648) (hg : upd f j (vp_nar .boolean x) = g) (hw : ws.set q0 (a, .inl (cA, n, .inl g)) = ws') (hdg : decode cc pc = .ok (.bastore, 1))
    (kk : ∀ (H1 : Heap) (locs1 : List Loc), va_P D cl ws' H1 → va_D A ws' → va_S A H0 H1 locs1 → W p l e R s m args below meth c H1 locs1 cells slots Q (F0 m (pc + 1) ls rest)) : W p l e R s m args below meth c H locs cells slots Q (F0 m pc ls (.int x :: .int i :: .ref a :: rest)) := by
  subst hg; subst hi; subst hw
  refine va_zast hx hb hK hP hD hS q0 t0 ha ht (vp_in_nI hj hn) hdg fun H1 locs1 h1 h2 h3 => kk H1 locs1 ?_ ?_ h3
  · rw [nI_clamp (Nat.lt_trans hj hn)] at h1; exact h1
  · rw [nI_clamp (Nat.lt_trans hj hn)] at h2; exact h2
theorem k_get (hx : p.tables.exec = Jvm.exec) (hb : c.code = cc) {own ref C : String} {T : u_T} {N ci index : Nat} {Ts : List Cond} (hts : ∀ w ∈ Ts, w.before args s = true) (hin : ∀ w ∈ u_ws C T N, w ∈ Ts) (hown : s.vm.findClass own = some m.cls) (hK : va_K D cl tys s) (hP : va_P D cl ws H) (q0 : Nat) {fs : List Value} (he : ws[q0]? = some (a, .inr (ci, fs))) (hc : cl[ci]? = some (C, T, N)) (k : Nat) (hk : k < N) (hlink : (Cond.fieldLink own index ref (T k).2.1 (T k).2.2.1).before args s = true) (hdecl : (T k).1 = ref) {v : Value} (hv : fs[k]? = some v) (hdg : decode cc pc = .ok (.getfield index, 3))
    (kk : W p l e R s m args below meth c H locs cells slots Q (F0 m (pc + 3) ls (v :: rest))) : W p l e R s m args below meth c H locs cells slots Q (F0 m pc ls (.ref a :: rest)) :=
  va_get hx hb hts hin hown hK hP q0 he hc k hk hlink (fun x h => by rw [hdecl] at h; exact h) hv hdg kk
theorem k_put (hx : p.tables.exec = Jvm.exec) (hb : c.code = cc) {own ref C : String} {T : u_T} {N ci index : Nat} {Ts : List Cond} (hts : ∀ w ∈ Ts, w.before args s = true) (hin : ∀ w ∈ u_ws C T N, w ∈ Ts) (ty0 : Nat → FieldType) (hty : ∀ k, k < N → parseFieldDescriptor (T k).2.2.1 = some (ty0 k)) (hnm : ∀ a, a < N → ∀ b, b < N → a ≠ b → (T a).2.1 ≠ (T b).2.1) (hown : s.vm.findClass own = some m.cls) (hK : va_K D cl tys s) (hP : va_P D cl ws H) (hD : va_D A ws) (hS0 : va_S A H0 H locs) (q0 : Nat) {fs : List Value} (he : ws[q0]? = some (a, .inr (ci, fs))) (hc : cl[ci]? = some (C, T, N)) (k : Nat) (hk : k < N) (hlink : (Cond.fieldLink own index ref (T k).2.1 (T k).2.2.1).before args s = true) (hdecl : (T k).1 = ref) (hfin : (T k).2.2.2 = false) {v : Value} (hn : narrow (ty0 k) v = v) (hfit : fits (ty0 k) v = true) (hl : k < fs.length) (hw : ws.set q0 (a, .inr (ci, fs.set k v)) = ws')
    (hdg : decode cc pc = .ok (.putfield index, 3)) (kk : ∀ (H1 : Heap) (locs1 : List Loc), va_P D cl ws' H1 → va_D A ws' → va_S A H0 H1 locs1 → W p l e R s m args below meth c H1 locs1 cells slots Q (F0 m (pc + 3) ls rest)) : W p l e R s m args below meth c H locs cells slots Q (F0 m pc ls (v :: .ref a :: rest)) := by
  subst hw
  exact va_put hx hb hts hin ty0 hty hnm hown hK hP hD hS0 q0 he hc k hk hlink (fun x h => by rw [hdecl] at h; exact h) hfin (hty k hk) hn hfit hl hdg kk
theorem k_putF (hx : p.tables.exec = Jvm.exec) (hb : c.code = cc) {own ref C : String} {T : u_T} {N ci index : Nat} {Ts : List Cond} (hts : ∀ w ∈ Ts, w.before args s = true) (hin : ∀ w ∈ u_ws C T N, w ∈ Ts) (ty0 : Nat → FieldType) (hty : ∀ k, k < N → parseFieldDescriptor (T k).2.2.1 = some (ty0 k)) (hnm : ∀ a, a < N → ∀ b, b < N → a ≠ b → (T a).2.1 ≠ (T b).2.1) (hown : s.vm.findClass own = some m.cls) (hK : va_K D cl tys s) (hP : va_P D cl ws H) (hD : va_D A ws) (hS0 : va_S A H0 H locs) (q0 : Nat) {fs : List Value} (he : ws[q0]? = some (a, .inr (ci, fs))) (hc : cl[ci]? = some (C, T, N)) (k : Nat) (hk : k < N) (hlink : (Cond.fieldLink own index ref (T k).2.1 (T k).2.2.1).before args s = true) (hdecl : (T k).1 = ref) (hfin : (T k).2.2.2 = true) (hin2 : meth.name = "<init>") (hdecl2 : (T k).1 = own) {v : Value} (hn : narrow (ty0 k) v = v) (hfit : fits (ty0 k) v = true) (hl : k < fs.length) (hw : ws.set q0 (a, .inr (ci, fs.set k v)) = ws')
    (hdg : decode cc pc = .ok (.putfield index, 3)) (kk : ∀ (H1 : Heap) (locs1 : List Loc), va_P D cl ws' H1 → va_D A ws' → va_S A H0 H1 locs1 → W p l e R s m args below meth c H1 locs1 cells slots Q (F0 m (pc + 3) ls rest)) : W p l e R s m args below meth c H locs cells slots Q (F0 m pc ls (v :: .ref a :: rest)) := by
  subst hw
  exact va_putF hx hb hts hin ty0 hty hnm hown hK hP hD hS0 q0 he hc k hk hlink (fun x h => by rw [hdecl] at h; exact h) hfin hin2 hdecl2 (hty k hk) hn hfit hl hdg kk
/-- new rows of numbers: their class is the one that is known already -/
theorem k_newI (hx : p.tables.exec = Jvm.exec) (hb : c.code = cc) (harr : (Cond.arrayClass .int).before args s = true) (hK : va_K D cl tys s) (hP : va_P D cl ws H) (hD : va_D A ws) (hS : va_S A H0 H locs) (hA : ∀ q, H0.size ≤ q → A q) (t0 : Nat) {cA : ClassId} (ht : tys[t0]? = some (cA, .int)) {n : Int32} (N : Nat) (hn : n = nI N) (hN : N < 134217728) (hcells : cells + 1 ≤ R.cells) (hslots : slots + N ≤ R.slots) (hdg : decode cc pc = .ok (.newarray .int, 2))
    (kk : ∀ (q : Nat) (H1 : Heap), va_P D cl (ws ++ [(q, .inl (cA, N, .inl (fun _ => 0)))]) H1 → va_D A (ws ++ [(q, .inl (cA, N, .inl (fun _ => 0)))]) → va_S A H0 H1 locs → W p l e R s m args below meth c H1 locs (cells + 1) (slots + N) Q (F0 m (pc + 2) ls (.ref q :: rest))) : W p l e R s m args below meth c H locs cells slots Q (F0 m pc ls (.int n :: rest)) := by
  subst hn
  have hN2 : N < 2147483648 := Nat.lt_trans hN (by decide)
  refine va_newa (atype := .int) (ty := .int) (a0 := (N, .inl (fun _ => 0))) hx hb harr rfl hK hP hD hS hA (fun cA => rfl) (nI_pos hN2) (nI_clamp hN2) (by show N * 4 ≤ 536870912; omega) hcells hslots hdg fun q cB H1 k1 k2 k3 k4 => ?_
  have e1 : s.vm.findClass ("[" ++ FieldType.int.toString) = some cA := (hK.2 _ _ ht).2
  have e2 : s.vm.findClass ("[" ++ FieldType.int.toString) = some cB := (k1.2 tys.length (cB, .int) (by simp)).2
  have e3 : cB = cA := Option.some.inj (e2.symm.trans e1)
  subst e3
  exact kk q H1 k2 k3 k4
theorem k_newJ (hx : p.tables.exec = Jvm.exec) (hb : c.code = cc) (harr : (Cond.arrayClass .long).before args s = true) (hK : va_K D cl tys s) (hP : va_P D cl ws H) (hD : va_D A ws) (hS : va_S A H0 H locs) (hA : ∀ q, H0.size ≤ q → A q) (t0 : Nat) {cA : ClassId} (ht : tys[t0]? = some (cA, .long)) {n : Int32} (N : Nat) (hn : n = nI N) (hN : N < 67108864) (hcells : cells + 1 ≤ R.cells) (hslots : slots + N ≤ R.slots) (hdg : decode cc pc = .ok (.newarray .long, 2))
    (kk : ∀ (q : Nat) (H1 : Heap), va_P D cl (ws ++ [(q, .inl (cA, N, .inr (.inl (fun _ => 0))))]) H1 → va_D A (ws ++ [(q, .inl (cA, N, .inr (.inl (fun _ => 0))))]) → va_S A H0 H1 locs → W p l e R s m args below meth c H1 locs (cells + 1) (slots + N) Q (F0 m (pc + 2) ls (.ref q :: rest))) : W p l e R s m args below meth c H locs cells slots Q (F0 m pc ls (.int n :: rest)) := by
  subst hn
  have hN2 : N < 2147483648 := Nat.lt_trans hN (by decide)
  refine va_newa (atype := .long) (ty := .long) (a0 := (N, .inr (.inl (fun _ => 0)))) hx hb harr rfl hK hP hD hS hA (fun cA => rfl) (nI_pos hN2) (nI_clamp hN2) (by show N * 8 ≤ 536870912; omega) hcells hslots hdg fun q cB H1 k1 k2 k3 k4 => ?_
  have e1 : s.vm.findClass ("[" ++ FieldType.long.toString) = some cA := (hK.2 _ _ ht).2
  have e2 : s.vm.findClass ("[" ++ FieldType.long.toString) = some cB := (k1.2 tys.length (cB, .long) (by simp)).2
  have e3 : cB = cA := Option.some.inj (e2.symm.trans e1)
  subst e3
  exact kk q H1 k2 k3 k4
theorem k_newZ (hx : p.tables.exec = Jvm.exec) (hb : c.code = cc) (harr : (Cond.arrayClass .boolean).before args s = true) (hK : va_K D cl tys s) (hP : va_P D cl ws H) (hD : va_D A ws) (hS : va_S A H0 H locs) (hA : ∀ q, H0.size ≤ q → A q) (t0 : Nat) {cA : ClassId} (ht : tys[t0]? = some (cA, .boolean)) {n : Int32} (N : Nat) (hn : n = nI N) (hN : N < 134217728) (hcells : cells + 1 ≤ R.cells) (hslots : slots + N ≤ R.slots) (hdg : decode cc pc = .ok (.newarray .boolean, 2))
    (kk : ∀ (q : Nat) (H1 : Heap), va_P D cl (ws ++ [(q, .inl (cA, N, .inl (fun _ => 0)))]) H1 → va_D A (ws ++ [(q, .inl (cA, N, .inl (fun _ => 0)))]) → va_S A H0 H1 locs → W p l e R s m args below meth c H1 locs (cells + 1) (slots + N) Q (F0 m (pc + 2) ls (.ref q :: rest))) : W p l e R s m args below meth c H locs cells slots Q (F0 m pc ls (.int n :: rest)) := by
  subst hn
  have hN2 : N < 2147483648 := Nat.lt_trans hN (by decide)
  refine va_newa (atype := .boolean) (ty := .boolean) (a0 := (N, .inl (fun _ => 0))) hx hb harr rfl hK hP hD hS hA (fun cA => rfl) (nI_pos hN2) (nI_clamp hN2) (by show N * 1 ≤ 536870912; omega) hcells hslots hdg fun q cB H1 k1 k2 k3 k4 => ?_
  have e1 : s.vm.findClass ("[" ++ FieldType.boolean.toString) = some cA := (hK.2 _ _ ht).2
  have e2 : s.vm.findClass ("[" ++ FieldType.boolean.toString) = some cB := (k1.2 tys.length (cB, .boolean) (by simp)).2
  have e3 : cB = cA := Option.some.inj (e2.symm.trans e1)
  subst e3
  exact kk q H1 k2 k3 k4
theorem k_newO (hx : p.tables.exec = Jvm.exec) (hb : c.code = cc) {own C : String} {index : Nat} (hown : s.vm.findClass own = some m.cls) (hclink : (Cond.classLink own index C).before args s = true) (hover : va_AO C s) (hK : va_K D cl tys s) (hP : va_P D cl ws H) (hD : va_D A ws) (hS : va_S A H0 H locs) (hA : ∀ q, H0.size ≤ q → A q) (t0 : Nat) {cA : ClassId} (ht : tys[t0]? = some (cA, .object C)) {n : Int32} (N : Nat) (hn : n = nI N) (hN : N < 134217728) (hcells : cells + 1 ≤ R.cells) (hslots : slots + N ≤ R.slots) (hdg : decode cc pc = .ok (.anewarray index, 3))
    (kk : ∀ (q : Nat) (H1 : Heap), va_P D cl (ws ++ [(q, .inl (cA, N, .inr (.inr (.inr (.inr (fun _ => none))))))]) H1 → va_D A (ws ++ [(q, .inl (cA, N, .inr (.inr (.inr (.inr (fun _ => none))))))]) → va_S A H0 H1 locs → W p l e R s m args below meth c H1 locs (cells + 1) (slots + N) Q (F0 m (pc + 3) ls (.ref q :: rest))) : W p l e R s m args below meth c H locs cells slots Q (F0 m pc ls (.int n :: rest)) := by
  subst hn
  have hN2 : N < 2147483648 := Nat.lt_trans hN (by decide)
  refine va_newq hx hb hown hclink hover hK hP hD hS hA (nI_pos hN2) (nI_clamp hN2) (by omega) hcells hslots hdg fun q cB H1 k1 k2 k3 k4 => ?_
  have e1 : s.vm.findClass ("[" ++ (FieldType.object C).toString) = some cA := by
    obtain ⟨kA, comp, -, -, -, h4⟩ := (hK.2 _ _ ht).2
    exact h4
  have e2 : s.vm.findClass ("[" ++ (FieldType.object C).toString) = some cB := by
    obtain ⟨kA, comp, -, -, -, h4⟩ := (k1.2 tys.length (cB, .object C) (by simp)).2
    exact h4
  have e3 : cB = cA := Option.some.inj (e2.symm.trans e1)
  subst e3
  exact kk q H1 k2 k3 k4
/-- a return: the world by its places -/
theorem k_ri {y : MethodName} {wd : List Cond} {maxL mc ms : Nat} {ty : FieldType} {S : Type} {w1 : S → va_W} {post : Int32 → S → Prop} {v : Int32} (B : k_Be p s m args meth c y wd cc maxL (some ty) D cl tys A) (hP : va_P D cl ws H) (hD : va_D A ws) (hS : va_S A s.heap H locs) (hdg : decode cc pc = .ok (.ireturn, 1)) (u : S) (is : List Nat) (hn : narrow ty (.int v) = .int v) (h1 : is.map (fun i => ws[i]?) = (w1 u).map some) (h2 : va_nd is = true) (hc : cells ≤ mc) (hs : slots ≤ ms) (hp : post v u) : W p l e R s m args below meth c H locs cells slots (MQ below (va_Qi post (fun u => k_B D cl tys A (w1 u)) A) args s mc ms A) (F0 m pc ls [.int v]) := by
  obtain ⟨hx, hb, -, -, -, hr, hlk, -, hK, -, -, -⟩ := B
  have hP9 := hP.sub (ws' := w1 u) is (by rw [k_fm h1])
  have hD9 := hD.sub (ws' := w1 u) is h2 h1
  refine W.widen hc hs ?_
  exact W.zret (v := v) hx hb hr hn (fun t ht hW => ⟨⟨v, u, rfl, hp, by rw [ht]; exact hP9, hD9⟩, hS.F ht⟩) hS.2.2 hdg hlk
theorem k_rv {y : MethodName} {wd : List Cond} {maxL mc ms : Nat} {S : Type} {w1 : S → va_W} {post : S → Prop} (B : k_Be p s m args meth c y wd cc maxL none D cl tys A) (hP : va_P D cl ws H) (hD : va_D A ws) (hS : va_S A s.heap H locs) (hdg : decode cc pc = .ok (.return_, 1)) (u : S) (is : List Nat) (h1 : is.map (fun i => ws[i]?) = (w1 u).map some) (h2 : va_nd is = true) (hc : cells ≤ mc) (hs : slots ≤ ms) (hp : post u) : W p l e R s m args below meth c H locs cells slots (MQ below (va_Qv post (fun u => k_B D cl tys A (w1 u)) A) args s mc ms A) (F0 m pc ls []) := by
  obtain ⟨hx, hb, -, -, -, hr, hlk, -, hK, -, -, -⟩ := B
  have hP9 := hP.sub (ws' := w1 u) is (by rw [k_fm h1])
  have hD9 := hD.sub (ws' := w1 u) is h2 h1
  refine W.widen hc hs ?_
  exact W.vret hx hb hr (fun t ht hW => ⟨⟨u, rfl, hp, by rw [ht]; exact hP9, hD9⟩, hS.F ht⟩) hS.2.2 hdg hlk
theorem k_rl {y : MethodName} {wd : List Cond} {maxL mc ms : Nat} {S : Type} {w1 : S → va_W} {post : Int64 → S → Prop} {v : Int64} (B : k_Be p s m args meth c y wd cc maxL (some .long) D cl tys A) (hP : va_P D cl ws H) (hD : va_D A ws) (hS : va_S A s.heap H locs) (hdg : decode cc pc = .ok (.lreturn, 1)) (u : S) (is : List Nat) (h1 : is.map (fun i => ws[i]?) = (w1 u).map some) (h2 : va_nd is = true) (hc : cells ≤ mc) (hs : slots ≤ ms) (hp : post v u) : W p l e R s m args below meth c H locs cells slots (MQ below (va_Ql post (fun u => k_B D cl tys A (w1 u)) A) args s mc ms A) (F0 m pc ls [.long v]) := by
  obtain ⟨hx, hb, -, -, -, hr, hlk, -, hK, -, -, -⟩ := B
  have hP9 := hP.sub (ws' := w1 u) is (by rw [k_fm h1])
  have hD9 := hD.sub (ws' := w1 u) is h2 h1
  refine W.widen hc hs ?_
  exact W.lret (v := v) hx hb hr (fun t ht hW => ⟨⟨v, u, rfl, hp, by rw [ht]; exact hP9, hD9⟩, hS.F ht⟩) hS.2.2 hdg hlk
theorem k_rr {y : MethodName} {wd : List Cond} {maxL mc ms : Nat} {ty : FieldType} {S : Type} {w1 : S → va_W} {post : Nat → S → Prop} {q : Nat} (B : k_Be p s m args meth c y wd cc maxL (some ty) D cl tys A) (hP : va_P D cl ws H) (hD : va_D A ws) (hS : va_S A s.heap H locs) (hdg : decode cc pc = .ok (.areturn, 1)) (u : S) (is : List Nat) (hty : (∃ n, ty = .object n) ∨ ∃ t, ty = .array t) (h1 : is.map (fun i => ws[i]?) = (w1 u).map some) (h2 : va_nd is = true) (hc : cells ≤ mc) (hs : slots ≤ ms) (hp : post q u) : W p l e R s m args below meth c H locs cells slots (MQ below (va_Qr (fun _ : S => True) (fun u a t => post a u ∧ k_B D cl tys A (w1 u) t) A) args s mc ms A) (F0 m pc ls [.ref q]) := by
  obtain ⟨hx, hb, -, -, -, hr, hlk, -, hK, -, -, -⟩ := B
  have hP9 := hP.sub (ws' := w1 u) is (by rw [k_fm h1])
  have hD9 := hD.sub (ws' := w1 u) is h2 h1
  refine W.widen hc hs ?_
  exact W.aret (v := .ref q) hx hb hr hty (Or.inr ⟨q, rfl⟩) (fun t ht hW => ⟨⟨u, q, rfl, trivial, hp, by rw [ht]; exact hP9, hD9⟩, hS.F ht⟩) hS.2.2 hdg hlk
/-- a call that is to be made: its contract, its words, its world (cut out of ours) -/
theorem k_pS {wc : va_W} {av : List Value} (hP : va_P D cl wc H) (hD : va_D A wc) (hK : va_K D cl tys s) (hN : k_N s) (hC : k_C D A s s.heap) (hS : va_S A s.heap H locs) (hF : ∀ q, va_A wc H.size q → A q) : PreS s H (k_pre D cl tys H.size wc av) av := ⟨fun a U g mk q => by obtain ⟨q0, q1, qP, qK, qN, qC, qD⟩ := q; exact ⟨q0, q1, qP, va_K.moved (u := U) (U := U.calling g mk a) (Vm.Alike.refl U.vm) qK, ⟨fun w hw => va_Nw.same rfl (u := U) (U := U.calling g mk a) rfl (qN.1 w hw), fun C hC => va_AO.moved (u := U) (U := U.calling g mk a) (Vm.Alike.refl U.vm) (qN.2 C hC)⟩, k_C.same (u := U) (U := U.calling g mk a) rfl qC, qD⟩, fun U hU hW => ⟨rfl, by rw [hU], by rw [hU]; exact hP, va_K.moved hW.alike hK, ⟨fun w hw => va_Nw.warmM hW (hN.1 w hw), fun C hC => va_AO.moved hW.alike (hN.2 C hC)⟩, by rw [hU]; exact (hC.kn hS.2.1 hF).warm hW, hD.weaken (fun _ _ _ _ => trivial)⟩⟩
theorem k_pV {wc : va_W} {As : List Value} {b q0 ci N : Nat} {fs : List Value} {C : String} {T : u_T} (hP : va_P D cl wc H) (hD : va_D A wc) (hK : va_K D cl tys s) (hN : k_N s) (hC : k_C D A s s.heap) (hS : va_S A s.heap H locs) (hF : ∀ q, va_A wc H.size q → A q) (hP0 : va_P D cl ws H) (he : ws[q0]? = some (b, .inr (ci, fs))) (hc : cl[ci]? = some (C, T, N)) : PreV s H C b (k_pre D cl tys H.size wc (.ref b :: As)) As := ⟨(k_pS (av := .ref b :: As) hP hD hK hN hC hS hF).1, va_recv hK hP0 hc he, (k_pS (av := .ref b :: As) hP hD hK hN hC hS hF).2⟩
theorem k_pT {wc : va_W} {As : List Value} (hP : va_P D cl wc H) (hD : va_D A wc) (hK : va_K D cl tys s) (hN : k_N s) (hC : k_C D A s s.heap) (hS : va_S A s.heap H locs) (hF : ∀ q, va_A wc H.size q → A q) : PreV s H "java/lang/String" (D.2 1000 0) (k_pre D cl tys H.size wc (.ref (D.2 1000 0) :: As)) As := ⟨(k_pS (av := .ref (D.2 1000 0) :: As) hP hD hK hN hC hS hF).1, vk_recv hC.1 (by decide) hS, (k_pS (av := .ref (D.2 1000 0) :: As) hP hD hK hN hC hS hF).2⟩
theorem k_ci {S : Type} {post : Int32 → S → Prop} {w1 w9 : S → va_W} {wc wr : va_W} {a : Array Value} {mc ms : Nat} (hr : va_P D cl wc H → va_D A wc → (∀ q, va_A wc H.size q → A q) → va_Run p l e R s m args below meth c H locs cells slots mc ms (F0 m pc ls st0) rest (va_Qi post (fun u => k_B D cl tys (va_A wc H.size) (w1 u)) (va_A wc H.size) a) (va_A wc H.size)) (hP : va_P D cl ws H) (hD : va_D A ws) (hS : va_S A s.heap H locs) (hA : ∀ q, s.heap.size ≤ q → A q) (isC isR : List Nat) (hC : isC.map (fun i => ws[i]?) = wc.map some) (hR : isR.map (fun i => ws[i]?) = wr.map some) (hnC : va_nd isC = true) (hn : va_nd isR = true) (hdis : ∀ i ∈ isR, i ∉ isC) (hw : ∀ u : S, wr ++ w1 u = w9 u) (c2 s2 : Nat) (hc2 : cells + mc = c2) (hs2 : slots + ms = s2)
    (kk : ∀ (r : Int32) (u : S) (H1 : Heap) (locs1 : List Loc), post r u → va_P D cl (w9 u) H1 → va_D A (w9 u) → va_S A s.heap H1 locs1 → W p l e R s m args below meth c H1 locs1 c2 s2 Q (F0 m (pc + 3) ls (.int r :: rest))) : W p l e R s m args below meth c H locs cells slots Q (F0 m pc ls st0) := by
  subst hc2; subst hs2
  have hF := va_free (wc := wc) hD hS hA isC hC
  refine va_calli (hr (hP.sub (ws' := wc) isC (k_fm hC)) (hD.sub (ws' := wc) isC hnC hC) hF) hS (fun q _ h => hF q h) hF (fun r u t H1 locs1 ht hvm hpo hB hz hk hS1 => ?_)
  obtain ⟨hP1, hD1⟩ := hB
  rw [ht] at hP1
  obtain ⟨hP2, hD2⟩ := va_join (wr := wr) (w1 := w1 u) hP hD isC isR hC hR hn hdis hk hF hP1 hD1
  rw [hw u] at hP2 hD2
  exact kk r u H1 locs1 hpo hP2 hD2 hS1
theorem k_cl {S : Type} {post : Int64 → S → Prop} {w1 w9 : S → va_W} {wc wr : va_W} {a : Array Value} {mc ms : Nat} (hr : va_P D cl wc H → va_D A wc → (∀ q, va_A wc H.size q → A q) → va_Run p l e R s m args below meth c H locs cells slots mc ms (F0 m pc ls st0) rest (va_Ql post (fun u => k_B D cl tys (va_A wc H.size) (w1 u)) (va_A wc H.size) a) (va_A wc H.size)) (hP : va_P D cl ws H) (hD : va_D A ws) (hS : va_S A s.heap H locs) (hA : ∀ q, s.heap.size ≤ q → A q) (isC isR : List Nat) (hC : isC.map (fun i => ws[i]?) = wc.map some) (hR : isR.map (fun i => ws[i]?) = wr.map some) (hnC : va_nd isC = true) (hn : va_nd isR = true) (hdis : ∀ i ∈ isR, i ∉ isC) (hw : ∀ u : S, wr ++ w1 u = w9 u) (c2 s2 : Nat) (hc2 : cells + mc = c2) (hs2 : slots + ms = s2)
    (kk : ∀ (r : Int64) (u : S) (H1 : Heap) (locs1 : List Loc), post r u → va_P D cl (w9 u) H1 → va_D A (w9 u) → va_S A s.heap H1 locs1 → W p l e R s m args below meth c H1 locs1 c2 s2 Q (F0 m (pc + 3) ls (.long r :: rest))) : W p l e R s m args below meth c H locs cells slots Q (F0 m pc ls st0) := by
  subst hc2; subst hs2
  have hF := va_free (wc := wc) hD hS hA isC hC
  refine va_calll (hr (hP.sub (ws' := wc) isC (k_fm hC)) (hD.sub (ws' := wc) isC hnC hC) hF) hS (fun q _ h => hF q h) hF (fun r u t H1 locs1 ht hvm hpo hB hz hk hS1 => ?_)
  obtain ⟨hP1, hD1⟩ := hB
  rw [ht] at hP1
  obtain ⟨hP2, hD2⟩ := va_join (wr := wr) (w1 := w1 u) hP hD isC isR hC hR hn hdis hk hF hP1 hD1
  rw [hw u] at hP2 hD2
  exact kk r u H1 locs1 hpo hP2 hD2 hS1
theorem k_cv {S : Type} {post : S → Prop} {w1 w9 : S → va_W} {wc wr : va_W} {a : Array Value} {mc ms : Nat} (hr : va_P D cl wc H → va_D A wc → (∀ q, va_A wc H.size q → A q) → va_Run p l e R s m args below meth c H locs cells slots mc ms (F0 m pc ls st0) rest (va_Qv post (fun u => k_B D cl tys (va_A wc H.size) (w1 u)) (va_A wc H.size) a) (va_A wc H.size)) (hP : va_P D cl ws H) (hD : va_D A ws) (hS : va_S A s.heap H locs) (hA : ∀ q, s.heap.size ≤ q → A q) (isC isR : List Nat) (hC : isC.map (fun i => ws[i]?) = wc.map some) (hR : isR.map (fun i => ws[i]?) = wr.map some) (hnC : va_nd isC = true) (hn : va_nd isR = true) (hdis : ∀ i ∈ isR, i ∉ isC) (hw : ∀ u : S, wr ++ w1 u = w9 u) (c2 s2 : Nat) (hc2 : cells + mc = c2) (hs2 : slots + ms = s2)
    (kk : ∀ (u : S) (H1 : Heap) (locs1 : List Loc), post u → va_P D cl (w9 u) H1 → va_D A (w9 u) → va_S A s.heap H1 locs1 → W p l e R s m args below meth c H1 locs1 c2 s2 Q (F0 m (pc + 3) ls (rest))) : W p l e R s m args below meth c H locs cells slots Q (F0 m pc ls st0) := by
  subst hc2; subst hs2
  have hF := va_free (wc := wc) hD hS hA isC hC
  refine va_callv (hr (hP.sub (ws' := wc) isC (k_fm hC)) (hD.sub (ws' := wc) isC hnC hC) hF) hS (fun q _ h => hF q h) hF (fun u t H1 locs1 ht hvm hpo hB hz hk hS1 => ?_)
  obtain ⟨hP1, hD1⟩ := hB
  rw [ht] at hP1
  obtain ⟨hP2, hD2⟩ := va_join (wr := wr) (w1 := w1 u) hP hD isC isR hC hR hn hdis hk hF hP1 hD1
  rw [hw u] at hP2 hD2
  exact kk u H1 locs1 hpo hP2 hD2 hS1
theorem k_cr {S : Type} {post : Nat → S → Prop} {w1 w9 : S → va_W} {wc wr : va_W} {a : Array Value} {mc ms : Nat} (hr : va_P D cl wc H → va_D A wc → (∀ q, va_A wc H.size q → A q) → va_Run p l e R s m args below meth c H locs cells slots mc ms (F0 m pc ls st0) rest (va_Qr (fun _ : S => True) (fun u a t => post a u ∧ k_B D cl tys (va_A wc H.size) (w1 u) t) (va_A wc H.size) a) (va_A wc H.size)) (hP : va_P D cl ws H) (hD : va_D A ws) (hS : va_S A s.heap H locs) (hA : ∀ q, s.heap.size ≤ q → A q) (isC isR : List Nat) (hC : isC.map (fun i => ws[i]?) = wc.map some) (hR : isR.map (fun i => ws[i]?) = wr.map some) (hnC : va_nd isC = true) (hn : va_nd isR = true) (hdis : ∀ i ∈ isR, i ∉ isC) (hw : ∀ u : S, wr ++ w1 u = w9 u) (c2 s2 : Nat) (hc2 : cells + mc = c2) (hs2 : slots + ms = s2)
    (kk : ∀ (r : Nat) (u : S) (H1 : Heap) (locs1 : List Loc), post r u → va_P D cl (w9 u) H1 → va_D A (w9 u) → va_S A s.heap H1 locs1 → W p l e R s m args below meth c H1 locs1 c2 s2 Q (F0 m (pc + 3) ls (.ref r :: rest))) : W p l e R s m args below meth c H locs cells slots Q (F0 m pc ls st0) := by
  subst hc2; subst hs2
  have hF := va_free (wc := wc) hD hS hA isC hC
  refine va_callr (hr (hP.sub (ws' := wc) isC (k_fm hC)) (hD.sub (ws' := wc) isC hnC hC) hF) hS (fun q _ h => hF q h) hF (fun u ra t H1 locs1 ht hvm _ hB hz hk hS1 => ?_)
  obtain ⟨hpo, hP1, hD1⟩ := hB
  rw [ht] at hP1
  obtain ⟨hP2, hD2⟩ := va_join (wr := wr) (w1 := w1 u) hP hD isC isR hC hR hn hdis hk hF hP1 hD1
  rw [hw u] at hP2 hD2
  exact kk ra u H1 locs1 hpo hP2 hD2 hS1
theorem k_new (hx : p.tables.exec = Jvm.exec) (hb : c.code = cc) {own C : String} {T : u_T} {N ci index : Nat} {Ts : List Cond} (hts : ∀ w ∈ Ts, w.before args s = true) (hin : ∀ w ∈ u_ws C T N, w ∈ Ts) (ty : Nat → FieldType) (hty : ∀ k, k < N → parseFieldDescriptor (T k).2.2.1 = some (ty k)) (hown : s.vm.findClass own = some m.cls) (hcl : (Cond.classLink own index C).before args s = true) (hinst : (Cond.instantiable C N).before args s = true) (hini : (Cond.initialized C).before args s = true)
    (hK : va_K D cl tys s) (hP : va_P D cl ws H) (hD : va_D A ws) (hS : va_S A H0 H locs) (hA : ∀ q, H0.size ≤ q → A q) (hc : cl[ci]? = some (C, T, N)) {fs : List Value} (hfs : ∀ j, j < N → defaultValue (ty j) = vp_V fs j) (c2 s2 : Nat) (hc2 : cells + 1 = c2) (hs2 : slots + N = s2) (hcells : c2 ≤ R.cells) (hslots : s2 ≤ R.slots) (hdg : decode cc pc = .ok (.new index, 3)) (w9 : Nat → va_W) (hw : ∀ q, ws ++ [(q, .inr (ci, fs))] = w9 q)
    (kk : ∀ (q : Nat) (H1 : Heap), va_P D cl (w9 q) H1 → va_D A (w9 q) → va_S A H0 H1 locs → W p l e R s m args below meth c H1 locs c2 s2 Q (F0 m (pc + 3) ls (.ref q :: rest))) : W p l e R s m args below meth c H locs cells slots Q (F0 m pc ls rest) := by
  subst hc2; subst hs2
  refine va_new (ci := ci) (fs := fs) hx hb hts hin ty hty hown hcl hinst hini hK hP hD hS hA hc hfs hcells hslots hdg (fun q H1 h1 h2 h3 => ?_)
  rw [hw] at h1 h2
  exact kk q H1 h1 h2 h3
/-- contents that nobody can tell apart -/
theorem k_cellI {cA : ClassId} {n : Nat} {f g : Nat → Int32} (h : ∀ k, k < n → f k = g k) : vp_cell cA (n, .inl f) = vp_cell cA (n, .inl g) := by
  show arrV cA n (fun k => .int (f k)) = arrV cA n (fun k => .int (g k))
  exact k_arrV (fun k hk => by rw [h k hk])
theorem k_cellJ {cA : ClassId} {n : Nat} {f g : Nat → Int64} (h : ∀ k, k < n → f k = g k) : vp_cell cA (n, .inr (.inl f)) = vp_cell cA (n, .inr (.inl g)) := by
  show arrV cA n (fun k => .long (f k)) = arrV cA n (fun k => .long (g k))
  exact k_arrV (fun k hk => by rw [h k hk])
theorem k_ltT {x y : Int32} {a b : Int} (hx : x.toInt = a) (hy : y.toInt = b) (h : x < y) : a < b := by rw [← hx, ← hy]; exact Int32.lt_iff_toInt_lt.mp h
theorem k_ltF {x y : Int32} {a b : Int} (hx : x.toInt = a) (hy : y.toInt = b) (h : ¬ x < y) : b ≤ a := by rw [← hx, ← hy]; exact Int.not_lt.mp (fun q => h (Int32.lt_iff_toInt_lt.mpr q))
theorem k_leT {x y : Int32} {a b : Int} (hx : x.toInt = a) (hy : y.toInt = b) (h : x ≤ y) : a ≤ b := by rw [← hx, ← hy]; exact Int32.le_iff_toInt_le.mp h
theorem k_leF {x y : Int32} {a b : Int} (hx : x.toInt = a) (hy : y.toInt = b) (h : ¬ x ≤ y) : b < a := by rw [← hx, ← hy]; exact Int.not_le.mp (fun q => h (Int32.le_iff_toInt_le.mpr q))
theorem k_eqT {x y : Int32} {a b : Int} (hx : x.toInt = a) (hy : y.toInt = b) (h : x = y) : a = b := by rw [← hx, ← hy, h]
theorem k_eqF {x y : Int32} {a b : Int} (hx : x.toInt = a) (hy : y.toInt = b) (h : ¬ x = y) : ¬ a = b := by rw [← hx, ← hy]; exact fun q => h (Int32.toInt_inj.mp q)
theorem k_eqL {x v : Int32} {n : Int} (hv : v.toInt = n) (h : x.toInt = n) : x = v := Int32.toInt_inj.mp (h.trans hv.symm)
theorem k_aald (hx : p.tables.exec = Jvm.exec) (hb : c.code = cc) (hK : va_K D cl tys s) (hP : va_P D cl ws H) (q0 t0 j : Nat) {cA : ClassId} {C : String} {n : Nat} {f : Nat → Option Nat} (ha : ws[q0]? = some (a, .inl (cA, n, .inr (.inr (.inr (.inr f)))))) (ht : tys[t0]? = some (cA, .object C)) {i : Int32} {v : Value} (hi : i = nI j) (hj : j < n) (hn : n < 2147483648) (hv : va_rf (f j) = v) (hdg : decode cc pc = .ok (.aaload, 1))
    (kk : W p l e R s m args below meth c H locs cells slots Q (F0 m (pc + 1) ls (v :: rest))) : W p l e R s m args below meth c H locs cells slots Q (F0 m pc ls (.int i :: .ref a :: rest)) := by
  subst hv; subst hi
  refine va_aldq hx hb hK hP q0 t0 ha ht (vp_in_nI hj hn) hdg ?_
  rw [nI_clamp (Nat.lt_trans hj hn)]; exact kk
theorem k_aast (hx : p.tables.exec = Jvm.exec) (hb : c.code = cc) (hK : va_K D cl tys s) (hP : va_P D cl ws H) (hD : va_D A ws) (hS : va_S A H0 H locs) (q0 t0 qk ci j : Nat) {cA : ClassId} {r : vw_C} {n v : Nat} {vs : List Value} {f g : Nat → Option Nat} (ha : ws[q0]? = some (a, .inl (cA, n, .inr (.inr (.inr (.inr f)))))) (ht : tys[t0]? = some (cA, .object r.1)) (hv : ws[qk]? = some (v, .inr (ci, vs))) (hc : cl[ci]? = some r) {i : Int32} (hi : i = nI j) (hj : j < n) (hn : n < 2147483648) (hg : va_up f j (some v) = g) (hw : ws.set q0 (a, .inl (cA, n, .inr (.inr (.inr (.inr g))))) = ws') (hdg : decode cc pc = .ok (.aastore, 1))
    (kk : ∀ (H1 : Heap) (locs1 : List Loc), va_P D cl ws' H1 → va_D A ws' → va_S A H0 H1 locs1 → W p l e R s m args below meth c H1 locs1 cells slots Q (F0 m (pc + 1) ls rest)) : W p l e R s m args below meth c H locs cells slots Q (F0 m pc ls (.ref v :: .int i :: .ref a :: rest)) := by
  subst hg; subst hi; subst hw
  refine va_astq hx hb hK hP hD hS q0 t0 qk ci ha ht hv hc (vp_in_nI hj hn) hdg fun H1 locs1 h1 h2 h3 => kk H1 locs1 ?_ ?_ h3
  · rw [nI_clamp (Nat.lt_trans hj hn)] at h1; exact h1
  · rw [nI_clamp (Nat.lt_trans hj hn)] at h2; exact h2
theorem k_sw3 (x : Int32) : x.toInt = 0 ∨ x.toInt = 1 ∨ x.toInt = 2 ∨ (x.toInt < 0 ∨ 2 < x.toInt) := by omega
theorem k_sw4 (x : Int32) : x.toInt = 0 ∨ x.toInt = 1 ∨ x.toInt = 2 ∨ x.toInt = 3 ∨ (x.toInt < 0 ∨ 3 < x.toInt) := by omega
theorem k_sw6 (x : Int32) : x.toInt = 0 ∨ x.toInt = 1 ∨ x.toInt = 2 ∨ x.toInt = 3 ∨ x.toInt = 4 ∨ x.toInt = 5 ∨ (x.toInt < 0 ∨ 5 < x.toInt) := by omega
theorem k_sw8 (x : Int32) : x.toInt = 0 ∨ x.toInt = 1 ∨ x.toInt = 2 ∨ x.toInt = 3 ∨ x.toInt = 4 ∨ x.toInt = 5 ∨ x.toInt = 6 ∨ x.toInt = 7 ∨ (x.toInt < 0 ∨ 7 < x.toInt) := by omega
theorem k_sw30 (x : Int32) : x.toInt = 0 ∨ x.toInt = 1 ∨ x.toInt = 2 ∨ x.toInt = 3 ∨ x.toInt = 4 ∨ x.toInt = 5 ∨ x.toInt = 6 ∨ x.toInt = 7 ∨ x.toInt = 8 ∨ x.toInt = 9 ∨ x.toInt = 10 ∨ x.toInt = 11 ∨ x.toInt = 12 ∨ x.toInt = 13 ∨ x.toInt = 14 ∨ x.toInt = 15 ∨ x.toInt = 16 ∨ x.toInt = 17 ∨ x.toInt = 18 ∨ x.toInt = 19 ∨ x.toInt = 20 ∨ x.toInt = 21 ∨ x.toInt = 22 ∨ x.toInt = 23 ∨ x.toInt = 24 ∨ x.toInt = 25 ∨ x.toInt = 26 ∨ x.toInt = 27 ∨ x.toInt = 28 ∨ x.toInt = 29 ∨ (x.toInt < 0 ∨ 29 < x.toInt) := by omega
theorem k_sw14 (x : Int32) : x.toInt = 0 ∨ x.toInt = 1 ∨ x.toInt = 2 ∨ x.toInt = 3 ∨ x.toInt = 4 ∨ x.toInt = 5 ∨ x.toInt = 6 ∨ x.toInt = 7 ∨ x.toInt = 8 ∨ x.toInt = 9 ∨ x.toInt = 10 ∨ x.toInt = 11 ∨ x.toInt = 12 ∨ x.toInt = 13 ∨ (x.toInt < 0 ∨ 13 < x.toInt) := by omega
theorem k_fillS {f : Nat → Int32} {k : Nat} {v : Int32} (h : ∀ j, j < k → f j = v) : ∀ j, j < k + 1 → upd f k v j = v := by
  intro j hj
  unfold upd
  split
  · rfl
  · exact h j (by omega)
theorem k_contI (hP : va_P D cl ws H) {f g : Nat → Int32} (q0 : Nat) {cA : ClassId} {n : Nat} (ha : ws[q0]? = some (a, .inl (cA, n, .inl f))) (h : ∀ k, k < n → f k = g k) (hw : ws.set q0 (a, .inl (cA, n, .inl g)) = ws') : va_P D cl ws' H := by
  subst hw
  intro k q hq
  rw [List.getElem?_set] at hq
  split at hq
  · split at hq
    · cases hq
      have h1 := hP q0 _ ha
      show H[a]? = some (vp_cell cA (n, .inl g))
      rw [← k_cellI h]
      exact h1
    · cases hq
  · exact hP k q hq
theorem k_contD (hD : va_D A ws) {x y : va_E} (q0 : Nat) (ha : ws[q0]? = some (a, x)) (hw : ws.set q0 (a, y) = ws') : va_D A ws' := by
  subst hw
  have key : ∀ (k : Nat) (q : Nat × va_E), (ws.set q0 (a, y))[k]? = some q → ∃ q' : Nat × va_E, ws[k]? = some q' ∧ q'.1 = q.1 := by
    intro k q hq
    rw [List.getElem?_set] at hq
    split at hq
    · next e =>
      subst e
      split at hq
      · cases hq; exact ⟨_, ha, rfl⟩
      · cases hq
    · exact ⟨q, hq, rfl⟩
  refine ⟨fun i j p q hp hq e => ?_, fun k q hk => ?_⟩
  · obtain ⟨p', hp', ep⟩ := key i p hp
    obtain ⟨q', hq', eq⟩ := key j q hq
    exact hD.1 i j p' q' hp' hq' (ep.trans (e.trans eq.symm))
  · obtain ⟨q', hq', eq⟩ := key k q hk
    have := hD.2 k q' hq'
    rw [eq] at this
    exact this
theorem k_inc {x y : Int32} (h : x.toInt < y.toInt) : (x + 1).toInt = x.toInt + 1 := by
  have h1 := Int32.toInt_lt y
  have h2 := Int32.le_toInt x
  have e := Int32.toInt_add x 1
  have e1 : (1 : Int32).toInt = 1 := by decide
  rw [e1] at e
  rw [e, Int.bmod_def]
  omega
theorem k_and0 (x : Int32) : (0 : Int32) &&& x = 0 := by simp
theorem k_fillR {f : Nat → Int32} {N lo k : Nat} {v b : Int32} (h : ∀ j, j < N → f j = if lo ≤ j ∧ j < k then v else b) (hk : lo ≤ k) : ∀ j, j < N → upd f k v j = if lo ≤ j ∧ j < k + 1 then v else b := by
  intro j hj
  unfold upd
  split
  · next e => rw [if_pos (by omega)]
  · next e =>
    rw [h j hj]
    by_cases c : lo ≤ j ∧ j < k
    · rw [if_pos c, if_pos (by omega)]
    · rw [if_neg c, if_neg (by omega)]
theorem k_fillR0 {N lo : Nat} {v b : Int32} : ∀ j, j < N → (fun _ : Nat => b) j = if lo ≤ j ∧ j < lo then v else b := fun j _ => by rw [if_neg (by omega)]
theorem k_fillSL {f : Nat → Int64} {k : Nat} {v : Int64} (h : ∀ j, j < k → f j = v) : ∀ j, j < k + 1 → vp_updL f k v j = v := by
  intro j hj
  unfold vp_updL
  split
  · rfl
  · exact h j (by omega)
theorem k_contJ (hP : va_P D cl ws H) {f g : Nat → Int64} (q0 : Nat) {cA : ClassId} {n : Nat} (ha : ws[q0]? = some (a, .inl (cA, n, .inr (.inl f)))) (h : ∀ k, k < n → f k = g k) (hw : ws.set q0 (a, .inl (cA, n, .inr (.inl g))) = ws') : va_P D cl ws' H := by
  subst hw
  intro k q hq
  rw [List.getElem?_set] at hq
  split at hq
  · split at hq
    · cases hq
      have h1 := hP q0 _ ha
      show H[a]? = some (vp_cell cA (n, .inr (.inl g)))
      rw [← k_cellJ h]
      exact h1
    · cases hq
  · exact hP k q hq
theorem k_look2 {x a b d o1 o2 : Int} (h : ¬ x = a ∧ ¬ x = b) : Op.lookupswitch.offset [(a, o1), (b, o2)] d x = d := by
  rw [Op.lookupswitch.offset_cons, if_neg (fun q => h.1 q.symm), Op.lookupswitch.offset_cons, if_neg (fun q => h.2 q.symm)]
  rfl
theorem k_sld {b L : Nat} {xs : Nat → Int32} (j : Nat) (hx : p.tables.exec = Jvm.exec) (hb : c.code = cc) (hX : va_X b L xs s H0) (hbl : b < H0.size) (hbA : ¬ A b) (hS : va_S A H0 H locs) {i : Int32} (hi : i = nI j) (hj : j + 1 ≤ L) (hL : L + 1 ≤ 2147483648) (hdg : decode cc pc = .ok (.iaload, 1))
    (kk : W p l e R s m args below meth c H locs cells slots Q (F0 m (pc + 1) ls (.int (xs j) :: rest))) : W p l e R s m args below meth c H locs cells slots Q (F0 m pc ls (.int i :: .ref b :: rest)) := by
  subst hi
  refine va_sld hx hb hX hbl hbA hS (vp_in_nI (Nat.lt_of_succ_le hj) (Nat.lt_of_succ_le hL)) hdg ?_
  rw [nI_clamp (by omega)]; exact kk
end KLIB
